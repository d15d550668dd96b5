section
theorem pk_us {f : Nat → Int32} {k : Nat} {x : Int32} : upd f k x k = x := if_pos rfl
theorem pk_un {f : Nat → Int32} {k j : Nat} {x : Int32} (h : j ≠ k) : upd f k x j = f j := if_neg h
theorem pk_sub {a b : Nat} (h : b ≤ a) : nI a - nI b = nI (a - b) := by
  obtain ⟨c, rfl⟩ : ∃ c, a = c + b := ⟨a - b, by omega⟩
  rw [← nI_add, Int32.add_sub_cancel, Nat.add_sub_cancel]
theorem pk_m1 (n : Nat) : nI (n + 1) + (-1) = nI n := by
  rw [← nI_1, Int32.add_assoc, show (1 : Int32) + (-1) = 0 from rfl, Int32.add_zero]
theorem pk_mul (a b : Nat) : nI a * nI b = nI (a * b) := (Int32.ofNat_mul a b).symm
theorem pk_div {a d : Nat} (ha : a < 2 ^ 31) (h0 : 0 < d) (hd : d < 2 ^ 31) : nI a / nI d = nI (a / d) := by
  apply Int32.toInt_inj.mp
  rw [lg_idiv_nonneg (by rw [nI_toInt ha]; omega) (by rw [nI_toInt hd]; omega), nI_toInt ha, nI_toInt hd, nI_toInt (Nat.lt_of_le_of_lt (Nat.div_le_self a d) ha)]
  first | rfl | exact (Int.natCast_ediv _ _).symm
theorem pk_rem {a d : Nat} (ha : a < 2 ^ 31) (h0 : 0 < d) (hd : d < 2 ^ 31) : nI a - nI a / nI d * nI d = nI (a % d) := by
  rw [pk_div ha h0 hd, pk_mul, pk_sub (Nat.div_mul_le_self a d)]
  exact congrArg nI (by have := Nat.div_add_mod' a d; omega)
theorem pk_ix (x : Int32) {n : Nat} (hn : n < 2 ^ 31) : x < 0 ∨ nI n ≤ x ∨ ∃ j : Nat, j < n ∧ x = nI j := by
  by_cases h : x < 0
  · exact Or.inl h
  · obtain ⟨j, hj, rfl⟩ := nI_of h
    by_cases h2 : j < n
    · exact Or.inr (Or.inr ⟨j, h2, rfl⟩)
    · exact Or.inr (Or.inl (nI_le (by omega) hj))
theorem pk_le {x y : Int32} {A B : Prop} (a b : Nat) (f : a ≤ b → A) (g : b < a → B) (hx : x = nI a := by rfl) (hy : y = nI b := by rfl) (ha : a < 2 ^ 31 := by omega) (hb : b < 2 ^ 31 := by omega) : (x ≤ y → A) ∧ (¬ x ≤ y → B) := by
  subst hx hy
  rw [nI_leI ha hb]
  exact ⟨f, fun z => g (by omega)⟩
theorem pk_lt {x y : Int32} {A B : Prop} (a b : Nat) (f : a < b → A) (g : b ≤ a → B) (hx : x = nI a := by rfl) (hy : y = nI b := by rfl) (ha : a < 2 ^ 31 := by omega) (hb : b < 2 ^ 31 := by omega) : (x < y → A) ∧ (¬ x < y → B) := by
  subst hx hy
  rw [nI_ltI ha hb]
  exact ⟨f, fun z => g (by omega)⟩
theorem pk_eq {x y : Int32} {A B : Prop} (a b : Nat) (f : a = b → A) (g : a ≠ b → B) (hx : x = nI a := by rfl) (hy : y = nI b := by rfl) (ha : a < 2 ^ 31 := by omega) (hb : b < 2 ^ 31 := by omega) : (x = y → A) ∧ (¬ x = y → B) := by
  subst hx hy
  rw [nI_eq ha hb]
  exact ⟨f, g⟩
theorem pk_in {x : Int32} (n N : Nat) (h : n < N) (hx : x = nI n := by rfl) (hN : N < 2 ^ 31 := by omega) : vp_in x N := by
  subst hx
  exact vp_in_nI h hN
theorem pk_cl {x : Int32} (n : Nat) (hx : x = nI n := by rfl) (h : n < 2 ^ 31 := by omega) : x.toNatClampNeg = n := by
  subst hx
  exact nI_clamp h
theorem pk_and (x : Int32) {m : Int32} (k : Nat) (hm : m.toBitVec.toNat = 2 ^ k - 1) : x &&& m = nI (x.toBitVec.toNat % 2 ^ k) := by
  apply Int32.toBitVec_inj.mp
  apply BitVec.eq_of_toNat_eq
  rw [Int32.toBitVec_and, BitVec.toNat_and, hm, Nat.and_two_pow_sub_one_eq_mod]
  show _ = (BitVec.ofNat 32 _).toNat
  rw [BitVec.toNat_ofNat]
  exact (Nat.mod_eq_of_lt (Nat.lt_of_le_of_lt (Nat.mod_le _ _) x.toBitVec.isLt)).symm
theorem pk_andE (x : Int32) {m : Int32} (k : Nat) (hm : m.toBitVec.toNat = 2 ^ k - 1) : ∃ j : Nat, j < 2 ^ k ∧ x &&& m = nI j := ⟨_, Nat.mod_lt _ (Nat.two_pow_pos k), pk_and x k hm⟩
theorem pk_andIn (x : Int32) {m : Int32} (k : Nat) (hm : m.toBitVec.toNat = 2 ^ k - 1) (hk : k ≤ 30) : vp_in (x &&& m) (2 ^ k) := by
  obtain ⟨j, hj, e⟩ := pk_andE x k hm
  rw [e]
  exact vp_in_nI hj (Nat.lt_of_le_of_lt (Nat.pow_le_pow_right (by decide) hk) (by decide))
theorem pk_ns (z : Int32) : narrow .short (.int z.toInt16.toInt32) = .int z.toInt16.toInt32 := congrArg Value.int (by simp)
theorem pk_vb (z : Int32) : vp_nar .byte z.toInt8.toInt32 = z.toInt8.toInt32 := by rw [vp_nar_byte]; simp
theorem pk_vs (z : Int32) : vp_nar .short z.toInt16.toInt32 = z.toInt16.toInt32 := by rw [vp_nar_short]; simp
theorem sb_m1 {p : Nat} (h : 0 < p) : nI p + (-1) = nI (p - 1) := by
  obtain ⟨q, rfl⟩ : ∃ q, p = q + 1 := ⟨p - 1, by omega⟩
  exact pk_m1 q
end
section
/-! PURE: words as both sides hold them, frames, the parts begun -/
def fc_J (c : Nat) : Prop := c = 23 ∨ c = 24 ∨ c = 27 ∨ c = 28 ∨ c = 29 ∨ c = 31
/-- a CALL's word -/
def fc_N22 (c w : Nat) (x : Int32) : Prop := c = 22 → ∃ m : Nat, m ≤ w ∧ x = nI m
/-- token i of word w: P its places in X's code, D the loops begun ahead of it -/
def fc_Tok (w L : Nat) (P D : Nat → Nat) (o n pt co ca : Nat → Int32) (i : Nat) : Prop :=
  ∃ c p : Nat, c < 34 ∧ o (24 * w + i) = nI c ∧ P i ≤ i ∧
    (((c = 25 ∨ c = 26) ∧ P (i + 1) = P i) ∨
      (P (i + 1) = P i + 1 ∧ P i < P L ∧ co (24 * w + P i) = nI c ∧ (fc_J c → ca (24 * w + P i) = nI (P (p + 1))) ∧ (¬ fc_J c → ca (24 * w + P i) = lw_i16 (n (24 * w + i))))) ∧
    (fc_J c → pt (24 * w + i) = nI p ∧ p < L ∧ D (p + 1) = D i) ∧
    fc_N22 c w (n (24 * w + i)) ∧
    (c = 30 → D (i + 1) = D i + 1) ∧ (c = 31 → D i = D (i + 1) + 1) ∧ (c = 32 → 1 ≤ D i) ∧ (c ≠ 30 → c ≠ 31 → D (i + 1) = D i)
def fc_Word (w L : Nat) (P D : Nat → Nat) (len o n pt wl co ca : Nat → Int32) : Prop :=
  L ≤ 24 ∧ P 0 = 0 ∧ D 0 = 0 ∧ P L ≤ L ∧ len w = nI L ∧ wl w = nI (P L) ∧ (∀ i, i ≤ L → P i ≤ P L) ∧ ∀ i, i < L → fc_Tok w L P D o n pt co ca i
def fc_Words (W : Nat) (LL : Nat → Nat) (PP DD : Nat → Nat → Nat) (len o n pt wl co ca : Nat → Int32) : Prop :=
  ∀ w, w < W → fc_Word w (LL w) (PP w) (DD w) len o n pt wl co ca
theorem fc_Tok_c {w L W : Nat} {P D : Nat → Nat} {o n pt co ca o' n' pt' co' ca' : Nat → Int32} {i : Nat} (hw : w < W) (hi : i < 24)
    (ho : ∀ j, j < 24 * W → o' j = o j) (hn : ∀ j, j < 24 * W → n' j = n j) (hp : ∀ j, j < 24 * W → pt' j = pt j) (hc : ∀ j, j < 24 * W → co' j = co j) (ha : ∀ j, j < 24 * W → ca' j = ca j)
    (h : fc_Tok w L P D o n pt co ca i) : fc_Tok w L P D o' n' pt' co' ca' i := by
  obtain ⟨c, p, h1, h2, h3, h4, h5, h6, h7, h8, h9, h10⟩ := h
  have a1 : 24 * w + i < 24 * W := by omega
  have a2 : 24 * w + P i < 24 * W := by omega
  refine ⟨c, p, h1, (ho _ a1).trans h2, h3, ?_, ?_, ?_, h7, h8, h9, h10⟩
  · rw [hc _ a2, ha _ a2, hn _ a1]; exact h4
  · rw [hp _ a1]; exact h5
  · rw [hn _ a1]; exact h6
theorem fc_Words_c {W V : Nat} {LL : Nat → Nat} {PP DD : Nat → Nat → Nat} {len o n pt wl co ca len' o' n' pt' wl' co' ca' : Nat → Int32} (hV : V ≤ W)
    (hl : ∀ j, j < W → len' j = len j) (hz : ∀ j, j < W → wl' j = wl j)
    (ho : ∀ j, j < 24 * W → o' j = o j) (hn : ∀ j, j < 24 * W → n' j = n j) (hp : ∀ j, j < 24 * W → pt' j = pt j) (hc : ∀ j, j < 24 * W → co' j = co j) (ha : ∀ j, j < 24 * W → ca' j = ca j)
    (h : fc_Words W LL PP DD len o n pt wl co ca) : fc_Words V LL PP DD len' o' n' pt' wl' co' ca' := by
  intro w hw
  have hw' : w < W := by omega
  obtain ⟨h1, h2, h3, h4, h5, h6, h7, h8⟩ := h w hw'
  exact ⟨h1, h2, h3, h4, (hl w hw').trans h5, (hz w hw').trans h6, h7, fun i hi => fc_Tok_c hw' (by omega) ho hn hp hc ha (h8 i hi)⟩
/-- a word more -/
theorem fc_Words_s {W L : Nat} {LL P D : Nat → Nat} {PP DD : Nat → Nat → Nat} {len o n pt wl co ca : Nat → Int32}
    (h : fc_Words W LL PP DD len o n pt wl co ca) (hW : fc_Word W L P D len o n pt wl co ca) :
    fc_Words (W + 1) (fun w => if w = W then L else LL w) (fun w => if w = W then P else PP w) (fun w => if w = W then D else DD w) len o n pt wl co ca := by
  intro w hw
  by_cases e : w = W
  · subst e
    simp only [if_true]
    exact hW
  · simp only [if_neg e]
    exact h w (by omega)
/-! the places of the tokens (lv: the level), the loops ahead of each -/
def fc_pl (lv : Nat) (c : Nat → Nat) : Nat → Nat
  | 0 => 0
  | i + 1 => if lv = 1 ∧ (c i = 25 ∨ c i = 26) then fc_pl lv c i else fc_pl lv c i + 1
def fc_dn (c : Nat → Nat) : Nat → Nat
  | 0 => 0
  | i + 1 => if c i = 30 then fc_dn c i + 1 else if c i = 31 then fc_dn c i - 1 else fc_dn c i
theorem fc_pl_s {lv : Nat} {c : Nat → Nat} {i : Nat} : fc_pl lv c (i + 1) = if lv = 1 ∧ (c i = 25 ∨ c i = 26) then fc_pl lv c i else fc_pl lv c i + 1 := rfl
theorem fc_dn_s {c : Nat → Nat} {i : Nat} : fc_dn c (i + 1) = if c i = 30 then fc_dn c i + 1 else if c i = 31 then fc_dn c i - 1 else fc_dn c i := rfl
theorem fc_pl_le {lv : Nat} {c : Nat → Nat} : ∀ i, fc_pl lv c i ≤ i := by
  intro i
  induction i with
  | zero => exact Nat.le_refl 0
  | succ i ih => rw [fc_pl_s]; split <;> omega
theorem fc_pl_m1 {lv : Nat} {c : Nat → Nat} (i : Nat) : fc_pl lv c i ≤ fc_pl lv c (i + 1) := by rw [fc_pl_s]; split <;> omega
theorem fc_pl_m {lv : Nat} {c : Nat → Nat} {i : Nat} : ∀ j, i ≤ j → fc_pl lv c i ≤ fc_pl lv c j := by
  intro j
  induction j with
  | zero => intro h; have : i = 0 := by omega
            subst this; exact Nat.le_refl _
  | succ j ih =>
    intro h
    by_cases e : i = j + 1
    · subst e; exact Nat.le_refl _
    · exact Nat.le_trans (ih (by omega)) (fc_pl_m1 j)
theorem fc_pl_k {lv : Nat} {c : Nat → Nat} {i : Nat} (h : ¬ (lv = 1 ∧ (c i = 25 ∨ c i = 26))) : fc_pl lv c (i + 1) = fc_pl lv c i + 1 := by rw [fc_pl_s, if_neg h]
theorem fc_pl_d {lv : Nat} {c : Nat → Nat} {i : Nat} (h : lv = 1 ∧ (c i = 25 ∨ c i = 26)) : fc_pl lv c (i + 1) = fc_pl lv c i := by rw [fc_pl_s, if_pos h]
theorem fc_pl_lt {lv : Nat} {c : Nat → Nat} {i j : Nat} (h : ¬ (lv = 1 ∧ (c i = 25 ∨ c i = 26))) (hj : i < j) : fc_pl lv c i < fc_pl lv c j := by
  have h1 := fc_pl_k h
  have h2 := fc_pl_m (lv := lv) (c := c) (i := i + 1) j hj
  omega
/-! a sum below k -/
def fc_sm (g : Nat → Nat) : Nat → Nat
  | 0 => 0
  | k + 1 => fc_sm g k + g k
theorem fc_sm_s {g : Nat → Nat} {k : Nat} : fc_sm g (k + 1) = fc_sm g k + g k := rfl
theorem fc_sm_c {g h : Nat → Nat} : ∀ k, (∀ f, f < k → g f = h f) → fc_sm g k = fc_sm h k := by
  intro k
  induction k with
  | zero => exact fun _ => rfl
  | succ k ih => intro e; rw [fc_sm_s, fc_sm_s, ih (fun f hf => e f (by omega)), e k (by omega)]
/-! functions into the naturals, changed at one place -/
def fc_set (g : Nat → Nat) (k v : Nat) : Nat → Nat := fun j => if j = k then v else g j
theorem fc_set_s {g : Nat → Nat} {k v : Nat} : fc_set g k v k = v := if_pos rfl
theorem fc_set_n {g : Nat → Nat} {k v j : Nat} (h : j ≠ k) : fc_set g k v j = g j := if_neg h
theorem fc_set_u (g : Nat → Nat) (k v : Nat) : upd (fun j => nI (g j)) k (nI v) = fun j => nI (fc_set g k v j) := by
  funext j
  show (if j = k then nI v else nI (g j)) = nI (if j = k then v else g j)
  split <;> rfl
/-! the parts begun and not ended, the latest first: (the token, the BEGIN of a WHILE) -/
def fc_hs (c : Nat → Nat) : List (Nat × Nat) → Nat
  | [] => 0
  | e :: T => fc_hs c T + (if c e.1 = 28 then 2 else 1)
def fc_dc (c : Nat → Nat) : List (Nat × Nat) → Nat
  | [] => 0
  | e :: T => fc_dc c T + (if c e.1 = 30 then 1 else 0)
/-- X's waiting tokens -/
def fc_rx (w : Nat → Int32) : List (Nat × Nat) → Prop
  | [] => True
  | e :: T => w T.length = nI e.1 ∧ fc_rx w T
/-- those of Y -/
def fc_ry (c : Nat → Nat) (q : Nat → Int32) : List (Nat × Nat) → Prop
  | [] => True
  | e :: T => (c e.1 = 28 → q (fc_hs c T) = nI e.2 ∧ q (fc_hs c T + 1) = nI e.1) ∧ (c e.1 ≠ 28 → q (fc_hs c T) = nI e.1) ∧ fc_ry c q T
def fc_ok (c : Nat → Nat) (g : Nat → Int32) : Nat → List (Nat × Nat) → Prop
  | _, [] => True
  | i, e :: T => e.1 < i ∧ (c e.1 = 23 ∨ c e.1 = 24 ∨ c e.1 = 26 ∨ c e.1 = 28 ∨ c e.1 = 30) ∧ fc_dn c e.1 = fc_dc c T ∧
      (c e.1 = 28 → e.2 < e.1 ∧ c e.2 = 26 ∧ fc_dn c e.2 = fc_dc c T ∧ g e.1 = nI (e.2 + 1)) ∧ fc_ok c g e.1 T
theorem fc_rx_u {w : Nat → Int32} {k : Nat} {x : Int32} : ∀ S : List (Nat × Nat), S.length ≤ k → fc_rx w S → fc_rx (upd w k x) S := by
  intro S
  induction S with
  | nil => exact fun _ _ => trivial
  | cons e T ih =>
    intro hk h
    have hl : T.length + 1 ≤ k := hk
    exact ⟨(pk_un (by omega)).trans h.1, ih (by omega) h.2⟩
theorem fc_ry_u {c : Nat → Nat} {q : Nat → Int32} {k : Nat} {x : Int32} : ∀ S : List (Nat × Nat), fc_hs c S ≤ k → fc_ry c q S → fc_ry c (upd q k x) S := by
  intro S
  induction S with
  | nil => exact fun _ _ => trivial
  | cons e T ih =>
    intro hk h
    have hl : fc_hs c T + (if c e.1 = 28 then 2 else 1) ≤ k := hk
    refine ⟨fun h8 => ?_, fun h8 => ?_, ih (by split at hl <;> omega) h.2.2⟩
    · rw [if_pos h8] at hl
      exact ⟨(pk_un (by omega)).trans (h.1 h8).1, (pk_un (by omega)).trans (h.1 h8).2⟩
    · rw [if_neg h8] at hl
      exact (pk_un (by omega)).trans (h.2.1 h8)
theorem fc_ok_u {c : Nat → Nat} {g : Nat → Int32} {k : Nat} {x : Int32} : ∀ (S : List (Nat × Nat)) (i : Nat), i ≤ k → fc_ok c g i S → fc_ok c (upd g k x) i S := by
  intro S
  induction S with
  | nil => exact fun _ _ _ => trivial
  | cons e T ih =>
    intro i hk h
    obtain ⟨h1, h2, h3, h4, h5⟩ := h
    refine ⟨h1, h2, h3, fun h8 => ?_, ih e.1 (by omega) h5⟩
    obtain ⟨a, b, d, f⟩ := h4 h8
    exact ⟨a, b, d, (pk_un (by omega)).trans f⟩
theorem fc_ok_m {c : Nat → Nat} {g : Nat → Int32} {i k : Nat} (hk : i ≤ k) : ∀ S : List (Nat × Nat), fc_ok c g i S → fc_ok c g k S := by
  intro S
  cases S with
  | nil => exact fun _ => trivial
  | cons e T => exact fun h => ⟨by have := h.1; omega, h.2⟩
theorem fc_hs_le {c : Nat → Nat} {g : Nat → Int32} : ∀ S : List (Nat × Nat), S.length ≤ fc_hs c S := by
  intro S
  induction S with
  | nil => exact Nat.le_refl 0
  | cons e T ih =>
    show T.length + 1 ≤ fc_hs c T + (if c e.1 = 28 then 2 else 1)
    split <;> omega
/-- whether a loop is begun, as X scans for it -/
theorem fc_dcx {c : Nat → Nat} {g w : Nat → Int32} : ∀ (S : List (Nat × Nat)) (i : Nat), fc_rx w S → fc_ok c g i S → ∀ k, k < S.length → ∃ j, j < i ∧ w k = nI j ∧ (c j = 30 → 0 < fc_dc c S) := by
  intro S
  induction S with
  | nil => exact fun _ _ _ k hk => absurd hk (Nat.not_lt_zero k)
  | cons e T ih =>
    intro i h h' k hk
    have hk' : k < T.length + 1 := hk
    have ed : fc_dc c (e :: T) = fc_dc c T + (if c e.1 = 30 then 1 else 0) := rfl
    by_cases z : k = T.length
    · subst z
      exact ⟨e.1, h'.1, h.1, fun c3 => by rw [ed, if_pos c3]; omega⟩
    · obtain ⟨j, a, b, d⟩ := ih e.1 h.2 h'.2.2.2.2 k (by omega)
      exact ⟨j, by have := h'.1; omega, b, fun c3 => by have := d c3; rw [ed]; omega⟩
theorem fc_dcx0 {c : Nat → Nat} {g w : Nat → Int32} : ∀ (S : List (Nat × Nat)) (i : Nat), fc_rx w S → fc_ok c g i S → 0 < fc_dc c S → ∃ k j, k < S.length ∧ w k = nI j ∧ j < i ∧ c j = 30 := by
  intro S
  induction S with
  | nil => exact fun _ _ _ h => absurd h (Nat.not_lt_zero 0)
  | cons e T ih =>
    intro i h h' hd
    have ed : fc_dc c (e :: T) = fc_dc c T + (if c e.1 = 30 then 1 else 0) := rfl
    by_cases c3 : c e.1 = 30
    · exact ⟨T.length, e.1, Nat.lt_succ_self _, h.1, h'.1, c3⟩
    · rw [ed, if_neg c3] at hd
      obtain ⟨k, j, a, b, d, f⟩ := ih e.1 h.2 h'.2.2.2.2 hd
      exact ⟨k, j, Nat.lt_succ_of_lt a, b, by have := h'.1; omega, f⟩
/-- and as Y does -/
theorem fc_dcy {c : Nat → Nat} {g q : Nat → Int32} : ∀ (S : List (Nat × Nat)) (i : Nat), fc_ry c q S → fc_ok c g i S → ∀ k, k < fc_hs c S → ∃ j, j < i ∧ q k = nI j ∧ (c j = 30 → 0 < fc_dc c S) := by
  intro S
  induction S with
  | nil => exact fun _ _ _ k hk => absurd hk (Nat.not_lt_zero k)
  | cons e T ih =>
    intro i h h' k hk
    have hk' : k < fc_hs c T + (if c e.1 = 28 then 2 else 1) := hk
    have ed : fc_dc c (e :: T) = fc_dc c T + (if c e.1 = 30 then 1 else 0) := rfl
    have hi := h'.1
    by_cases z : k < fc_hs c T
    · obtain ⟨j, a, b, d⟩ := ih e.1 h.2.2 h'.2.2.2.2 k z
      exact ⟨j, by omega, b, fun c3 => by have := d c3; rw [ed]; omega⟩
    · by_cases c8 : c e.1 = 28
      · rw [if_pos c8] at hk'
        obtain ⟨a1, a2, _, _⟩ := h'.2.2.2.1 c8
        by_cases z2 : k = fc_hs c T
        · subst z2
          exact ⟨e.2, by omega, (h.1 c8).1, fun c3 => by omega⟩
        · have z3 : k = fc_hs c T + 1 := by omega
          subst z3
          exact ⟨e.1, hi, (h.1 c8).2, fun c3 => by omega⟩
      · rw [if_neg c8] at hk'
        have z3 : k = fc_hs c T := by omega
        subst z3
        exact ⟨e.1, hi, h.2.1 c8, fun c3 => by rw [ed, if_pos c3]; omega⟩
theorem fc_dcy0 {c : Nat → Nat} {g q : Nat → Int32} : ∀ (S : List (Nat × Nat)) (i : Nat), fc_ry c q S → fc_ok c g i S → 0 < fc_dc c S → ∃ k j, k < fc_hs c S ∧ q k = nI j ∧ j < i ∧ c j = 30 := by
  intro S
  induction S with
  | nil => exact fun _ _ _ h => absurd h (Nat.not_lt_zero 0)
  | cons e T ih =>
    intro i h h' hd
    have ed : fc_dc c (e :: T) = fc_dc c T + (if c e.1 = 30 then 1 else 0) := rfl
    have eh : fc_hs c (e :: T) = fc_hs c T + (if c e.1 = 28 then 2 else 1) := rfl
    by_cases c3 : c e.1 = 30
    · exact ⟨fc_hs c T, e.1, by rw [eh]; split <;> omega, h.2.1 (by omega), h'.1, c3⟩
    · rw [ed, if_neg c3] at hd
      obtain ⟨k, j, a, b, d, f⟩ := ih e.1 h.2.2 h'.2.2.2.2 hd
      exact ⟨k, j, by rw [eh]; omega, b, by have := h'.1; omega, f⟩
/-! the parts linked so far -/
def fc_L1 (c : Nat → Nat) (W i : Nat) (g pt : Nat → Int32) (t : Nat) : Prop :=
  ∃ p : Nat, p < i ∧ pt (24 * W + t) = nI p ∧ g t = nI (p + 1) ∧ fc_dn c (p + 1) = fc_dn c t
def fc_Ln (c : Nat → Nat) (W i : Nat) (S : List (Nat × Nat)) (g pt : Nat → Int32) : Prop :=
  ∀ t, t < i → fc_J (c t) → (∃ b, (t, b) ∈ S) ∨ fc_L1 c W i g pt t
theorem fc_L1_m {c : Nat → Nat} {W i : Nat} {g pt g' pt' : Nat → Int32} {t : Nat} (h : fc_L1 c W i g pt t) (hg : g' t = g t) (hp : pt' (24 * W + t) = pt (24 * W + t)) : fc_L1 c W (i + 1) g' pt' t := by
  obtain ⟨p, a, b, d, e⟩ := h
  exact ⟨p, by omega, hp.trans b, hg.trans d, e⟩
theorem fc_Ln_s {c : Nat → Nat} {W i : Nat} {S S' : List (Nat × Nat)} {g pt g' pt' : Nat → Int32} (h : fc_Ln c W i S g pt)
    (hS : ∀ t b, t < i → (t, b) ∈ S → (∃ b', (t, b') ∈ S') ∨ (fc_J (c t) → fc_L1 c W (i + 1) g' pt' t))
    (hg : ∀ t, t < i → (∀ b, ¬ (t, b) ∈ S) → g' t = g t ∧ pt' (24 * W + t) = pt (24 * W + t))
    (hi : fc_J (c i) → (∃ b, (i, b) ∈ S') ∨ fc_L1 c W (i + 1) g' pt' i) : fc_Ln c W (i + 1) S' g' pt' := by
  intro t ht hJ
  by_cases e : t = i
  · subst e; exact hi hJ
  · have ht' : t < i := by omega
    by_cases m : ∃ b, (t, b) ∈ S
    · obtain ⟨b, mb⟩ := m
      rcases hS t b ht' mb with q | q
      · exact Or.inl q
      · exact Or.inr (q hJ)
    · rcases h t ht' hJ with q | q
      · exact absurd q m
      · obtain ⟨a, b⟩ := hg t ht' (fun b hb => m ⟨b, hb⟩)
        exact Or.inr (fc_L1_m q a b)
def fc_Lk (c : Nat → Nat) (W : Nat) (hn pt0 : Nat → Int32) (i : Nat) (S : List (Nat × Nat)) (w g q pt : Nat → Int32) : Prop :=
  fc_rx w S ∧ fc_ry c q S ∧ fc_ok c g i S ∧ fc_hs c S ≤ i ∧ fc_dn c i = fc_dc c S ∧ fc_Ln c W i S g pt ∧
  (∀ t, t < i → (c t = 22 → hn t ≤ nI W) ∧ (c t = 31 ∨ c t = 32 → 1 ≤ fc_dn c t)) ∧ (∀ j, j < 24 * W → pt j = pt0 j)
theorem fc_Lk_0 {c : Nat → Nat} {W : Nat} {hn pt w g q : Nat → Int32} : fc_Lk c W hn pt 0 [] w g q pt :=
  ⟨trivial, trivial, trivial, Nat.le_refl 0, rfl, fun t ht => absurd ht (Nat.not_lt_zero t), fun t ht => absurd ht (Nat.not_lt_zero t), fun _ _ => rfl⟩
section LK
variable {c : Nat → Nat} {W i j b : Nat} {hn pt0 w g q pt : Nat → Int32} {S T : List (Nat × Nat)}
theorem fc_al {Q : Nat → Prop} (h : ∀ t, t < i → Q t) (hi : Q i) : ∀ t, t < i + 1 → Q t := by
  intro t ht
  by_cases e : t = i
  · subst e; exact hi
  · exact h t (by omega)
/-- a token that is no part -/
theorem fc_lk_plain (h : fc_Lk c W hn pt0 i S w g q pt) (h1 : c i < 23 ∨ 31 < c i) (h2 : c i = 22 → hn i ≤ nI W) (h3 : c i = 32 → 1 ≤ fc_dn c i) : fc_Lk c W hn pt0 (i + 1) S w g q pt := by
  obtain ⟨a1, a2, a3, a4, a5, a6, a7, a8⟩ := h
  refine ⟨a1, a2, fc_ok_m (by omega) S a3, by omega, ?_, ?_, fc_al a7 ⟨h2, fun z => h3 (by omega)⟩, a8⟩
  · rw [fc_dn_s, if_neg (by omega), if_neg (by omega)]; exact a5
  · exact fc_Ln_s a6 (fun t b _ m => Or.inl ⟨b, m⟩) (fun t _ _ => ⟨rfl, rfl⟩) (fun z => absurd z (by unfold fc_J; omega))
/-- IF, BEGIN, DO -/
theorem fc_lk_push (h : fc_Lk c W hn pt0 i S w g q pt) (h1 : c i = 23 ∨ c i = 26 ∨ c i = 30) : fc_Lk c W hn pt0 (i + 1) ((i, 0) :: S) (upd w S.length (nI i)) g (upd q (fc_hs c S) (nI i)) pt := by
  obtain ⟨a1, a2, a3, a4, a5, a6, a7, a8⟩ := h
  have eh : fc_hs c ((i, 0) :: S) = fc_hs c S + (if c i = 28 then 2 else 1) := rfl
  have ed : fc_dc c ((i, 0) :: S) = fc_dc c S + (if c i = 30 then 1 else 0) := rfl
  refine ⟨⟨pk_us, fc_rx_u S (Nat.le_refl _) a1⟩, ⟨fun z => absurd z (by show ¬ c i = 28; omega), fun _ => pk_us, fc_ry_u S (Nat.le_refl _) a2⟩,
    ⟨Nat.lt_succ_self i, by show c i = 23 ∨ c i = 24 ∨ c i = 26 ∨ c i = 28 ∨ c i = 30; omega, a5, fun z => absurd z (by show ¬ c i = 28; omega), a3⟩, ?_, ?_, ?_, fc_al a7 ⟨fun z => by omega, fun z => by omega⟩, a8⟩
  · rw [eh, if_neg (by omega)]; omega
  · rw [ed, fc_dn_s]
    by_cases z : c i = 30
    · rw [if_pos z, if_pos z, a5]
    · rw [if_neg z, if_neg z, if_neg (by omega)]; exact a5
  · exact fc_Ln_s a6 (fun t b _ m => Or.inl ⟨b, List.mem_cons_of_mem _ m⟩) (fun t _ _ => ⟨rfl, rfl⟩) (fun _ => Or.inl ⟨0, List.mem_cons_self⟩)
/-- what the latest one says -/
theorem fc_lk_top (h : fc_Lk c W hn pt0 i ((j, b) :: T) w g q pt) : j < i ∧ T.length + 1 ≤ i ∧ fc_hs c T + 1 ≤ i ∧ w T.length = nI j ∧ (c j ≠ 28 → q (fc_hs c T) = nI j) ∧
    (c j = 28 → q (fc_hs c T) = nI b ∧ q (fc_hs c T + 1) = nI j ∧ fc_hs c T + 2 ≤ i ∧ b < j ∧ c b = 26 ∧ g j = nI (b + 1)) := by
  obtain ⟨a1, a2, a3, a4, a5, a6, a7, a8⟩ := h
  have eh : fc_hs c ((j, b) :: T) = fc_hs c T + (if c j = 28 then 2 else 1) := rfl
  have hl := fc_hs_le (c := c) (g := g) ((j, b) :: T)
  have hl' : T.length + 1 ≤ fc_hs c ((j, b) :: T) := hl
  refine ⟨a3.1, by omega, by rw [eh] at a4; split at a4 <;> omega, a1.1, fun z => a2.2.1 z, fun z => ?_⟩
  rw [eh, if_pos z] at a4
  obtain ⟨e1, e2, _, e4⟩ := a3.2.2.2.1 z
  exact ⟨(a2.1 z).1, (a2.1 z).2, a4, e1, e2, e4⟩
/-- ELSE -/
theorem fc_lk_else (h : fc_Lk c W hn pt0 i ((j, b) :: T) w g q pt) (hi : c i = 24) (hj : c j = 23) :
    fc_Lk c W hn pt0 (i + 1) ((i, 0) :: T) (upd w T.length (nI i)) (upd g j (nI (i + 1))) (upd q (fc_hs c T) (nI i)) (upd pt (24 * W + j) (nI i)) := by
  obtain ⟨a1, a2, a3, a4, a5, a6, a7, a8⟩ := h
  have hji : j < i := a3.1
  have eh : fc_hs c ((j, b) :: T) = fc_hs c T + (if c j = 28 then 2 else 1) := rfl
  have eh' : fc_hs c ((i, 0) :: T) = fc_hs c T + (if c i = 28 then 2 else 1) := rfl
  have ed : fc_dc c ((j, b) :: T) = fc_dc c T + (if c j = 30 then 1 else 0) := rfl
  have ed' : fc_dc c ((i, 0) :: T) = fc_dc c T + (if c i = 30 then 1 else 0) := rfl
  have eD : fc_dn c (i + 1) = fc_dn c i := by rw [fc_dn_s, if_neg (by omega), if_neg (by omega)]
  rw [eh, if_neg (by omega)] at a4
  rw [ed, if_neg (by omega)] at a5
  have aj : fc_dn c j = fc_dc c T := a3.2.2.1
  refine ⟨⟨pk_us, fc_rx_u T (Nat.le_refl _) a1.2⟩, ⟨fun z => absurd z (by show ¬ c i = 28; omega), fun _ => pk_us, fc_ry_u T (Nat.le_refl _) a2.2.2⟩,
    ⟨Nat.lt_succ_self i, Or.inr (Or.inl hi), a5, fun z => absurd z (by show ¬ c i = 28; omega), fc_ok_m (by omega) T (fc_ok_u T j (Nat.le_refl _) a3.2.2.2.2)⟩, ?_, ?_, ?_, fc_al a7 ⟨fun z => by omega, fun z => by omega⟩, fun x hx => (pk_un (by omega)).trans (a8 x hx)⟩
  · rw [eh', if_neg (by omega)]; omega
  · rw [ed', if_neg (by omega), eD]; exact a5
  · refine fc_Ln_s a6 (fun t b' _ m => ?_) (fun t ht m => ?_) (fun _ => Or.inl ⟨0, List.mem_cons_self⟩)
    · rcases List.mem_cons.mp m with m | m
      · have e : t = j := congrArg Prod.fst m
        subst e
        exact Or.inr (fun _ => ⟨i, by omega, pk_us, pk_us, by rw [eD]; omega⟩)
      · exact Or.inl ⟨b', List.mem_cons_of_mem _ m⟩
    · have e : t ≠ j := fun e => m b (by rw [e]; exact List.mem_cons_self)
      exact ⟨pk_un e, pk_un (by omega)⟩
/-- THEN -/
theorem fc_lk_then (h : fc_Lk c W hn pt0 i ((j, b) :: T) w g q pt) (hi : c i = 25) (hj : c j = 23 ∨ c j = 24) :
    fc_Lk c W hn pt0 (i + 1) T w (upd g j (nI (i + 1))) q (upd pt (24 * W + j) (nI i)) := by
  obtain ⟨a1, a2, a3, a4, a5, a6, a7, a8⟩ := h
  have hji : j < i := a3.1
  have eh : fc_hs c ((j, b) :: T) = fc_hs c T + (if c j = 28 then 2 else 1) := rfl
  have ed : fc_dc c ((j, b) :: T) = fc_dc c T + (if c j = 30 then 1 else 0) := rfl
  have eD : fc_dn c (i + 1) = fc_dn c i := by rw [fc_dn_s, if_neg (by omega), if_neg (by omega)]
  rw [eh, if_neg (by omega)] at a4
  rw [ed, if_neg (by omega)] at a5
  have aj : fc_dn c j = fc_dc c T := a3.2.2.1
  refine ⟨a1.2, a2.2.2, fc_ok_m (by omega) T (fc_ok_u T j (Nat.le_refl _) a3.2.2.2.2), by omega, by rw [eD]; exact a5, ?_, fc_al a7 ⟨fun z => by omega, fun z => by omega⟩, fun x hx => (pk_un (by omega)).trans (a8 x hx)⟩
  refine fc_Ln_s a6 (fun t b' _ m => ?_) (fun t ht m => ?_) (fun z => absurd z (by unfold fc_J; omega))
  · rcases List.mem_cons.mp m with m | m
    · have e : t = j := congrArg Prod.fst m
      subst e
      exact Or.inr (fun _ => ⟨i, by omega, pk_us, pk_us, by rw [eD]; omega⟩)
    · exact Or.inl ⟨b', m⟩
  · have e : t ≠ j := fun e => m b (by rw [e]; exact List.mem_cons_self)
    exact ⟨pk_un e, pk_un (by omega)⟩
/-- WHILE -/
theorem fc_lk_while (h : fc_Lk c W hn pt0 i ((j, b) :: T) w g q pt) (hi : c i = 28) (hj : c j = 26) :
    fc_Lk c W hn pt0 (i + 1) ((i, j) :: T) (upd w T.length (nI i)) (upd g i (nI (j + 1))) (upd q (fc_hs c T + 1) (nI i)) (upd pt (24 * W + i) (nI j)) := by
  obtain ⟨a1, a2, a3, a4, a5, a6, a7, a8⟩ := h
  have hji : j < i := a3.1
  have eh : fc_hs c ((j, b) :: T) = fc_hs c T + (if c j = 28 then 2 else 1) := rfl
  have eh' : fc_hs c ((i, j) :: T) = fc_hs c T + (if c i = 28 then 2 else 1) := rfl
  have ed : fc_dc c ((j, b) :: T) = fc_dc c T + (if c j = 30 then 1 else 0) := rfl
  have ed' : fc_dc c ((i, j) :: T) = fc_dc c T + (if c i = 30 then 1 else 0) := rfl
  have eD : fc_dn c (i + 1) = fc_dn c i := by rw [fc_dn_s, if_neg (by omega), if_neg (by omega)]
  rw [eh, if_neg (by omega)] at a4
  rw [ed, if_neg (by omega)] at a5
  have aj : fc_dn c j = fc_dc c T := a3.2.2.1
  refine ⟨⟨pk_us, fc_rx_u T (Nat.le_refl _) a1.2⟩, ⟨fun _ => ⟨(pk_un (by omega)).trans (a2.2.1 (by show c j ≠ 28; omega)), pk_us⟩, fun z => absurd hi z, fc_ry_u T (by omega) a2.2.2⟩,
    ⟨Nat.lt_succ_self i, by show c i = 23 ∨ c i = 24 ∨ c i = 26 ∨ c i = 28 ∨ c i = 30; omega, a5, fun _ => ⟨hji, hj, aj, pk_us⟩, fc_ok_m (by omega) T (fc_ok_u T j (by omega) a3.2.2.2.2)⟩, ?_, ?_, ?_, fc_al a7 ⟨fun z => by omega, fun z => by omega⟩, fun x hx => (pk_un (by omega)).trans (a8 x hx)⟩
  · rw [eh', if_pos hi]; omega
  · rw [ed', if_neg (by omega), eD]; exact a5
  · refine fc_Ln_s a6 (fun t b' ht m => ?_) (fun t ht m => ?_) (fun _ => Or.inl ⟨j, List.mem_cons_self⟩)
    · rcases List.mem_cons.mp m with m | m
      · have e : t = j := congrArg Prod.fst m
        subst e
        exact Or.inr (fun z => absurd z (by unfold fc_J; omega))
      · exact Or.inl ⟨b', List.mem_cons_of_mem _ m⟩
    · exact ⟨pk_un (by omega), pk_un (by omega)⟩
/-- REPEAT -/
theorem fc_lk_repeat (h : fc_Lk c W hn pt0 i ((j, b) :: T) w g q pt) (hi : c i = 29) (hj : c j = 28) :
    fc_Lk c W hn pt0 (i + 1) T w (upd (upd g i (nI (b + 1))) j (nI (i + 1))) q (upd (upd pt (24 * W + j) (nI i)) (24 * W + i) (nI b)) := by
  obtain ⟨a1, a2, a3, a4, a5, a6, a7, a8⟩ := h
  have hji : j < i := a3.1
  have eh : fc_hs c ((j, b) :: T) = fc_hs c T + (if c j = 28 then 2 else 1) := rfl
  have ed : fc_dc c ((j, b) :: T) = fc_dc c T + (if c j = 30 then 1 else 0) := rfl
  have eD : fc_dn c (i + 1) = fc_dn c i := by rw [fc_dn_s, if_neg (by omega), if_neg (by omega)]
  rw [eh, if_pos hj] at a4
  rw [ed, if_neg (by omega)] at a5
  have aj : fc_dn c j = fc_dc c T := a3.2.2.1
  obtain ⟨w1, w2, w3, w4⟩ : b < j ∧ c b = 26 ∧ fc_dn c b = fc_dc c T ∧ g j = nI (b + 1) := a3.2.2.2.1 hj
  have eB : fc_dn c (b + 1) = fc_dn c b := by rw [fc_dn_s, if_neg (by omega), if_neg (by omega)]
  refine ⟨a1.2, a2.2.2, fc_ok_m (by omega) T (fc_ok_u T j (Nat.le_refl _) (fc_ok_u T j (by omega) a3.2.2.2.2)), by omega, by rw [eD]; exact a5, ?_, fc_al a7 ⟨fun z => by omega, fun z => by omega⟩, fun x hx => (pk_un (by omega)).trans ((pk_un (by omega)).trans (a8 x hx))⟩
  refine fc_Ln_s a6 (fun t b' ht m => ?_) (fun t ht m => ?_) (fun z => Or.inr ⟨b, by omega, pk_us, (pk_un (by omega)).trans pk_us, by rw [eB]; omega⟩)
  · rcases List.mem_cons.mp m with m | m
    · have e : t = j := congrArg Prod.fst m
      subst e
      exact Or.inr (fun _ => ⟨i, by omega, (pk_un (by omega)).trans pk_us, pk_us, by rw [eD]; omega⟩)
    · exact Or.inl ⟨b', m⟩
  · have e : t ≠ j := fun e => m b (by rw [e]; exact List.mem_cons_self)
    exact ⟨(pk_un e).trans (pk_un (by omega)), (pk_un (by omega)).trans (pk_un (by omega))⟩
/-- UNTIL, LOOP -/
theorem fc_lk_until (h : fc_Lk c W hn pt0 i ((j, b) :: T) w g q pt) (hij : (c i = 27 ∧ c j = 26) ∨ (c i = 31 ∧ c j = 30)) :
    fc_Lk c W hn pt0 (i + 1) T w (upd g i (nI (j + 1))) q (upd pt (24 * W + i) (nI j)) := by
  obtain ⟨a1, a2, a3, a4, a5, a6, a7, a8⟩ := h
  have hji : j < i := a3.1
  have eh : fc_hs c ((j, b) :: T) = fc_hs c T + (if c j = 28 then 2 else 1) := rfl
  have ed : fc_dc c ((j, b) :: T) = fc_dc c T + (if c j = 30 then 1 else 0) := rfl
  rw [eh, if_neg (by omega)] at a4
  have aj : fc_dn c j = fc_dc c T := a3.2.2.1
  have e1 : fc_dn c (i + 1) = fc_dc c T ∧ fc_dn c (j + 1) = fc_dn c i ∧ (c i = 31 → 1 ≤ fc_dn c i) := by
    rcases hij with ⟨z, y⟩ | ⟨z, y⟩
    · rw [ed, if_neg (by omega)] at a5
      rw [fc_dn_s, fc_dn_s, if_neg (by omega), if_neg (by omega), if_neg (by omega), if_neg (by omega)]
      exact ⟨a5, by omega, fun _ => by omega⟩
    · rw [ed, if_pos y] at a5
      rw [fc_dn_s, fc_dn_s, if_neg (by omega), if_pos z, if_pos y]
      exact ⟨by omega, by omega, fun _ => by omega⟩
  refine ⟨a1.2, a2.2.2, fc_ok_m (by omega) T (fc_ok_u T j (by omega) a3.2.2.2.2), by omega, e1.1, ?_, fc_al a7 ⟨fun z => by omega, fun z => e1.2.2 (by omega)⟩, fun x hx => (pk_un (by omega)).trans (a8 x hx)⟩
  refine fc_Ln_s a6 (fun t b' ht m => ?_) (fun t ht m => ?_) (fun z => Or.inr ⟨j, by omega, pk_us, pk_us, e1.2.1⟩)
  · rcases List.mem_cons.mp m with m | m
    · have e : t = j := congrArg Prod.fst m
      subst e
      exact Or.inr (fun z => absurd z (by unfold fc_J; omega))
    · exact Or.inl ⟨b', m⟩
  · exact ⟨pk_un (by omega), pk_un (by omega)⟩
end LK
/-- the word that both sides have made -/
theorem fc_new {c : Nat → Nat} {hn pt0 w g q pt len o n wl co ca : Nat → Int32} {W h lv : Nat} (hc : ∀ t, c t < 34) (hh : h ≤ 24) (hW : W < 10)
    (hL : fc_Lk c W hn pt0 h [] w g q pt) (h22 : ∀ t, c t = 22 → ∃ m : Nat, m < 10 ∧ hn t = nI m)
    (ho : ∀ t, t < h → o (24 * W + t) = nI (c t)) (hN : ∀ t, t < h → n (24 * W + t) = hn t)
    (hco : ∀ t, t < h → ¬ (lv = 1 ∧ (c t = 25 ∨ c t = 26)) → co (24 * W + fc_pl lv c t) = nI (c t) ∧ (fc_J (c t) → ∀ p, p < h → g t = nI (p + 1) → ca (24 * W + fc_pl lv c t) = nI (fc_pl lv c (p + 1))) ∧ (¬ fc_J (c t) → ca (24 * W + fc_pl lv c t) = lw_i16 (hn t)))
    (hl : len W = nI h) (hwl : wl W = nI (fc_pl lv c h)) : fc_Word W h (fc_pl lv c) (fc_dn c) len o n pt wl co ca := by
  obtain ⟨a1, a2, a3, a4, a5, a6, a7, a8⟩ := hL
  refine ⟨hh, rfl, rfl, fc_pl_le h, hl, hwl, fun i hi => fc_pl_m h hi, fun i hi => ?_⟩
  have hp : ∃ p : Nat, fc_J (c i) → p < h ∧ pt (24 * W + i) = nI p ∧ g i = nI (p + 1) ∧ fc_dn c (p + 1) = fc_dn c i := by
    by_cases hJ : fc_J (c i)
    · rcases a6 i hi hJ with ⟨b, m⟩ | ⟨p, e⟩
      · exact absurd m List.not_mem_nil
      · exact ⟨p, fun _ => e⟩
    · exact ⟨0, fun z => absurd z hJ⟩
  obtain ⟨p, hp⟩ := hp
  refine ⟨c i, p, hc i, ho i hi, fc_pl_le i, ?_, fun hJ => ⟨(hp hJ).2.1, (hp hJ).1, (hp hJ).2.2.2⟩, fun z => ?_, fun z => ?_, fun z => ?_, fun z => (a7 i hi).2 (Or.inr z), fun y z => ?_⟩
  · by_cases k : lv = 1 ∧ (c i = 25 ∨ c i = 26)
    · exact Or.inl ⟨k.2, fc_pl_d k⟩
    · obtain ⟨b1, b2, b3⟩ := hco i hi k
      exact Or.inr ⟨fc_pl_k k, fc_pl_lt k hi, b1, fun hJ => b2 hJ p (hp hJ).1 (hp hJ).2.2.1, fun hJ => by rw [hN i hi]; exact b3 hJ⟩
  · obtain ⟨m, m1, m2⟩ := h22 i z
    have := (a7 i hi).1 z
    rw [m2, nI_leI (by omega) (by omega)] at this
    exact ⟨m, this, (hN i hi).trans m2⟩
  · rw [fc_dn_s, if_pos z]
  · have := (a7 i hi).2 (Or.inl z)
    rw [fc_dn_s, if_neg (by omega), if_pos z]
    omega
  · rw [fc_dn_s, if_neg y, if_neg z]
end
section
/-! numbers -/
theorem fn_ne {c m : Nat} (h : c ≠ m) (hc : c < 2 ^ 31 := by omega) (hm : m < 2 ^ 31 := by omega) : ¬ nI c = nI m := fun e => h ((nI_eq hc hm).mp e)
theorem fn_s2 (n : Nat) : nI (n + 2) - 2 = nI n := by
  have h := pk_sub (a := n + 2) (b := 2) (by omega)
  rw [Nat.add_sub_cancel] at h
  exact h
theorem fn_s3 (n : Nat) : nI (n + 3) - 3 = nI n := by
  have h := pk_sub (a := n + 3) (b := 3) (by omega)
  rw [Nat.add_sub_cancel] at h
  exact h
theorem fn_ii (x : Int32) : lw_i16 (lw_i16 x) = lw_i16 x := (vp_nar_short (lw_i16 x)).symm.trans (pk_vs x)
theorem fn_vs {x : Int32} (h : lw_i16 x = x) : vp_nar .short x = x := (vp_nar_short x).trans h
theorem fn_vi {x : Int32} (h : lw_i16 x = x) : vp_nar .short x.toInt16.toInt32 = x := (pk_vs x).trans h
theorem fn_sm : ∀ n, n < 64 → lw_i16 (nI n) = nI n := by decide +kernel
theorem fn_b0 : ∀ n, n < 64 → (nI n).toInt8.toInt32 = nI n := by decide +kernel
theorem fn_b {n : Nat} (h : n < 64) : vp_nar .byte (nI n).toInt8.toInt32 = nI n := (pk_vb _).trans (fn_b0 n h)
theorem fn_num {x : Int32} (h1 : ¬ x < (-32768)) (h2 : ¬ 32767 < x) : lw_i16 x = x := by
  rw [Int32.lt_iff_toInt_lt] at h1 h2
  have a : ((-32768) : Int32).toInt = -32768 := by decide
  have b : (32767 : Int32).toInt = 32767 := by decide
  rw [a] at h1
  rw [b] at h2
  exact lg_i2s_small (by omega) (by omega)
theorem fn_rng {x : Int32} (h : lw_i16 x = x) : -32768 ≤ x.toInt ∧ x.toInt < 32768 := by
  have := lw_i16_r x
  rw [h] at this
  exact this
theorem fn_uu {f : Nat → Int32} {k : Nat} {x y : Int32} : upd (upd f k x) k y = upd f k y := by
  funext j
  by_cases e : j = k
  · subst e; rw [pk_us, pk_us]
  · rw [pk_un e, pk_un e, pk_un e]
theorem fn_10 : ¬ (1 : Int32) = 0 := by decide
theorem fn_nb0 : narrow .boolean (.int 0) = .int 0 := by decide
theorem fn_nb1 : narrow .boolean (.int 1) = .int 1 := by decide
/-- a short each -/
def fc_Sh (a : Nat → Int32) : Prop := ∀ j, lw_i16 (a j) = a j
theorem fc_Sh_0 : fc_Sh (fun _ => 0) := fun _ => by
  show lw_i16 0 = 0
  decide +kernel
theorem fc_Sh_u {a : Nat → Int32} {k : Nat} {x : Int32} (h : fc_Sh a) (hx : lw_i16 x = x) : fc_Sh (upd a k x) := by
  intro j
  by_cases e : j = k
  · subst e; rw [pk_us]; exact hx
  · rw [pk_un e]; exact h j
section ST
variable {nh wc wd cv sd pr st cc lo ov yh : Int32} {ho xn wa go pa co ca wl sk ce tx cw cp cl li lc yn le op nn pt oq ya : Nat → Int32}
/-! the stack: both sides -/
theorem xp_put {post : SX → Prop} {d : Nat} {x : Int32} (hd : d < 12) (h : post (nh, wc, wd, cv, nI (d + 1), pr, st, cc, lo, ho, xn, wa, go, pa, co, ca, wl, upd sk d (lw_i16 x), ce, tx, cw, cp, cl, li, lc)) : wpX_putNumber post (nh, wc, wd, cv, nI d, pr, st, cc, lo, ho, xn, wa, go, pa, co, ca, wl, sk, ce, tx, cw, cp, cl, li, lc) x := by
  have e : (nI d).toNatClampNeg = d := nI_clamp (by omega)
  exact ⟨vp_in_nI hd (by omega), nm_r (e' := upd sk d (lw_i16 x)) (by rw [e, pk_vs]; rfl) (nm_r (nI_1 d) h)⟩
theorem yp_give {post : SY → Prop} {d : Nat} {x : Int32} (hd : d < 12) (h : post (nh, wd, nI (d + 1), cc, lo, st, pr, ov, yh, ho, yn, le, op, nn, pt, ce, upd sk d (lw_i16 x), oq, cw, ya, cl, li, lc, tx)) : wpY_give post (nh, wd, nI d, cc, lo, st, pr, ov, yh, ho, yn, le, op, nn, pt, ce, sk, oq, cw, ya, cl, li, lc, tx) x := by
  have e : (nI d).toNatClampNeg = d := nI_clamp (by omega)
  exact ⟨vp_in_nI hd (by omega), nm_r (e' := upd sk d (lw_i16 x)) (by rw [e]; rfl) (nm_r (nI_1 d) h)⟩
theorem xp_take {post : Int32 → SX → Prop} {d : Nat} (hd : d < 12) (h : post (sk d) (nh, wc, wd, cv, nI d, pr, st, cc, lo, ho, xn, wa, go, pa, co, ca, wl, sk, ce, tx, cw, cp, cl, li, lc)) : wpX_takeNumber post (nh, wc, wd, cv, nI (d + 1), pr, st, cc, lo, ho, xn, wa, go, pa, co, ca, wl, sk, ce, tx, cw, cp, cl, li, lc) := by
  have e : (nI d).toNatClampNeg = d := nI_clamp (by omega)
  refine nm_r (nI_pred d) ⟨vp_in_nI hd (by omega), ?_⟩
  rw [e]
  exact h
theorem yp_take {post : Int32 → SY → Prop} {d : Nat} (hd : d < 12) (h : post (sk d) (nh, wd, nI d, cc, lo, st, pr, ov, yh, ho, yn, le, op, nn, pt, ce, sk, oq, cw, ya, cl, li, lc, tx)) : wpY_take post (nh, wd, nI (d + 1), cc, lo, st, pr, ov, yh, ho, yn, le, op, nn, pt, ce, sk, oq, cw, ya, cl, li, lc, tx) := by
  have e : (nI d).toNatClampNeg = d := nI_clamp (by omega)
  refine nm_r (nI_pred d) ⟨vp_in_nI hd (by omega), ?_⟩
  rw [e]
  exact h
/-! the text -/
def fc_tx (t : Nat → Int32) (p : Nat) (c : Int32) : Nat → Int32 := if p < 60 then upd t p c else t
theorem xp_char {post : SX → Prop} {p n : Nat} (hp : p < 2 ^ 30) (hn : n < 64) (h : post (nh, wc, wd, cv, sd, nI (p + 1), st, cc, lo, ho, xn, wa, go, pa, co, ca, wl, sk, ce, fc_tx tx p (nI n), cw, cp, cl, li, lc)) : wpX_addCharacter post (nh, wc, wd, cv, sd, nI p, st, cc, lo, ho, xn, wa, go, pa, co, ca, wl, sk, ce, tx, cw, cp, cl, li, lc) (nI n) := by
  by_cases z : p < 60
  · have e : (nI p).toNatClampNeg = p := nI_clamp (by omega)
    refine br_f (nI_ge (b := 60) z (by decide)) ⟨vp_in_nI z (by omega), nm_r (e' := fc_tx tx p (nI n)) ?_ (nm_r (nI_1 p) h)⟩
    rw [e, fn_b hn, fc_tx, if_pos z]
  · have e : fc_tx tx p (nI n) = tx := if_neg z
    rw [e] at h
    exact br_t (nI_le (a := 60) (by omega) (by omega)) (nm_r (nI_1 p) h)
theorem yp_char {post : SY → Prop} {p : Nat} {c : Int32} (hp : p < 2 ^ 30) (h : post (nh, wd, sd, cc, lo, st, nI (p + 1), ov, yh, ho, yn, le, op, nn, pt, ce, sk, oq, cw, ya, cl, li, lc, fc_tx tx p c)) : wpY_put post (nh, wd, sd, cc, lo, st, nI p, ov, yh, ho, yn, le, op, nn, pt, ce, sk, oq, cw, ya, cl, li, lc, tx) c := by
  by_cases z : p < 60
  · have e : (nI p).toNatClampNeg = p := nI_clamp (by omega)
    refine br_f (nI_ge (b := 60) z (by decide)) ⟨vp_in_nI z (by omega), nm_r (e' := fc_tx tx p c) ?_ (nm_r (nI_1 p) h)⟩
    rw [e, fc_tx, if_pos z]
  · have e : fc_tx tx p c = tx := if_neg z
    rw [e] at h
    exact br_t (nI_le (a := 60) (by omega) (by omega)) (nm_r (nI_1 p) h)
/-! frames -/
theorem xp_goOn {post : SX → Prop} {k : Nat} {x : Int32} (hk : k < 8) (h : post (nh, wc, wd, cv, sd, pr, st, nI (k + 1), lo, ho, xn, wa, go, pa, co, ca, wl, sk, ce, tx, cw, upd cp k x, cl, li, lc)) : wpX_goOn post (nh, wc, wd, cv, sd, pr, st, nI (k + 1), lo, ho, xn, wa, go, pa, co, ca, wl, sk, ce, tx, cw, cp, cl, li, lc) x := by
  have e : (nI (k + 1) - 1).toNatClampNeg = k := by rw [nI_pred]; exact nI_clamp (by omega)
  have w : vp_in (nI (k + 1) - 1) 8 := by rw [nI_pred]; exact vp_in_nI hk (by omega)
  exact ⟨w, nm_r (e' := upd cp k x) (by rw [e]) h⟩
theorem xp_begin {post : SX → Prop} {k : Nat} {x : Int32} (hk : k < 8) (h : post (nh, wc, wd, cv, sd, pr, st, nI (k + 1), lo, ho, xn, wa, go, pa, co, ca, wl, sk, ce, tx, upd cw k x, upd cp k 0, upd cl k lo, li, lc)) : wpX_beginCall post (nh, wc, wd, cv, sd, pr, st, nI k, lo, ho, xn, wa, go, pa, co, ca, wl, sk, ce, tx, cw, cp, cl, li, lc) x := by
  have e : (nI k).toNatClampNeg = k := nI_clamp (by omega)
  have w : vp_in (nI k) 8 := vp_in_nI hk (by omega)
  exact ⟨w, nm_r (e' := upd cw k x) (by rw [e]) ⟨w, nm_r (e' := upd cp k 0) (by rw [e]) ⟨w, nm_r (e' := upd cl k lo) (by rw [e]) (nm_r (nI_1 k) h)⟩⟩⟩
theorem yp_begin {post : SY → Prop} {k : Nat} {x : Int32} (hk : k < 8) (h : post (nh, wd, sd, nI (k + 1), lo, st, pr, ov, yh, ho, yn, le, op, nn, pt, ce, sk, oq, upd cw k x, upd ya k 0, upd cl k lo, li, lc, tx)) : wpY_begin post (nh, wd, sd, nI k, lo, st, pr, ov, yh, ho, yn, le, op, nn, pt, ce, sk, oq, cw, ya, cl, li, lc, tx) x := by
  have e : (nI k).toNatClampNeg = k := nI_clamp (by omega)
  have w : vp_in (nI k) 8 := vp_in_nI hk (by omega)
  exact ⟨w, nm_r (e' := upd cw k x) (by rw [e]) ⟨w, nm_r (e' := upd ya k 0) (by rw [e]) ⟨w, nm_r (e' := upd cl k lo) (by rw [e]) (nm_r (nI_1 k) h)⟩⟩⟩
theorem xp_end {post : Int32 → SX → Prop} {k : Nat} (hk : k < 8) (h : post (if k = 0 then 0 else (-1)) (nh, wc, wd, cv, sd, pr, st, nI k, cl k, ho, xn, wa, go, pa, co, ca, wl, sk, ce, tx, cw, cp, cl, li, lc)) : wpX_endCall post (nh, wc, wd, cv, sd, pr, st, nI (k + 1), lo, ho, xn, wa, go, pa, co, ca, wl, sk, ce, tx, cw, cp, cl, li, lc) := by
  have e : (nI k).toNatClampNeg = k := nI_clamp (by omega)
  have w : vp_in (nI k) 8 := vp_in_nI hk (by omega)
  refine nm_r (nI_pred k) ⟨w, nm_r (e' := cl k) (by rw [e]) ?_⟩
  by_cases z : k = 0
  · rw [if_pos z] at h
    exact br_t (by rw [z]; rfl) h
  · rw [if_neg z] at h
    exact br_f (fn_ne (m := 0) z) h
theorem yp_leave {post : SY → Prop} {k : Nat} (hk : k < 8) (h : post (nh, wd, sd, nI k, cl k, st, pr, ov, yh, ho, yn, le, op, nn, pt, ce, sk, oq, cw, ya, cl, li, lc, tx)) : wpY_leave post (nh, wd, sd, nI (k + 1), lo, st, pr, ov, yh, ho, yn, le, op, nn, pt, ce, sk, oq, cw, ya, cl, li, lc, tx) := by
  have e : (nI k).toNatClampNeg = k := nI_clamp (by omega)
  have w : vp_in (nI k) 8 := vp_in_nI hk (by omega)
  exact nm_r (nI_pred k) ⟨w, nm_r (e' := cl k) (by rw [e]) h⟩
end ST
end
section
/-! which numbers an op needs, whether it grows the stack; the faults, in lockstep -/
def fc_G (c : Nat) : Prop := c = 0 ∨ c = 1 ∨ c = 4 ∨ c = 32
def fc_B (c : Nat) : Prop := (6 ≤ c ∧ c ≤ 12) ∨ (14 ≤ c ∧ c ≤ 16)
def fc_A (c : Nat) : Prop := c = 13 ∨ (17 ≤ c ∧ c ≤ 19)
def fc_N2 (c : Nat) : Prop := c = 3 ∨ c = 4 ∨ (6 ≤ c ∧ c ≤ 12) ∨ (14 ≤ c ∧ c ≤ 16) ∨ c = 20 ∨ c = 30
def fc_N1 (c : Nat) : Prop := c = 1 ∨ c = 2 ∨ c = 13 ∨ (17 ≤ c ∧ c ≤ 19) ∨ c = 21 ∨ c = 23 ∨ c = 27 ∨ c = 28
def fc_need (c : Nat) : Nat := if c = 5 then 3 else if c = 3 ∨ c = 4 ∨ (6 ≤ c ∧ c ≤ 12) ∨ (14 ≤ c ∧ c ≤ 16) ∨ c = 20 ∨ c = 30 then 2 else
  if c = 1 ∨ c = 2 ∨ c = 13 ∨ (17 ≤ c ∧ c ≤ 19) ∨ c = 21 ∨ c = 23 ∨ c = 27 ∨ c = 28 then 1 else 0
theorem fc_e3 {c : Nat} (z : c = 5) : fc_need c = 3 := if_pos z
theorem fc_e2 {c : Nat} (z : fc_N2 c) : fc_need c = 2 := by
  unfold fc_N2 at z
  unfold fc_need
  rw [if_neg (by omega), if_pos z]
theorem fc_e1 {c : Nat} (z : fc_N1 c) : fc_need c = 1 := by
  unfold fc_N1 at z
  unfold fc_need
  rw [if_neg (by omega), if_neg (by omega), if_pos z]
theorem fc_e0 {c : Nat} (z : c ≠ 5 ∧ ¬ fc_N2 c ∧ ¬ fc_N1 c) : fc_need c = 0 := by
  unfold fc_N2 fc_N1 at z
  unfold fc_need
  rw [if_neg z.1, if_neg z.2.1, if_neg z.2.2]
theorem fc_n3 {p : Int32 → Prop} {c : Nat} (h : p (nI (fc_need c))) (z : c = 5) : p 3 := by rw [fc_e3 z] at h; exact h
theorem fc_n2 {p : Int32 → Prop} {c : Nat} (h : p (nI (fc_need c))) (z : fc_N2 c) : p 2 := by rw [fc_e2 z] at h; exact h
theorem fc_n1 {p : Int32 → Prop} {c : Nat} (h : p (nI (fc_need c))) (z : fc_N1 c) : p 1 := by rw [fc_e1 z] at h; exact h
theorem fc_n0 {p : Int32 → Prop} {c : Nat} (h : p (nI (fc_need c))) (z : c ≠ 5 ∧ ¬ fc_N2 c ∧ ¬ fc_N1 c) : p 0 := by rw [fc_e0 z] at h; exact h
theorem xq_jt {p : Int32 → Prop} {c : Nat} (hc : c < 34) (hj : fc_B c) (h : p 1) : wpX_joinsTwo p (nI c) := by
  unfold fc_B at hj
  have K : (14 ≤ c ∧ c ≤ 16) → wX_joinsTwo_12 p (nI c) := fun z => pk_lt c 14 (fun y => absurd y (by omega)) (fun _ => pk_lt 16 c (fun y => absurd y (by omega)) (fun _ => h))
  exact pk_lt c 6 (fun z => K (by omega)) (fun z => pk_le c 12 (fun _ => h) (fun y => K (by omega)))
theorem xq_jf {p : Int32 → Prop} {c : Nat} (hc : c < 34) (hj : ¬ fc_B c) (h : p 0) : wpX_joinsTwo p (nI c) := by
  unfold fc_B at hj
  have K : wX_joinsTwo_12 p (nI c) := pk_lt c 14 (fun _ => h) (fun y => pk_lt 16 c (fun _ => h) (fun w => absurd hj (by omega)))
  exact pk_lt c 6 (fun z => K) (fun z => pk_le c 12 (fun w => absurd hj (by omega)) (fun y => K))
theorem xq_at {p : Int32 → Prop} {c : Nat} (hc : c < 34) (hj : fc_A c) (h : p 1) : wpX_altersOne p (nI c) := by
  unfold fc_A at hj
  exact pk_eq c 13 (fun _ => h) (fun z => pk_lt c 17 (fun y => absurd y (by omega)) (fun _ => pk_lt 19 c (fun y => absurd y (by omega)) (fun _ => h)))
theorem xq_af {p : Int32 → Prop} {c : Nat} (hc : c < 34) (hj : ¬ fc_A c) (h : p 0) : wpX_altersOne p (nI c) := by
  unfold fc_A at hj
  exact pk_eq c 13 (fun w => absurd hj (by omega)) (fun z => pk_lt c 17 (fun _ => h) (fun y => pk_lt 19 c (fun _ => h) (fun w => absurd hj (by omega))))
theorem xq_gt {p : Int32 → Prop} {c : Nat} (hc : c < 34) (hj : fc_G c) (h : p 1) : wpX_growsStack p (nI c) := by
  unfold fc_G at hj
  exact pk_eq c 0 (fun _ => h) (fun _ => pk_eq c 1 (fun _ => h) (fun _ => pk_eq c 4 (fun _ => h) (fun _ => pk_eq c 32 (fun _ => h) (fun _ => absurd hj (by omega)))))
theorem xq_gf {p : Int32 → Prop} {c : Nat} (hc : c < 34) (hj : ¬ fc_G c) (h : p 0) : wpX_growsStack p (nI c) := by
  unfold fc_G at hj
  exact pk_eq c 0 (fun w => absurd hj (by omega)) (fun _ => pk_eq c 1 (fun w => absurd hj (by omega)) (fun _ => pk_eq c 4 (fun w => absurd hj (by omega)) (fun _ => pk_eq c 32 (fun w => absurd hj (by omega)) (fun _ => h))))
theorem xq_142 {p : Int32 → Prop} {c : Nat} (hc : c < 34) (hs : c ≠ 1 ∧ c ≠ 2 ∧ c ≠ 3 ∧ c ≠ 4 ∧ c ≠ 5 ∧ c ≠ 20 ∧ c ≠ 21 ∧ c ≠ 23 ∧ c ≠ 27 ∧ c ≠ 28 ∧ c ≠ 30) (h : p (nI (fc_need c))) : wX_numbersTaken_142 p (nI c) := by
  unfold wX_numbersTaken_142
  by_cases b : fc_B c
  · exact xq_jt hc b (br_f fn_10 (fc_n2 h (by unfold fc_B at b; unfold fc_N2; omega)))
  · by_cases a : fc_A c
    · exact xq_jf hc b (br_t rfl (xq_at hc a (br_f fn_10 (fc_n1 h (by unfold fc_A at a; unfold fc_N1; omega)))))
    · exact xq_jf hc b (br_t rfl (xq_af hc a (br_t rfl (fc_n0 h (by unfold fc_A at a; unfold fc_B at b; unfold fc_N1 fc_N2; omega)))))
theorem xq_need {p : Int32 → Prop} {c : Nat} (hc : c < 34) (h : p (nI (fc_need c))) : wpX_numbersTaken p (nI c) := by
  have K := xq_142 (p := p) hc
  have h1 : fc_N1 c → p 1 := fc_n1 h
  have h2 : fc_N2 c → p 2 := fc_n2 h
  have h3 : c = 5 → p 3 := fc_n3 h
  unfold fc_N1 at h1
  unfold fc_N2 at h2
  exact pk_lt c 1 (fun z => K (by omega) h) (fun z => pk_lt 30 c (fun z => K (by omega) h) (fun z => pk_eq c 1 (fun z => h1 (by omega)) (fun z1 => pk_eq c 2 (fun z => h1 (by omega)) (fun z2 => pk_eq c 3 (fun z => h2 (by omega)) (fun z3 => pk_eq c 4 (fun z => h2 (by omega)) (fun z4 => pk_eq c 5 (fun z => h3 z) (fun z5 => pk_eq c 6 (fun z => K (by omega) h) (fun z6 => pk_eq c 7 (fun z => K (by omega) h) (fun z7 => pk_eq c 8 (fun z => K (by omega) h) (fun z8 => pk_eq c 9 (fun z => K (by omega) h) (fun z9 => pk_eq c 10 (fun z => K (by omega) h) (fun z10 => pk_eq c 11 (fun z => K (by omega) h) (fun z11 => pk_eq c 12 (fun z => K (by omega) h) (fun z12 => pk_eq c 13 (fun z => K (by omega) h) (fun z13 => pk_eq c 14 (fun z => K (by omega) h) (fun z14 => pk_eq c 15 (fun z => K (by omega) h) (fun z15 => pk_eq c 16 (fun z => K (by omega) h) (fun z16 => pk_eq c 17 (fun z => K (by omega) h) (fun z17 => pk_eq c 18 (fun z => K (by omega) h) (fun z18 => pk_eq c 19 (fun z => K (by omega) h) (fun z19 => pk_eq c 20 (fun z => h2 (by omega)) (fun z20 => pk_eq c 21 (fun z => h1 (by omega)) (fun z21 => pk_eq c 22 (fun z => K (by omega) h) (fun z22 => pk_eq c 23 (fun z => h1 (by omega)) (fun z23 => pk_eq c 24 (fun z => K (by omega) h) (fun z24 => pk_eq c 25 (fun z => K (by omega) h) (fun z25 => pk_eq c 26 (fun z => K (by omega) h) (fun z26 => pk_eq c 27 (fun z => h1 (by omega)) (fun z27 => pk_eq c 28 (fun z => h1 (by omega)) (fun z28 => pk_eq c 29 (fun z => K (by omega) h) (fun z29 => pk_eq c 30 (fun z => h2 (by omega)) (fun z30 => trivial))))))))))))))))))))))))))))))))
section FL
variable {nh wc wd cv sd pr st cc lo ov yh : Int32} {ho xn wa go pa co ca wl sk ce tx cw cp cl li lc yn le op nn pt oq ya : Nat → Int32}
theorem yq_in {p : Int32 → Prop} {c : Nat} (a b : Nat) (hc : c < 2 ^ 31) (ha : a < 2 ^ 31) (hb : b < 2 ^ 31) (f : a ≤ c ∧ c ≤ b → p 1) (g : c < a ∨ b < c → p 0) : wpY_in p (nh, wd, sd, cc, lo, st, pr, ov, yh, ho, yn, le, op, nn, pt, ce, sk, oq, cw, ya, cl, li, lc, tx) (nI c) (nI a) (nI b) :=
  pk_lt c a (fun z => g (Or.inl z)) (fun z => pk_lt b c (fun y => g (Or.inr y)) (fun y => f ⟨z, y⟩))
theorem yq_need {p : Int32 → Prop} {c : Nat} (hc : c < 34) (h : p (nI (fc_need c))) : wpY_needs p (nh, wd, sd, cc, lo, st, pr, ov, yh, ho, yn, le, op, nn, pt, ce, sk, oq, cw, ya, cl, li, lc, tx) (nI c) := by
  have h1 : fc_N1 c → p 1 := fc_n1 h
  have h2 : fc_N2 c → p 2 := fc_n2 h
  have h3 : c = 5 → p 3 := fc_n3 h
  have h0 : (c ≠ 5 ∧ ¬ fc_N2 c ∧ ¬ fc_N1 c) → p 0 := fc_n0 h
  unfold fc_N1 at h1 h0
  unfold fc_N2 at h2 h0
  unfold wpY_needs
  refine pk_eq c 5 h3 (fun z5 => pk_eq c 3 (fun z => h2 (by omega)) (fun z3 => pk_eq c 4 (fun z => h2 (by omega)) (fun z4 => ?_)))
  refine yq_in 6 12 (by omega) (by omega) (by omega) (fun z => br_f fn_10 (h2 (by omega))) (fun z6 => br_t rfl ?_)
  refine yq_in 14 16 (by omega) (by omega) (by omega) (fun z => br_f fn_10 (h2 (by omega))) (fun z14 => br_t rfl ?_)
  refine pk_eq c 20 (fun z => h2 (by omega)) (fun z20 => pk_eq c 30 (fun z => h2 (by omega)) (fun z30 => pk_eq c 1 (fun z => h1 (by omega)) (fun z1 => pk_eq c 2 (fun z => h1 (by omega)) (fun z2 => pk_eq c 13 (fun z => h1 (by omega)) (fun z13 => ?_)))))
  refine yq_in 17 19 (by omega) (by omega) (by omega) (fun z => br_f fn_10 (h1 (by omega))) (fun z17 => br_t rfl ?_)
  exact pk_eq c 21 (fun z => h1 (by omega)) (fun z21 => pk_eq c 23 (fun z => h1 (by omega)) (fun z23 => pk_eq c 27 (fun z => h1 (by omega)) (fun z27 => pk_eq c 28 (fun z => h1 (by omega)) (fun z28 => h0 (by omega)))))
theorem yq_gt {p : Int32 → Prop} {c : Nat} (hc : c < 34) (hj : fc_G c) (h : p 1) : wpY_grows p (nh, wd, sd, cc, lo, st, pr, ov, yh, ho, yn, le, op, nn, pt, ce, sk, oq, cw, ya, cl, li, lc, tx) (nI c) := by
  unfold fc_G at hj
  exact pk_eq c 0 (fun _ => h) (fun _ => pk_eq c 1 (fun _ => h) (fun _ => pk_eq c 4 (fun _ => h) (fun _ => pk_eq c 32 (fun _ => h) (fun _ => absurd hj (by omega)))))
theorem yq_gf {p : Int32 → Prop} {c : Nat} (hc : c < 34) (hj : ¬ fc_G c) (h : p 0) : wpY_grows p (nh, wd, sd, cc, lo, st, pr, ov, yh, ho, yn, le, op, nn, pt, ce, sk, oq, cw, ya, cl, li, lc, tx) (nI c) := by
  unfold fc_G at hj
  exact pk_eq c 0 (fun w => absurd hj (by omega)) (fun _ => pk_eq c 1 (fun w => absurd hj (by omega)) (fun _ => pk_eq c 4 (fun w => absurd hj (by omega)) (fun _ => pk_eq c 32 (fun w => absurd hj (by omega)) (fun _ => h))))
/-! X's faults -/
section FX
variable {p : Int32 → Prop} {c d s k l : Nat}
theorem xf_88 (hc : c < 34) (hl : l ≤ 6) (f : (c = 30 → l < 6) → p 0) (g : c = 30 → l = 6 → p 5) : wX_findFault_88 p (nI c) nh wc wd cv (nI d) pr (nI s) (nI k) (nI l) ho xn wa go pa co ca wl sk ce tx cw cp cl li lc :=
  pk_eq c 30 (fun z => pk_lt l 6 (fun y => f (fun _ => y)) (fun y => g z (by omega))) (fun z => f (fun y => absurd y z))
theorem xf_71 (hc : c < 34) (hk : k ≤ 8) (hl : l ≤ 6) (f : (c = 22 → k < 8) → (c = 30 → l < 6) → p 0) (g : (c = 22 ∧ k = 8) ∨ (c = 30 ∧ l = 6) → p 5) : wX_findFault_71 p (nI c) nh wc wd cv (nI d) pr (nI s) (nI k) (nI l) ho xn wa go pa co ca wl sk ce tx cw cp cl li lc :=
  pk_eq c 22 (fun z => pk_lt k 8 (fun y => xf_88 hc hl (fun w => f (fun _ => y) w) (fun a b => g (Or.inr ⟨a, b⟩))) (fun y => g (Or.inl ⟨z, by omega⟩)))
    (fun z => xf_88 hc hl (fun w => f (fun y => absurd y z) w) (fun a b => g (Or.inr ⟨a, b⟩)))
theorem xf_53 (hc : c < 34) (hd : d ≤ 12) (hk : k ≤ 8) (hl : l ≤ 6) (f : (fc_G c → d < 12) → (c = 22 → k < 8) → (c = 30 → l < 6) → p 0) (g : (c = 22 ∧ k = 8) ∨ (c = 30 ∧ l = 6) → p 5) (i : fc_G c → d = 12 → p 4) :
    wX_findFault_53 p (nI c) nh wc wd cv (nI d) pr (nI s) (nI k) (nI l) ho xn wa go pa co ca wl sk ce tx cw cp cl li lc := by
  unfold wX_findFault_53
  by_cases G : fc_G c
  · exact xq_gt hc G (br_f fn_10 (pk_lt d 12 (fun y => xf_71 hc hk hl (f (fun _ => y)) g) (fun y => i G (by omega))))
  · exact xq_gf hc G (br_t rfl (xf_71 hc hk hl (f (fun y => absurd y G)) g))
theorem xf_37 (hc : c < 34) (h2 : 1 ≤ d) (hd : d ≤ 12) (hk : k ≤ 8) (hl : l ≤ 6) (f : ¬ sk (d - 1) = 0 → wX_findFault_53 p (nI c) nh wc wd cv (nI d) pr (nI s) (nI k) (nI l) ho xn wa go pa co ca wl sk ce tx cw cp cl li lc) (g : sk (d - 1) = 0 → p 3) :
    wX_findFault_37 p (nI c) nh wc wd cv (nI d) pr (nI s) (nI k) (nI l) ho xn wa go pa co ca wl sk ce tx cw cp cl li lc := by
  obtain ⟨e, rfl⟩ : ∃ e, d = e + 1 := ⟨d - 1, by omega⟩
  have w : vp_in (nI (e + 1) - 1) 12 := by rw [nI_pred]; exact vp_in_nI (by omega) (by omega)
  have q : (nI (e + 1) - 1).toNatClampNeg = e := by rw [nI_pred]; exact nI_clamp (by omega)
  refine ⟨w, ?_⟩
  rw [q]
  exact br_c g f
theorem xf_F (hc : c < 34) (hd : d ≤ 12) (hs : s ≤ 300) (hk : k ≤ 8) (hl : l ≤ 6)
    (f : s < 300 → fc_need c ≤ d → (c = 9 ∨ c = 10 → ¬ sk (d - 1) = 0) → (fc_G c → d < 12) → (c = 22 → k < 8) → (c = 30 → l < 6) → p 0)
    (g1 : s = 300 → p 1) (g2 : s < 300 → d < fc_need c → p 2) (g3 : s < 300 → fc_need c ≤ d → (c = 9 ∨ c = 10) → sk (d - 1) = 0 → p 3)
    (g4 : s < 300 → fc_need c ≤ d → (c = 9 ∨ c = 10 → ¬ sk (d - 1) = 0) → fc_G c → d = 12 → p 4)
    (g5 : s < 300 → fc_need c ≤ d → (c = 9 ∨ c = 10 → ¬ sk (d - 1) = 0) → (fc_G c → d < 12) → (c = 22 ∧ k = 8) ∨ (c = 30 ∧ l = 6) → p 5) :
    wpX_findFault p (nh, wc, wd, cv, nI d, pr, nI s, nI k, nI l, ho, xn, wa, go, pa, co, ca, wl, sk, ce, tx, cw, cp, cl, li, lc) (nI c) := by
  have hN : fc_need c ≤ 3 := by unfold fc_need; split <;> (try split) <;> (try split) <;> omega
  refine pk_lt s 300 (fun h1 => xq_need hc (pk_le (fc_need c) d (fun h2 => ?_) (fun h2 => g2 h1 h2))) (fun h1 => g1 (by omega))
  have K : ∀ z : (c = 9 ∨ c = 10 → ¬ sk (d - 1) = 0), wX_findFault_53 p (nI c) nh wc wd cv (nI d) pr (nI s) (nI k) (nI l) ho xn wa go pa co ca wl sk ce tx cw cp cl li lc := by
    intro z
    by_cases G : fc_G c ∧ d = 12
    · exact xf_53 hc hd hk hl (fun a _ _ => absurd (a G.1) (by omega)) (fun y => absurd G.1 (by unfold fc_G; omega)) (fun a b => g4 h1 h2 z a b)
    · have G' : fc_G c → d < 12 := fun y => by
        have : ¬ d = 12 := fun w => G ⟨y, w⟩
        omega
      exact xf_53 hc hd hk hl (fun a b w => f h1 h2 z a b w) (fun y => g5 h1 h2 z G' y) (fun a b => absurd ⟨a, b⟩ G)
  have D : (c = 9 ∨ c = 10) → 1 ≤ d := fun z => by
    have := fc_e2 (c := c) (by unfold fc_N2; omega)
    omega
  refine pk_eq c 9 (fun z => xf_37 hc (D (Or.inl z)) hd hk hl (fun y => K (fun _ => y)) (fun y => g3 h1 h2 (Or.inl z) y)) (fun z => ?_)
  exact pk_eq c 10 (fun w => xf_37 hc (D (Or.inr w)) hd hk hl (fun y => K (fun _ => y)) (fun y => g3 h1 h2 (Or.inr w) y)) (fun w => K (fun y => absurd y (by omega)))
end FX
/-! Y's faults -/
section FY
variable {q : Int32 → SY → Prop} {c d s k l : Nat}
theorem yf_E {r : Nat} (h : q 0 (nh, wd, sd, cc, lo, st, pr, 1, nI r, ho, yn, le, op, nn, pt, ce, sk, oq, cw, ya, cl, li, lc, tx)) : wY_can_146 q nh wd sd cc lo st pr 1 (nI r) ho yn le op nn pt ce sk oq cw ya cl li lc tx := br_f fn_10 h
theorem yf_0 (h : q 1 (nh, wd, sd, cc, lo, st, pr, 0, yh, ho, yn, le, op, nn, pt, ce, sk, oq, cw, ya, cl, li, lc, tx)) : wY_can_146 q nh wd sd cc lo st pr 0 yh ho yn le op nn pt ce sk oq cw ya cl li lc tx := br_t rfl h
theorem yf_111 (hc : c < 34) (hk : k ≤ 8) (hl : l ≤ 6) (f : (c = 22 → k < 8) → (c = 30 → l < 6) → q 1 (nh, wd, nI d, nI k, nI l, nI s, pr, 0, yh, ho, yn, le, op, nn, pt, ce, sk, oq, cw, ya, cl, li, lc, tx)) (g : (c = 22 ∧ k = 8) ∨ (c = 30 ∧ l = 6) → q 0 (nh, wd, nI d, nI k, nI l, nI s, pr, 1, nI 5, ho, yn, le, op, nn, pt, ce, sk, oq, cw, ya, cl, li, lc, tx)) :
    wY_can_111 q (nI c) nh wd (nI d) (nI k) (nI l) (nI s) pr 0 yh ho yn le op nn pt ce sk oq cw ya cl li lc tx := by
  have K : (c = 22 → k < 8) → wY_can_126 q (nI c) nh wd (nI d) (nI k) (nI l) (nI s) pr 0 yh ho yn le op nn pt ce sk oq cw ya cl li lc tx := fun w =>
    pk_eq c 30 (fun z => pk_eq l 6 (fun y => yf_E (g (Or.inr ⟨z, y⟩))) (fun y => yf_0 (f w (fun _ => by omega)))) (fun z => yf_0 (f w (fun y => absurd y z)))
  exact pk_eq c 22 (fun z => pk_eq k 8 (fun y => yf_E (g (Or.inl ⟨z, y⟩))) (fun y => K (fun _ => by omega))) (fun z => K (fun y => absurd y z))
theorem yf_86 (hc : c < 34) (hd : d ≤ 12) (hk : k ≤ 8) (hl : l ≤ 6) (f : (fc_G c → d < 12) → (c = 22 → k < 8) → (c = 30 → l < 6) → q 1 (nh, wd, nI d, nI k, nI l, nI s, pr, 0, yh, ho, yn, le, op, nn, pt, ce, sk, oq, cw, ya, cl, li, lc, tx)) (g : (fc_G c → d < 12) → (c = 22 ∧ k = 8) ∨ (c = 30 ∧ l = 6) → q 0 (nh, wd, nI d, nI k, nI l, nI s, pr, 1, nI 5, ho, yn, le, op, nn, pt, ce, sk, oq, cw, ya, cl, li, lc, tx))
    (i : fc_G c → d = 12 → q 0 (nh, wd, nI d, nI k, nI l, nI s, pr, 1, nI 4, ho, yn, le, op, nn, pt, ce, sk, oq, cw, ya, cl, li, lc, tx)) : wY_can_86 q (nI c) nh wd (nI d) (nI k) (nI l) (nI s) pr 0 yh ho yn le op nn pt ce sk oq cw ya cl li lc tx := by
  unfold wY_can_86
  by_cases G : fc_G c
  · exact yq_gt hc G (br_f fn_10 (pk_eq d 12 (fun y => yf_E (i G y)) (fun y => yf_111 hc hk hl (f (fun _ => by omega)) (g (fun _ => by omega)))))
  · exact yq_gf hc G (br_t rfl (yf_111 hc hk hl (f (fun y => absurd y G)) (g (fun y => absurd y G))))
theorem yf_64 (h2 : 1 ≤ d) (hd : d ≤ 12) (f : ¬ sk (d - 1) = 0 → wY_can_86 q (nI c) nh wd (nI d) (nI k) (nI l) (nI s) pr 0 yh ho yn le op nn pt ce sk oq cw ya cl li lc tx) (g : sk (d - 1) = 0 → q 0 (nh, wd, nI d, nI k, nI l, nI s, pr, 1, nI 3, ho, yn, le, op, nn, pt, ce, sk, oq, cw, ya, cl, li, lc, tx)) :
    wY_can_64 q (nI c) nh wd (nI d) (nI k) (nI l) (nI s) pr 0 yh ho yn le op nn pt ce sk oq cw ya cl li lc tx := by
  obtain ⟨e, rfl⟩ : ∃ e, d = e + 1 := ⟨d - 1, by omega⟩
  have w : vp_in (nI (e + 1) - 1) 12 := by rw [nI_pred]; exact vp_in_nI (by omega) (by omega)
  have r : (nI (e + 1) - 1).toNatClampNeg = e := by rw [nI_pred]; exact nI_clamp (by omega)
  refine ⟨w, ?_⟩
  rw [r]
  exact br_c (fun z => yf_E (g z)) f
theorem yf_F (hc : c < 34) (hn : c ≠ 25 ∧ c ≠ 26) (hd : d ≤ 12) (hs : s ≤ 300) (hk : k ≤ 8) (hl : l ≤ 6)
    (f : s < 300 → fc_need c ≤ d → (c = 9 ∨ c = 10 → ¬ sk (d - 1) = 0) → (fc_G c → d < 12) → (c = 22 → k < 8) → (c = 30 → l < 6) → q 1 (nh, wd, nI d, nI k, nI l, nI s, pr, 0, yh, ho, yn, le, op, nn, pt, ce, sk, oq, cw, ya, cl, li, lc, tx))
    (g1 : s = 300 → q 0 (nh, wd, nI d, nI k, nI l, nI s, pr, 1, nI 1, ho, yn, le, op, nn, pt, ce, sk, oq, cw, ya, cl, li, lc, tx)) (g2 : s < 300 → d < fc_need c → q 0 (nh, wd, nI d, nI k, nI l, nI s, pr, 1, nI 2, ho, yn, le, op, nn, pt, ce, sk, oq, cw, ya, cl, li, lc, tx))
    (g3 : s < 300 → fc_need c ≤ d → (c = 9 ∨ c = 10) → sk (d - 1) = 0 → q 0 (nh, wd, nI d, nI k, nI l, nI s, pr, 1, nI 3, ho, yn, le, op, nn, pt, ce, sk, oq, cw, ya, cl, li, lc, tx))
    (g4 : s < 300 → fc_need c ≤ d → (c = 9 ∨ c = 10 → ¬ sk (d - 1) = 0) → fc_G c → d = 12 → q 0 (nh, wd, nI d, nI k, nI l, nI s, pr, 1, nI 4, ho, yn, le, op, nn, pt, ce, sk, oq, cw, ya, cl, li, lc, tx))
    (g5 : s < 300 → fc_need c ≤ d → (c = 9 ∨ c = 10 → ¬ sk (d - 1) = 0) → (fc_G c → d < 12) → (c = 22 ∧ k = 8) ∨ (c = 30 ∧ l = 6) → q 0 (nh, wd, nI d, nI k, nI l, nI s, pr, 1, nI 5, ho, yn, le, op, nn, pt, ce, sk, oq, cw, ya, cl, li, lc, tx)) :
    wpY_can q (nh, wd, nI d, nI k, nI l, nI s, pr, 0, yh, ho, yn, le, op, nn, pt, ce, sk, oq, cw, ya, cl, li, lc, tx) (nI c) := by
  have hN : fc_need c ≤ 3 := by unfold fc_need; split <;> (try split) <;> (try split) <;> omega
  refine br_f (fn_ne (m := 25) hn.1) (br_f (fn_ne (m := 26) hn.2) (pk_eq s 300 (fun h1 => yf_E (g1 h1)) (fun h1' => ?_)))
  have h1 : s < 300 := by omega
  refine yq_need hc (pk_le (fc_need c) d (fun h2 => ?_) (fun h2 => yf_E (g2 h1 h2)))
  have K : ∀ z : (c = 9 ∨ c = 10 → ¬ sk (d - 1) = 0), wY_can_86 q (nI c) nh wd (nI d) (nI k) (nI l) (nI s) pr 0 yh ho yn le op nn pt ce sk oq cw ya cl li lc tx :=
    fun z => yf_86 hc hd hk hl (f h1 h2 z) (g5 h1 h2 z) (g4 h1 h2 z)
  have D : (c = 9 ∨ c = 10) → 1 ≤ d := fun z => by
    have := fc_e2 (c := c) (by unfold fc_N2; omega)
    omega
  refine pk_eq c 9 (fun z => yf_64 (D (Or.inl z)) hd (fun y => K (fun _ => y)) (fun y => g3 h1 h2 (Or.inl z) y)) (fun z => ?_)
  exact pk_eq c 10 (fun w => yf_64 (D (Or.inr w)) hd (fun y => K (fun _ => y)) (fun y => g3 h1 h2 (Or.inr w) y)) (fun w => K (fun y => absurd y (by omega)))
end FY
/-- both at once: the fault, or all that an op may count on -/
theorem fc_fault {c d s k l : Nat} (hc : c < 34) (hn : c ≠ 25 ∧ c ≠ 26) (hd : d ≤ 12) (hs : s ≤ 300) (hk : k ≤ 8) (hl : l ≤ 6) :
    (∃ r : Nat, 1 ≤ r ∧ r ≤ 5 ∧ (∀ p : Int32 → Prop, p (nI r) → wpX_findFault p (nh, wc, wd, cv, nI d, pr, nI s, nI k, nI l, ho, xn, wa, go, pa, co, ca, wl, sk, ce, tx, cw, cp, cl, li, lc) (nI c)) ∧
      (∀ q : Int32 → SY → Prop, q 0 (nh, wd, nI d, nI k, nI l, nI s, pr, 1, nI r, ho, yn, le, op, nn, pt, ce, sk, oq, cw, ya, cl, li, lc, tx) → wpY_can q (nh, wd, nI d, nI k, nI l, nI s, pr, 0, yh, ho, yn, le, op, nn, pt, ce, sk, oq, cw, ya, cl, li, lc, tx) (nI c))) ∨
    (s < 300 ∧ fc_need c ≤ d ∧ (c = 9 ∨ c = 10 → ¬ sk (d - 1) = 0) ∧ (fc_G c → d < 12) ∧ (c = 22 → k < 8) ∧ (c = 30 → l < 6) ∧
      (∀ p : Int32 → Prop, p 0 → wpX_findFault p (nh, wc, wd, cv, nI d, pr, nI s, nI k, nI l, ho, xn, wa, go, pa, co, ca, wl, sk, ce, tx, cw, cp, cl, li, lc) (nI c)) ∧
      (∀ q : Int32 → SY → Prop, q 1 (nh, wd, nI d, nI k, nI l, nI s, pr, 0, yh, ho, yn, le, op, nn, pt, ce, sk, oq, cw, ya, cl, li, lc, tx) → wpY_can q (nh, wd, nI d, nI k, nI l, nI s, pr, 0, yh, ho, yn, le, op, nn, pt, ce, sk, oq, cw, ya, cl, li, lc, tx) (nI c))) := by
  by_cases a1 : s = 300
  · exact Or.inl ⟨1, by omega, by omega, fun p h => xf_F hc hd hs hk hl (fun z => absurd z (by omega)) (fun _ => h) (fun z => absurd z (by omega)) (fun z => absurd z (by omega)) (fun z => absurd z (by omega)) (fun z => absurd z (by omega)),
      fun q h => yf_F hc hn hd hs hk hl (fun z => absurd z (by omega)) (fun _ => h) (fun z => absurd z (by omega)) (fun z => absurd z (by omega)) (fun z => absurd z (by omega)) (fun z => absurd z (by omega))⟩
  by_cases a2 : d < fc_need c
  · exact Or.inl ⟨2, by omega, by omega, fun p h => xf_F hc hd hs hk hl (fun _ z => absurd z (by omega)) (fun z => absurd z a1) (fun _ _ => h) (fun _ z => absurd z (by omega)) (fun _ z => absurd z (by omega)) (fun _ z => absurd z (by omega)),
      fun q h => yf_F hc hn hd hs hk hl (fun _ z => absurd z (by omega)) (fun z => absurd z a1) (fun _ _ => h) (fun _ z => absurd z (by omega)) (fun _ z => absurd z (by omega)) (fun _ z => absurd z (by omega))⟩
  by_cases a3 : (c = 9 ∨ c = 10) ∧ sk (d - 1) = 0
  · exact Or.inl ⟨3, by omega, by omega, fun p h => xf_F hc hd hs hk hl (fun _ _ z => absurd a3.2 (z a3.1)) (fun z => absurd z a1) (fun _ z => absurd z a2) (fun _ _ _ _ => h) (fun _ _ z => absurd a3.2 (z a3.1)) (fun _ _ z => absurd a3.2 (z a3.1)),
      fun q h => yf_F hc hn hd hs hk hl (fun _ _ z => absurd a3.2 (z a3.1)) (fun z => absurd z a1) (fun _ z => absurd z a2) (fun _ _ _ _ => h) (fun _ _ z => absurd a3.2 (z a3.1)) (fun _ _ z => absurd a3.2 (z a3.1))⟩
  by_cases a4 : fc_G c ∧ d = 12
  · exact Or.inl ⟨4, by omega, by omega, fun p h => xf_F hc hd hs hk hl (fun _ _ _ z => absurd (z a4.1) (by omega)) (fun z => absurd z a1) (fun _ z => absurd z a2) (fun _ _ z y => absurd ⟨z, y⟩ a3) (fun _ _ _ _ _ => h) (fun _ _ _ z => absurd (z a4.1) (by omega)),
      fun q h => yf_F hc hn hd hs hk hl (fun _ _ _ z => absurd (z a4.1) (by omega)) (fun z => absurd z a1) (fun _ z => absurd z a2) (fun _ _ z y => absurd ⟨z, y⟩ a3) (fun _ _ _ _ _ => h) (fun _ _ _ z => absurd (z a4.1) (by omega))⟩
  by_cases a5 : (c = 22 ∧ k = 8) ∨ (c = 30 ∧ l = 6)
  · have B : ∀ {P : Prop}, (c = 22 → k < 8) → (c = 30 → l < 6) → P := fun x y => by
      rcases a5 with z | z
      · exact absurd (x z.1) (by omega)
      · exact absurd (y z.1) (by omega)
    exact Or.inl ⟨5, by omega, by omega, fun p h => xf_F hc hd hs hk hl (fun _ _ _ _ x y => B x y) (fun z => absurd z a1) (fun _ z => absurd z a2) (fun _ _ z y => absurd ⟨z, y⟩ a3) (fun _ _ _ x y => absurd ⟨x, y⟩ a4) (fun _ _ _ _ _ => h),
      fun q h => yf_F hc hn hd hs hk hl (fun _ _ _ _ x y => B x y) (fun z => absurd z a1) (fun _ z => absurd z a2) (fun _ _ z y => absurd ⟨z, y⟩ a3) (fun _ _ _ x y => absurd ⟨x, y⟩ a4) (fun _ _ _ _ _ => h)⟩
  have q1 : fc_G c → d < 12 := fun z => by
    have : ¬ d = 12 := fun y => a4 ⟨z, y⟩
    omega
  have q2 : c = 22 → k < 8 := fun z => by
    have : ¬ k = 8 := fun y => a5 (Or.inl ⟨z, y⟩)
    omega
  have q3 : c = 30 → l < 6 := fun z => by
    have : ¬ l = 6 := fun y => a5 (Or.inr ⟨z, y⟩)
    omega
  exact Or.inr ⟨by omega, by omega, fun z y => a3 ⟨z, y⟩, q1, q2, q3,
    fun p h => xf_F hc hd hs hk hl (fun _ _ _ _ _ _ => h) (fun z => absurd z a1) (fun _ z => absurd z a2) (fun _ _ z y => absurd ⟨z, y⟩ a3) (fun _ _ _ x y => absurd ⟨x, y⟩ a4) (fun _ _ _ _ z => absurd z a5),
    fun q h => yf_F hc hn hd hs hk hl (fun _ _ _ _ _ _ => h) (fun z => absurd z a1) (fun _ z => absurd z a2) (fun _ _ z y => absurd ⟨z, y⟩ a3) (fun _ _ _ x y => absurd ⟨x, y⟩ a4) (fun _ _ _ _ z => absurd z a5)⟩
end FL
end
section
/-! the ops 0 to 21: both sides do the same to stack, cells and text -/
section WK
variable {nh wc wd cv sd pr st cc lo ov yh : Int32} {ho xn wa go pa co ca wl sk ce tx cw cp cl li lc yn le op nn pt oq ya : Nat → Int32}
theorem fn_bit (u z : Nat) : ∃ b : Nat, b = 1 ∧ u ≤ z ∨ b = 0 ∧ z < u := by
  by_cases h : u ≤ z
  · exact ⟨1, Or.inl ⟨rfl, h⟩⟩
  · exact ⟨0, Or.inr ⟨rfl, by omega⟩⟩
/-- a value that both sides join -/
def fc_Jn (c : Nat) (v : SY) (a b r : Int32) : Prop := (∀ p : Int32 → Prop, p r → wpX_join p (nI c) a b) ∧ (∀ p : Int32 → Prop, p r → wpY_joined p v (nI c) a b)
theorem fj_6 {a b : Int32} : fc_Jn 6 (nh, wd, sd, cc, lo, st, pr, ov, yh, ho, yn, le, op, nn, pt, ce, sk, oq, cw, ya, cl, li, lc, tx) a b (a + b) := ⟨fun p h => br_f (by decide) (br_f (by decide) (br_t rfl (h))), fun p h => br_t rfl (h)⟩
theorem fj_7 {a b : Int32} : fc_Jn 7 (nh, wd, sd, cc, lo, st, pr, ov, yh, ho, yn, le, op, nn, pt, ce, sk, oq, cw, ya, cl, li, lc, tx) a b (a - b) := ⟨fun p h => br_f (by decide) (br_f (by decide) (br_f (by decide) (br_t rfl (h)))), fun p h => br_f (by decide) (br_t rfl (h))⟩
theorem fj_8 {a b : Int32} : fc_Jn 8 (nh, wd, sd, cc, lo, st, pr, ov, yh, ho, yn, le, op, nn, pt, ce, sk, oq, cw, ya, cl, li, lc, tx) a b (a * b) := ⟨fun p h => br_f (by decide) (br_f (by decide) (br_f (by decide) (br_f (by decide) (br_t rfl (h))))), fun p h => br_f (by decide) (br_f (by decide) (br_t rfl (h)))⟩
theorem fj_14 {a b : Int32} : fc_Jn 14 (nh, wd, sd, cc, lo, st, pr, ov, yh, ho, yn, le, op, nn, pt, ce, sk, oq, cw, ya, cl, li, lc, tx) a b (a &&& b) := ⟨fun p h => br_f (by decide) (br_f (by decide) (br_f (by decide) (br_f (by decide) (br_f (by decide) (br_f (by decide) (br_f (by decide) (br_f (by decide) (br_f (by decide) (br_f (by decide) (br_t rfl (h))))))))))), fun p h => br_f (by decide) (br_f (by decide) (br_f (by decide) (br_f (by decide) (br_f (by decide) (br_f (by decide) (br_f (by decide) (br_t rfl (h))))))))⟩
theorem fj_15 {a b : Int32} : fc_Jn 15 (nh, wd, sd, cc, lo, st, pr, ov, yh, ho, yn, le, op, nn, pt, ce, sk, oq, cw, ya, cl, li, lc, tx) a b (a ||| b) := ⟨fun p h => br_f (by decide) (br_f (by decide) (br_f (by decide) (br_f (by decide) (br_f (by decide) (br_f (by decide) (br_f (by decide) (br_f (by decide) (br_f (by decide) (br_f (by decide) (br_f (by decide) (br_t rfl (h)))))))))))), fun p h => br_f (by decide) (br_f (by decide) (br_f (by decide) (br_f (by decide) (br_f (by decide) (br_f (by decide) (br_f (by decide) (br_f (by decide) (br_t rfl (h)))))))))⟩
theorem fj_16 {a b : Int32} : fc_Jn 16 (nh, wd, sd, cc, lo, st, pr, ov, yh, ho, yn, le, op, nn, pt, ce, sk, oq, cw, ya, cl, li, lc, tx) a b (a ^^^ b) := ⟨fun p h => br_f (by decide) (br_t (by decide) (h)), fun p h => br_f (by decide) (br_f (by decide) (br_f (by decide) (br_f (by decide) (br_f (by decide) (br_f (by decide) (br_f (by decide) (br_f (by decide) (br_f (by decide) (h)))))))))⟩
theorem fj_9 {a b : Int32} (hb : ¬ b = 0) : fc_Jn 9 (nh, wd, sd, cc, lo, st, pr, ov, yh, ho, yn, le, op, nn, pt, ce, sk, oq, cw, ya, cl, li, lc, tx) a b (a / b) := ⟨fun p h => br_f (by decide) (br_f (by decide) (br_f (by decide) (br_f (by decide) (br_f (by decide) (br_t rfl (br_f hb ⟨hb, h⟩)))))), fun p h => br_f (by decide) (br_f (by decide) (br_f (by decide) (br_t rfl (br_f hb ⟨hb, h⟩))))⟩
theorem fj_10 {a b : Int32} (hb : ¬ b = 0) : fc_Jn 10 (nh, wd, sd, cc, lo, st, pr, ov, yh, ho, yn, le, op, nn, pt, ce, sk, oq, cw, ya, cl, li, lc, tx) a b (a - a / b * b) := ⟨fun p h => br_f (by decide) (br_f (by decide) (br_f (by decide) (br_f (by decide) (br_f (by decide) (br_f (by decide) (br_t rfl (br_f hb ⟨hb, h⟩))))))), fun p h => br_f (by decide) (br_f (by decide) (br_f (by decide) (br_f (by decide) (br_t rfl (br_f hb ⟨hb, h⟩)))))⟩
theorem fj_11 {a b : Int32} : ∃ r, fc_Jn 11 (nh, wd, sd, cc, lo, st, pr, ov, yh, ho, yn, le, op, nn, pt, ce, sk, oq, cw, ya, cl, li, lc, tx) a b r := by
  by_cases z : b ≤ a
  · exact ⟨0, fun p h => br_f (by decide) (br_f (by decide) (br_f (by decide) (br_f (by decide) (br_f (by decide) (br_f (by decide) (br_f (by decide) (br_t rfl (br_t z h)))))))), fun p h => br_f (by decide) (br_f (by decide) (br_f (by decide) (br_f (by decide) (br_f (by decide) (br_t rfl (br_t z (br_t rfl h)))))))⟩
  · exact ⟨-1, fun p h => br_f (by decide) (br_f (by decide) (br_f (by decide) (br_f (by decide) (br_f (by decide) (br_f (by decide) (br_f (by decide) (br_t rfl (br_f z h)))))))), fun p h => br_f (by decide) (br_f (by decide) (br_f (by decide) (br_f (by decide) (br_f (by decide) (br_t rfl (br_f z (br_f fn_10 h)))))))⟩
theorem fj_12 {a b : Int32} : ∃ r, fc_Jn 12 (nh, wd, sd, cc, lo, st, pr, ov, yh, ho, yn, le, op, nn, pt, ce, sk, oq, cw, ya, cl, li, lc, tx) a b r := by
  by_cases z : a = b
  · exact ⟨-1, fun p h => br_f (by decide) (br_f (by decide) (br_f (by decide) (br_f (by decide) (br_f (by decide) (br_f (by decide) (br_f (by decide) (br_f (by decide) (br_t rfl (br_t z h))))))))), fun p h => br_f (by decide) (br_f (by decide) (br_f (by decide) (br_f (by decide) (br_f (by decide) (br_f (by decide) (br_t rfl (br_t z (br_f fn_10 h))))))))⟩
  · exact ⟨0, fun p h => br_f (by decide) (br_f (by decide) (br_f (by decide) (br_f (by decide) (br_f (by decide) (br_f (by decide) (br_f (by decide) (br_f (by decide) (br_t rfl (br_f z h))))))))), fun p h => br_f (by decide) (br_f (by decide) (br_f (by decide) (br_f (by decide) (br_f (by decide) (br_f (by decide) (br_t rfl (br_f z (br_t rfl h))))))))⟩
theorem fj_all {c : Nat} {a b : Int32} (hj : fc_B c) (hb : c = 9 ∨ c = 10 → ¬ b = 0) : ∃ r, fc_Jn c (nh, wd, sd, cc, lo, st, pr, ov, yh, ho, yn, le, op, nn, pt, ce, sk, oq, cw, ya, cl, li, lc, tx) a b r := by
  unfold fc_B at hj
  have h : c = 6 ∨ c = 7 ∨ c = 8 ∨ c = 9 ∨ c = 10 ∨ c = 11 ∨ c = 12 ∨ c = 14 ∨ c = 15 ∨ c = 16 := by omega
  rcases h with rfl | rfl | rfl | rfl | rfl | rfl | rfl | rfl | rfl | rfl
  · exact ⟨_, fj_6⟩
  · exact ⟨_, fj_7⟩
  · exact ⟨_, fj_8⟩
  · exact ⟨_, fj_9 (hb (Or.inl rfl))⟩
  · exact ⟨_, fj_10 (hb (Or.inr rfl))⟩
  · exact fj_11
  · exact fj_12
  · exact ⟨_, fj_14⟩
  · exact ⟨_, fj_15⟩
  · exact ⟨_, fj_16⟩
/-- a value that both sides make of one -/
def fc_Al (c : Nat) (u : SX) (v : SY) (a r : Int32) : Prop := (∀ p : Int32 → Prop, p r → wpX_alter p u (nI c) a) ∧ (∀ p : Int32 → Prop, p r → wpY_single p v (nI c) a)
theorem fl_all {c : Nat} {a : Int32} (hj : fc_A c) : ∃ r, fc_Al c (nh, wc, wd, cv, sd, pr, st, cc, lo, ho, xn, wa, go, pa, co, ca, wl, sk, ce, tx, cw, cp, cl, li, lc) (nh, wd, sd, cc, lo, st, pr, ov, yh, ho, yn, le, op, nn, pt, ce, sk, oq, cw, ya, cl, li, lc, tx) a r := by
  unfold fc_A at hj
  have h : c = 13 ∨ c = 17 ∨ c = 18 ∨ c = 19 := by omega
  rcases h with rfl | rfl | rfl | rfl
  · by_cases z : a = 0
    · exact ⟨-1, fun p h => br_t rfl (br_t z h), fun p h => br_t rfl (br_t z (br_f fn_10 h))⟩
    · exact ⟨0, fun p h => br_t rfl (br_f z h), fun p h => br_t rfl (br_f z (br_t rfl h))⟩
  · exact ⟨_, fun p h => br_f (by decide) (br_t rfl h), fun p h => br_f (by decide) (br_t rfl h)⟩
  · exact ⟨_, fun p h => br_f (by decide) (br_f (by decide) (br_t rfl h)), fun p h => br_f (by decide) (br_f (by decide) (br_t rfl h))⟩
  · have w : vp_in (a &&& 15) 16 := pk_andIn a 4 (by decide) (by decide)
    exact ⟨_, fun p h => br_f (by decide) (br_f (by decide) (br_f (by decide) ⟨w, h⟩)), fun p h => br_f (by decide) (br_f (by decide) (br_f (by decide) ⟨w, h⟩))⟩
/-- an op of both sides, from u, v to u', v' -/
def fc_Do (c : Nat) (x : Int32) (u : SX) (v : SY) (u' : SX) (v' : SY) : Prop :=
  (∀ p : Int32 → SX → Prop, p (-1) u' → wpX_execute p u (nI c) (lw_i16 x)) ∧ (∀ q : SY → Prop, q v' → wpY_work q v (nI c) x)
theorem fw_join {c d : Nat} {x r : Int32} (hc : c < 22) (hj : fc_B c) (hd : d + 2 ≤ 12) (hX : ∀ p : Int32 → Prop, p r → wpX_join p (nI c) (sk d) (sk (d + 1))) (hY : ∀ p : Int32 → Prop, p r → wpY_joined p (nh, wd, nI d, cc, lo, st, pr, ov, yh, ho, yn, le, op, nn, pt, ce, sk, oq, cw, ya, cl, li, lc, tx) (nI c) (sk d) (sk (d + 1))) :
    fc_Do c x (nh, wc, wd, cv, nI (d + 2), pr, st, cc, lo, ho, xn, wa, go, pa, co, ca, wl, sk, ce, tx, cw, cp, cl, li, lc) (nh, wd, nI (d + 2), cc, lo, st, pr, ov, yh, ho, yn, le, op, nn, pt, ce, sk, oq, cw, ya, cl, li, lc, tx) (nh, wc, wd, cv, nI (d + 1), pr, st, cc, lo, ho, xn, wa, go, pa, co, ca, wl, upd sk d (lw_i16 r), ce, tx, cw, cp, cl, li, lc) (nh, wd, nI (d + 1), cc, lo, st, pr, ov, yh, ho, yn, le, op, nn, pt, ce, upd sk d (lw_i16 r), oq, cw, ya, cl, li, lc, tx) := by
  have h5 : 5 < c := by unfold fc_B at hj; omega
  constructor
  · intro p hp
    refine br_t (nI_lt (b := 30) (by omega) (by decide)) (br_t (nI_lt (b := 22) hc (by decide)) (br_t (nI_lt (a := 5) h5 (by omega)) ?_))
    refine xq_jt (by omega) hj (br_f fn_10 ?_)
    refine xp_take (d := d + 1) (by omega) ?_
    refine xp_take (d := d) (by omega) ?_
    refine hX _ ?_
    exact xp_put (d := d) (by omega) hp
  · intro q hq
    have K : wY_work_43 q (nI c) nh wd (nI (d + 2)) cc lo st pr ov yh ho yn le op nn pt ce sk oq cw ya cl li lc tx := by
      unfold wY_work_43
      refine yp_take (d := d + 1) (by omega) ?_
      refine yp_take (d := d) (by omega) ?_
      refine hY _ ?_
      exact yp_give (d := d) (by omega) hq
    refine br_f (fn_ne (m := 0) (by omega)) (br_t (nI_lt (a := 5) h5 (by omega)) (pk_le c 12 (fun _ => K) (fun z => ?_)))
    refine yq_in 14 16 (by omega) (by omega) (by omega) (fun _ => br_f fn_10 K) (fun y => absurd hj (by unfold fc_B; omega))
theorem fw_alter {c d : Nat} {x r : Int32} (hc : c < 22) (hj : fc_A c) (hd : d + 1 ≤ 12) (hX : ∀ p : Int32 → Prop, p r → wpX_alter p (nh, wc, wd, cv, nI d, pr, st, cc, lo, ho, xn, wa, go, pa, co, ca, wl, sk, ce, tx, cw, cp, cl, li, lc) (nI c) (sk d)) (hY : ∀ p : Int32 → Prop, p r → wpY_single p (nh, wd, nI d, cc, lo, st, pr, ov, yh, ho, yn, le, op, nn, pt, ce, sk, oq, cw, ya, cl, li, lc, tx) (nI c) (sk d)) :
    fc_Do c x (nh, wc, wd, cv, nI (d + 1), pr, st, cc, lo, ho, xn, wa, go, pa, co, ca, wl, sk, ce, tx, cw, cp, cl, li, lc) (nh, wd, nI (d + 1), cc, lo, st, pr, ov, yh, ho, yn, le, op, nn, pt, ce, sk, oq, cw, ya, cl, li, lc, tx) (nh, wc, wd, cv, nI (d + 1), pr, st, cc, lo, ho, xn, wa, go, pa, co, ca, wl, upd sk d (lw_i16 r), ce, tx, cw, cp, cl, li, lc) (nh, wd, nI (d + 1), cc, lo, st, pr, ov, yh, ho, yn, le, op, nn, pt, ce, upd sk d (lw_i16 r), oq, cw, ya, cl, li, lc, tx) := by
  have h5 : 12 < c := by unfold fc_A at hj; omega
  have hb : ¬ fc_B c := by unfold fc_B; unfold fc_A at hj; omega
  constructor
  · intro p hp
    refine br_t (nI_lt (b := 30) (by omega) (by decide)) (br_t (nI_lt (b := 22) hc (by decide)) (br_t (nI_lt (a := 5) (by omega) (by omega)) ?_))
    refine xq_jf (by omega) hb (br_t rfl ?_)
    refine xq_at (by omega) hj (br_f fn_10 ?_)
    refine xp_take (d := d) (by omega) ?_
    refine hX _ ?_
    exact xp_put (d := d) (by omega) hp
  · intro q hq
    have K : wY_work_91 q (nI c) nh wd (nI (d + 1)) cc lo st pr ov yh ho yn le op nn pt ce sk oq cw ya cl li lc tx := by
      unfold wY_work_91
      refine yp_take (d := d) (by omega) ?_
      refine hY _ ?_
      exact yp_give (d := d) (by omega) hq
    refine br_f (fn_ne (m := 0) (by omega)) (br_t (nI_lt (a := 5) (by omega) (by omega)) (br_f (nI_ge (b := c) h5 (by omega)) ?_))
    refine yq_in 14 16 (by omega) (by omega) (by omega) (fun y => absurd hb (by unfold fc_B; omega)) (fun y => br_t rfl (pk_eq c 13 (fun _ => K) (fun z => ?_)))
    refine yq_in 17 19 (by omega) (by omega) (by omega) (fun _ => br_f fn_10 K) (fun y => absurd hj (by unfold fc_A; omega))
theorem fw_store {d : Nat} {x : Int32} (hd : d + 2 ≤ 12) (hs : fc_Sh sk) :
    ∃ j : Nat, fc_Do 20 x (nh, wc, wd, cv, nI (d + 2), pr, st, cc, lo, ho, xn, wa, go, pa, co, ca, wl, sk, ce, tx, cw, cp, cl, li, lc) (nh, wd, nI (d + 2), cc, lo, st, pr, ov, yh, ho, yn, le, op, nn, pt, ce, sk, oq, cw, ya, cl, li, lc, tx) (nh, wc, wd, cv, nI d, pr, st, cc, lo, ho, xn, wa, go, pa, co, ca, wl, sk, upd ce j (sk d), tx, cw, cp, cl, li, lc) (nh, wd, nI d, cc, lo, st, pr, ov, yh, ho, yn, le, op, nn, pt, upd ce j (sk d), sk, oq, cw, ya, cl, li, lc, tx) := by
  obtain ⟨j, hj, e⟩ := pk_andE (sk (d + 1)) (m := 15) 4 (by decide)
  have w : vp_in (sk (d + 1) &&& 15) 16 := pk_andIn _ 4 (by decide) (by decide)
  have k : (sk (d + 1) &&& 15).toNatClampNeg = j := by rw [e]; exact nI_clamp (by omega)
  refine ⟨j, ?_, ?_⟩
  · intro p hp
    refine br_t (by decide) (br_t (by decide) (br_t (by decide) ?_))
    refine xq_jf (c := 20) (by omega) (by unfold fc_B; omega) (br_t rfl ?_)
    refine xq_af (c := 20) (by omega) (by unfold fc_A; omega) (br_t rfl (br_t rfl ?_))
    refine xp_take (d := d + 1) (by omega) ?_
    refine xp_take (d := d) (by omega) ?_
    exact ⟨w, nm_r (e' := upd ce j (sk d)) (by rw [k, fn_vi (hs d)]) hp⟩
  · intro q hq
    refine br_f (by decide) (br_t (by decide) (br_f (by decide) ?_))
    refine yq_in (c := 20) 14 16 (by omega) (by omega) (by omega) (fun y => absurd y (by omega)) (fun y => br_t rfl (br_f (by decide) ?_))
    refine yq_in (c := 20) 17 19 (by omega) (by omega) (by omega) (fun y => absurd y (by omega)) (fun y => br_t rfl (br_t rfl ?_))
    refine yp_take (d := d + 1) (by omega) ?_
    refine yp_take (d := d) (by omega) ?_
    exact ⟨w, nm_r (e' := upd ce j (sk d)) (by rw [k]) hq⟩
/-! print -/
/-- a digit: u is its power of ten, z the number -/
def fc_dg (u z : Nat) (t : Nat → Int32) (p : Nat) : (Nat → Int32) × Nat := if u ≤ z ∨ u = 1 then (fc_tx t p (nI (48 + z / u % 10)), p + 1) else (t, p)
theorem fc_dg_t {u z p : Nat} {t : Nat → Int32} (h : u ≤ z ∨ u = 1) : fc_dg u z t p = (fc_tx t p (nI (48 + z / u % 10)), p + 1) := if_pos h
theorem fc_dg_f {u z p : Nat} {t : Nat → Int32} (h : ¬ (u ≤ z ∨ u = 1)) : fc_dg u z t p = (t, p) := if_neg h
theorem fc_dg_p {u z p : Nat} {t : Nat → Int32} : (fc_dg u z t p).2 ≤ p + 1 := by
  by_cases h : u ≤ z ∨ u = 1
  · rw [fc_dg_t h]; exact Nat.le_refl _
  · rw [fc_dg_f h]; exact Nat.le_succ _
/-- one turn of X's loop -/
theorem xd_1 {post : SX → Prop} {n u z p : Nat} (hu : 0 < u) (hu2 : u < 2 ^ 20) (hz : z < 2 ^ 20) (hp : p < 2 ^ 29)
    (h : wX_print_25 post (nI z) n (nI (u / 10)) nh wc wd cv sd (nI (fc_dg u z tx p).2) st cc lo ho xn wa go pa co ca wl sk ce ((fc_dg u z tx p).1) cw cp cl li lc) : wX_print_25 post (nI z) (n + 1) (nI u) nh wc wd cv sd (nI p) st cc lo ho xn wa go pa co ca wl sk ce tx cw cp cl li lc := by
  rw [wX_print_25]
  have e10 : nI u / 10 = nI (u / 10) := pk_div (d := 10) (by omega) (by omega) (by omega)
  have n10 : ¬ (10 : Int32) = 0 := by decide
  have hm : z / u % 10 < 10 := Nat.mod_lt _ (by omega)
  have hq : z / u < 2 ^ 31 := Nat.lt_of_le_of_lt (Nat.div_le_self z u) (by omega)
  have K : (u ≤ z ∨ u = 1) → wX_print_39 post (wX_print_25 post (nI z) n) (nI z) (nI u) nh wc wd cv sd (nI p) st cc lo ho xn wa go pa co ca wl sk ce tx cw cp cl li lc := by
    intro c
    rw [fc_dg_t c] at h
    have ed : 48 + (nI z / nI u - nI z / nI u / 10 * 10) = nI (48 + z / u % 10) := by
      rw [pk_div (by omega) hu (by omega)]
      have := pk_rem (a := z / u) (d := 10) hq (by omega) (by omega)
      exact (congrArg (fun y => nI 48 + y) this).trans (nI_add 48 _)
    refine ⟨nI_ne0 hu (by omega), n10, ?_⟩
    rw [ed]
    exact xp_char (by omega) (by omega) ⟨n10, nm_r e10 h⟩
  refine br_f (nI_nle hu (by omega)) (pk_le u z (fun c => K (Or.inl c)) (fun c => pk_eq u 1 (fun y => K (Or.inr y)) (fun y => ⟨n10, nm_r e10 ?_⟩)))
  rw [fc_dg_f (by omega)] at h
  exact h
theorem xd_0 {post : SX → Prop} {n p : Nat} {z : Int32} (hp : p < 2 ^ 29) (h : post (nh, wc, wd, cv, sd, nI (p + 1), st, cc, lo, ho, xn, wa, go, pa, co, ca, wl, sk, ce, fc_tx tx p (nI 32), cw, cp, cl, li, lc)) : wX_print_25 post z (n + 1) (nI 0) nh wc wd cv sd (nI p) st cc lo ho xn wa go pa co ca wl sk ce tx cw cp cl li lc := by
  rw [wX_print_25]
  exact br_t (by decide) (xp_char (n := 32) (by omega) (by omega) h)
/-- one turn of Y's: f tells whether a digit has been put, which is whether 10 u ≤ z -/
theorem yd_1 {post : SY → Prop} {n u z p k f g : Nat} (hk : k < 5) (hu : 0 < u) (hu2 : u < 2 ^ 20) (hz : z < 2 ^ 20) (hf : f = 1 ∧ 10 * u ≤ z ∨ f = 0 ∧ z < 10 * u) (hg : g = 1 ∧ (u ≤ z ∨ u = 1) ∨ g = 0 ∧ z < u ∧ u ≠ 1) (h4 : k = 4 ∧ u = 1 ∨ k ≠ 4 ∧ u ≠ 1) (hp : p < 2 ^ 29)
    (h : wY_print_31 post (nI z) n (nI (u / 10)) (nI g) (nI (k + 1)) nh wd sd cc lo st (nI (fc_dg u z tx p).2) ov yh ho yn le op nn pt ce sk oq cw ya cl li lc ((fc_dg u z tx p).1)) :
    wY_print_31 post (nI z) (n + 1) (nI u) (nI f) (nI k) nh wd sd cc lo st (nI p) ov yh ho yn le op nn pt ce sk oq cw ya cl li lc tx := by
  rw [wY_print_31]
  have e10 : nI u / 10 = nI (u / 10) := pk_div (d := 10) (by omega) (by omega) (by omega)
  have n10 : ¬ (10 : Int32) = 0 := by decide
  have hm : z / u % 10 < 10 := Nat.mod_lt _ (by omega)
  have hq : z / u < 2 ^ 31 := Nat.lt_of_le_of_lt (Nat.div_le_self z u) (by omega)
  have ed : nI z / nI u - nI z / nI u / 10 * 10 = nI (z / u % 10) := by
    rw [pk_div (by omega) hu (by omega)]
    exact pk_rem (a := z / u) (d := 10) hq (by omega) (by omega)
  have S1 : (u ≤ z ∨ u = 1) → wY_print_68 post (wY_print_31 post (nI z) n) (nI z) (nI u) 1 (nI k) (nI (z / u % 10)) nh wd sd cc lo st (nI p) ov yh ho yn le op nn pt ce sk oq cw ya cl li lc tx := by
    intro c
    have g1 : g = 1 := by omega
    rw [fc_dg_t c, g1] at h
    refine br_f fn_10 ?_
    rw [show (48 : Int32) + nI (z / u % 10) = nI (48 + z / u % 10) from nI_add 48 _]
    exact yp_char (by omega) ⟨n10, nm_r e10 (nm_r (nI_1 k) h)⟩
  have S0 : ¬ (u ≤ z ∨ u = 1) → wY_print_68 post (wY_print_31 post (nI z) n) (nI z) (nI u) (nI f) (nI k) (nI (z / u % 10)) nh wd sd cc lo st (nI p) ov yh ho yn le op nn pt ce sk oq cw ya cl li lc tx := by
    intro c
    have g0 : g = 0 := by omega
    have f0 : f = 0 := by omega
    rw [fc_dg_f c, g0] at h
    rw [f0]
    exact br_t rfl ⟨n10, nm_r e10 (nm_r (nI_1 k) h)⟩
  refine br_f (nI_ge (b := 5) hk (by decide)) (br_t (nI_le (a := 1) hu (by omega)) ?_)
  refine ⟨nI_ne0 hu (by omega), n10, nm_r ed ?_⟩
  have hd0 : u ≤ z → z < 10 * u → 0 < z / u % 10 := fun a b => by
    have h1 : 1 ≤ z / u := (Nat.le_div_iff_mul_le hu).mpr (by omega)
    have h2 : z / u < 10 := (Nat.div_lt_iff_lt_mul hu).mpr (by omega)
    rw [Nat.mod_eq_of_lt h2]
    omega
  have hd1 : z < u → z / u % 10 = 0 := fun a => by rw [Nat.div_eq_of_lt a]
  generalize z / u % 10 = dg at *
  refine pk_lt 0 dg (fun y => S1 ?_) (fun y => pk_eq k 4 (fun w => S1 (by omega)) (fun w => ?_))
  · by_cases a : u ≤ z
    · exact Or.inl a
    · have := hd1 (by omega)
      omega
  · by_cases a : 10 * u ≤ z
    · have := S1 (Or.inl (by omega))
      have f1 : f = 1 := by omega
      rw [f1]
      exact this
    · refine S0 (fun c => ?_)
      rcases c with c | c
      · have := hd0 c (by omega)
        omega
      · omega
theorem yd_0 {post : SY → Prop} {n p : Nat} {z a b : Int32} (hp : p < 2 ^ 29) (h : post (nh, wd, sd, cc, lo, st, nI (p + 1), ov, yh, ho, yn, le, op, nn, pt, ce, sk, oq, cw, ya, cl, li, lc, fc_tx tx p (nI 32))) : wY_print_31 post z (n + 1) a b (nI 5) nh wd sd cc lo st (nI p) ov yh ho yn le op nn pt ce sk oq cw ya cl li lc tx := by
  rw [wY_print_31]
  exact br_t (by decide) (yp_char (c := nI 32) (by omega) h)
/-- the number's digits and the blank -/
theorem fd_all {z p : Nat} (hz : z ≤ 32768) (hp : p < 2 ^ 20) : ∃ (t' : Nat → Int32) (p' : Nat), p' ≤ p + 6 ∧
    (∀ post : SX → Prop, post (nh, wc, wd, cv, sd, nI p', st, cc, lo, ho, xn, wa, go, pa, co, ca, wl, sk, ce, t', cw, cp, cl, li, lc) → ∃ n, wX_print_25 post (nI z) n 10000 nh wc wd cv sd (nI p) st cc lo ho xn wa go pa co ca wl sk ce tx cw cp cl li lc) ∧
    (∀ post : SY → Prop, post (nh, wd, sd, cc, lo, st, nI p', ov, yh, ho, yn, le, op, nn, pt, ce, sk, oq, cw, ya, cl, li, lc, t') → ∃ n, wY_print_31 post (nI z) n 10000 0 0 nh wd sd cc lo st (nI p) ov yh ho yn le op nn pt ce sk oq cw ya cl li lc tx) := by
  have a1 := fc_dg_p (u := 10000) (z := z) (p := p) (t := tx)
  generalize e1 : fc_dg 10000 z tx p = s1 at a1
  have a2 := fc_dg_p (u := 1000) (z := z) (p := s1.2) (t := s1.1)
  generalize e2 : fc_dg 1000 z s1.1 s1.2 = s2 at a2
  have a3 := fc_dg_p (u := 100) (z := z) (p := s2.2) (t := s2.1)
  generalize e3 : fc_dg 100 z s2.1 s2.2 = s3 at a3
  have a4 := fc_dg_p (u := 10) (z := z) (p := s3.2) (t := s3.1)
  generalize e4 : fc_dg 10 z s3.1 s3.2 = s4 at a4
  have a5 := fc_dg_p (u := 1) (z := z) (p := s4.2) (t := s4.1)
  generalize e5 : fc_dg 1 z s4.1 s4.2 = s5 at a5
  refine ⟨fc_tx s5.1 s5.2 (nI 32), s5.2 + 1, by omega, fun post h => ⟨6, ?_⟩, fun post h => ⟨6, ?_⟩⟩
  · refine xd_1 (u := 10000) (by omega) (by omega) (by omega) (by omega) ?_
    rw [e1]
    refine xd_1 (u := 1000) (by omega) (by omega) (by omega) (by omega) ?_
    rw [e2]
    refine xd_1 (u := 100) (by omega) (by omega) (by omega) (by omega) ?_
    rw [e3]
    refine xd_1 (u := 10) (by omega) (by omega) (by omega) (by omega) ?_
    rw [e4]
    refine xd_1 (u := 1) (by omega) (by omega) (by omega) (by omega) ?_
    rw [e5]
    exact xd_0 (by omega) h
  · obtain ⟨b1, g1⟩ : ∃ b : Nat, b = 1 ∧ 10000 ≤ z ∨ b = 0 ∧ z < 10000 := fn_bit 10000 z
    obtain ⟨b2, g2⟩ : ∃ b : Nat, b = 1 ∧ 1000 ≤ z ∨ b = 0 ∧ z < 1000 := fn_bit 1000 z
    obtain ⟨b3, g3⟩ : ∃ b : Nat, b = 1 ∧ 100 ≤ z ∨ b = 0 ∧ z < 100 := fn_bit 100 z
    obtain ⟨b4, g4⟩ : ∃ b : Nat, b = 1 ∧ 10 ≤ z ∨ b = 0 ∧ z < 10 := fn_bit 10 z
    refine yd_1 (u := 10000) (k := 0) (f := 0) (g := b1) (by omega) (by omega) (by omega) (by omega) (by omega) (by omega) (by omega) (by omega) ?_
    rw [e1]
    refine yd_1 (u := 1000) (k := 1) (f := b1) (g := b2) (by omega) (by omega) (by omega) (by omega) (by omega) (by omega) (by omega) (by omega) ?_
    rw [e2]
    refine yd_1 (u := 100) (k := 2) (f := b2) (g := b3) (by omega) (by omega) (by omega) (by omega) (by omega) (by omega) (by omega) (by omega) ?_
    rw [e3]
    refine yd_1 (u := 10) (k := 3) (f := b3) (g := b4) (by omega) (by omega) (by omega) (by omega) (by omega) (by omega) (by omega) (by omega) ?_
    rw [e4]
    refine yd_1 (u := 1) (k := 4) (f := b4) (g := 1) (by omega) (by omega) (by omega) (by omega) (by omega) (by omega) (by omega) (by omega) ?_
    rw [e5]
    exact yd_0 (by omega) h
/-- the sign ahead of them -/
theorem fn_abs {a : Int32} (h : lw_i16 a = a) (hn : ¬ 0 ≤ a) : ∃ z : Nat, z ≤ 32768 ∧ -a = nI z := by
  obtain ⟨r1, r2⟩ := fn_rng h
  rw [Int32.le_iff_toInt_le, show (0 : Int32).toInt = 0 from by decide] at hn
  refine ⟨(-a.toInt).toNat, by omega, ?_⟩
  apply Int32.toInt_inj.mp
  rw [nI_toInt (by omega), Int32.toInt_neg, Int.bmod_eq_of_le (by omega) (by omega)]
  omega
theorem fn_pos {a : Int32} (h : lw_i16 a = a) (hn : 0 ≤ a) : ∃ z : Nat, z ≤ 32768 ∧ a = nI z := by
  obtain ⟨r1, r2⟩ := fn_rng h
  rw [Int32.le_iff_toInt_le, show (0 : Int32).toInt = 0 from by decide] at hn
  refine ⟨a.toInt.toNat, by omega, ?_⟩
  apply Int32.toInt_inj.mp
  rw [nI_toInt (by omega)]
  omega
theorem fp_all {a : Int32} {p : Nat} (ha : lw_i16 a = a) (hp : p < 2 ^ 19) : ∃ (t' : Nat → Int32) (p' : Nat), p' ≤ p + 7 ∧
    (∀ post : SX → Prop, post (nh, wc, wd, cv, sd, nI p', st, cc, lo, ho, xn, wa, go, pa, co, ca, wl, sk, ce, t', cw, cp, cl, li, lc) → wpX_print post (nh, wc, wd, cv, sd, nI p, st, cc, lo, ho, xn, wa, go, pa, co, ca, wl, sk, ce, tx, cw, cp, cl, li, lc) a) ∧ (∀ post : SY → Prop, post (nh, wd, sd, cc, lo, st, nI p', ov, yh, ho, yn, le, op, nn, pt, ce, sk, oq, cw, ya, cl, li, lc, t') → wpY_print post (nh, wd, sd, cc, lo, st, nI p, ov, yh, ho, yn, le, op, nn, pt, ce, sk, oq, cw, ya, cl, li, lc, tx) a) := by
  by_cases hn : 0 ≤ a
  · obtain ⟨z, hz, rfl⟩ := fn_pos ha hn
    have F : ∃ (t' : Nat → Int32) (p' : Nat), p' ≤ p + 6 ∧
      (∀ post : SX → Prop, post (nh, wc, wd, cv, sd, nI p', st, cc, lo, ho, xn, wa, go, pa, co, ca, wl, sk, ce, t', cw, cp, cl, li, lc) → ∃ n, wX_print_25 post (nI z) n 10000 nh wc wd cv sd (nI p) st cc lo ho xn wa go pa co ca wl sk ce tx cw cp cl li lc) ∧
      (∀ post : SY → Prop, post (nh, wd, sd, cc, lo, st, nI p', ov, yh, ho, yn, le, op, nn, pt, ce, sk, oq, cw, ya, cl, li, lc, t') → ∃ n, wY_print_31 post (nI z) n 10000 0 0 nh wd sd cc lo st (nI p) ov yh ho yn le op nn pt ce sk oq cw ya cl li lc tx) := fd_all hz (by omega)
    obtain ⟨t', p', h1, h2, h3⟩ := F
    exact ⟨t', p', by omega, fun post h => br_t hn (br_t hn (h2 post h)), fun post h => br_t hn (br_t hn (h3 post h))⟩
  · obtain ⟨z, hz, e⟩ := fn_abs ha hn
    have F : ∃ (t' : Nat → Int32) (p' : Nat), p' ≤ p + 1 + 6 ∧
      (∀ post : SX → Prop, post (nh, wc, wd, cv, sd, nI p', st, cc, lo, ho, xn, wa, go, pa, co, ca, wl, sk, ce, t', cw, cp, cl, li, lc) → ∃ n, wX_print_25 post (nI z) n 10000 nh wc wd cv sd (nI (p + 1)) st cc lo ho xn wa go pa co ca wl sk ce (fc_tx tx p (nI 45)) cw cp cl li lc) ∧
      (∀ post : SY → Prop, post (nh, wd, sd, cc, lo, st, nI p', ov, yh, ho, yn, le, op, nn, pt, ce, sk, oq, cw, ya, cl, li, lc, t') → ∃ n, wY_print_31 post (nI z) n 10000 0 0 nh wd sd cc lo st (nI (p + 1)) ov yh ho yn le op nn pt ce sk oq cw ya cl li lc (fc_tx tx p (nI 45))) := fd_all hz (by omega)
    obtain ⟨t', p', h1, h2, h3⟩ := F
    refine ⟨t', p', by omega, fun post h => br_f hn ?_, fun post h => br_f hn ?_⟩
    · refine xp_char (n := 45) (by omega) (by omega) ?_
      exact br_f hn (nm_r e (h2 post h))
    · refine yp_char (c := nI 45) (by omega) ?_
      exact br_f hn (nm_r e (h3 post h))
theorem fw_print {d p : Nat} {x : Int32} (hd : d + 1 ≤ 12) (hs : fc_Sh sk) (hp : p < 2 ^ 19) : ∃ (t' : Nat → Int32) (p' : Nat), p' ≤ p + 7 ∧
    fc_Do 21 x (nh, wc, wd, cv, nI (d + 1), nI p, st, cc, lo, ho, xn, wa, go, pa, co, ca, wl, sk, ce, tx, cw, cp, cl, li, lc) (nh, wd, nI (d + 1), cc, lo, st, nI p, ov, yh, ho, yn, le, op, nn, pt, ce, sk, oq, cw, ya, cl, li, lc, tx) (nh, wc, wd, cv, nI d, nI p', st, cc, lo, ho, xn, wa, go, pa, co, ca, wl, sk, ce, t', cw, cp, cl, li, lc) (nh, wd, nI d, cc, lo, st, nI p', ov, yh, ho, yn, le, op, nn, pt, ce, sk, oq, cw, ya, cl, li, lc, t') := by
  have F : ∃ (t' : Nat → Int32) (p' : Nat), p' ≤ p + 7 ∧
    (∀ post : SX → Prop, post (nh, wc, wd, cv, nI d, nI p', st, cc, lo, ho, xn, wa, go, pa, co, ca, wl, sk, ce, t', cw, cp, cl, li, lc) → wpX_print post (nh, wc, wd, cv, nI d, nI p, st, cc, lo, ho, xn, wa, go, pa, co, ca, wl, sk, ce, tx, cw, cp, cl, li, lc) (sk d)) ∧ (∀ post : SY → Prop, post (nh, wd, nI d, cc, lo, st, nI p', ov, yh, ho, yn, le, op, nn, pt, ce, sk, oq, cw, ya, cl, li, lc, t') → wpY_print post (nh, wd, nI d, cc, lo, st, nI p, ov, yh, ho, yn, le, op, nn, pt, ce, sk, oq, cw, ya, cl, li, lc, tx) (sk d)) := fp_all (hs d) hp
  obtain ⟨t', p', h1, h2, h3⟩ := F
  refine ⟨t', p', h1, ?_, ?_⟩
  · intro p hp
    refine br_t (by decide) (br_t (by decide) (br_t (by decide) ?_))
    refine xq_jf (c := 21) (by omega) (by unfold fc_B; omega) (br_t rfl ?_)
    refine xq_af (c := 21) (by omega) (by unfold fc_A; omega) (br_t rfl (br_f (by decide) ?_))
    refine xp_take (d := d) (by omega) ?_
    exact h2 _ hp
  · intro q hq
    refine br_f (by decide) (br_t (by decide) (br_f (by decide) ?_))
    refine yq_in (c := 21) 14 16 (by omega) (by omega) (by omega) (fun y => absurd y (by omega)) (fun y => br_t rfl (br_f (by decide) ?_))
    refine yq_in (c := 21) 17 19 (by omega) (by omega) (by omega) (fun y => absurd y (by omega)) (fun y => br_t rfl (br_f (by decide) ?_))
    refine yp_take (d := d) (by omega) ?_
    exact h3 _ hq
/-! the ops 0 to 5 -/
theorem xa_5 {p : Int32 → SX → Prop} {c : Nat} {x : Int32} (hc : c ≤ 5) (h : wpX_arrange (fun u => p (-1) u) (nh, wc, wd, cv, sd, pr, st, cc, lo, ho, xn, wa, go, pa, co, ca, wl, sk, ce, tx, cw, cp, cl, li, lc) (nI c) x) : wpX_execute p (nh, wc, wd, cv, sd, pr, st, cc, lo, ho, xn, wa, go, pa, co, ca, wl, sk, ce, tx, cw, cp, cl, li, lc) (nI c) x := by
  refine br_t (nI_lt (b := 30) (by omega) (by decide)) (br_t (nI_lt (b := 22) (by omega) (by decide)) (br_f (nI_nlt (a := 5) hc (by omega)) ?_))
  exact h
theorem fw_0 {d : Nat} {x : Int32} (hd : d < 12) : fc_Do 0 x (nh, wc, wd, cv, nI d, pr, st, cc, lo, ho, xn, wa, go, pa, co, ca, wl, sk, ce, tx, cw, cp, cl, li, lc) (nh, wd, nI d, cc, lo, st, pr, ov, yh, ho, yn, le, op, nn, pt, ce, sk, oq, cw, ya, cl, li, lc, tx) (nh, wc, wd, cv, nI (d + 1), pr, st, cc, lo, ho, xn, wa, go, pa, co, ca, wl, upd sk d (lw_i16 x), ce, tx, cw, cp, cl, li, lc) (nh, wd, nI (d + 1), cc, lo, st, pr, ov, yh, ho, yn, le, op, nn, pt, ce, upd sk d (lw_i16 x), oq, cw, ya, cl, li, lc, tx) := by
  constructor
  · intro p hp
    refine xa_5 (c := 0) (by omega) ?_
    refine br_f (by decide) (br_f (by decide) (br_t rfl ?_))
    refine xp_put (d := d) hd ?_
    rw [fn_ii]
    exact hp
  · intro q hq
    exact br_t rfl (yp_give (d := d) hd hq)
theorem fw_1 {d : Nat} {x : Int32} (hd : d + 1 < 12) : fc_Do 1 x (nh, wc, wd, cv, nI (d + 1), pr, st, cc, lo, ho, xn, wa, go, pa, co, ca, wl, sk, ce, tx, cw, cp, cl, li, lc) (nh, wd, nI (d + 1), cc, lo, st, pr, ov, yh, ho, yn, le, op, nn, pt, ce, sk, oq, cw, ya, cl, li, lc, tx) (nh, wc, wd, cv, nI (d + 2), pr, st, cc, lo, ho, xn, wa, go, pa, co, ca, wl, upd sk (d + 1) (lw_i16 (sk d)), ce, tx, cw, cp, cl, li, lc) (nh, wd, nI (d + 2), cc, lo, st, pr, ov, yh, ho, yn, le, op, nn, pt, ce, upd sk (d + 1) (lw_i16 (sk d)), oq, cw, ya, cl, li, lc, tx) := by
  have e : (nI (d + 1) - 1).toNatClampNeg = d := by rw [nI_pred]; exact nI_clamp (by omega)
  have w : vp_in (nI (d + 1) - 1) 12 := by rw [nI_pred]; exact vp_in_nI (by omega) (by omega)
  constructor
  · intro p hp
    refine xa_5 (c := 1) (by omega) ?_
    refine br_f (by decide) (br_f (by decide) (br_f (by decide) (br_t rfl ⟨w, ?_⟩)))
    rw [e]
    exact xp_put (d := d + 1) hd hp
  · intro q hq
    refine br_f (by decide) (br_f (by decide) (br_t rfl (br_t rfl ⟨w, nm_r (e' := sk d) (by rw [e]) ?_⟩)))
    exact yp_give (d := d + 1) hd hq
theorem fw_2 {d : Nat} {x : Int32} (hd : d < 12) : fc_Do 2 x (nh, wc, wd, cv, nI (d + 1), pr, st, cc, lo, ho, xn, wa, go, pa, co, ca, wl, sk, ce, tx, cw, cp, cl, li, lc) (nh, wd, nI (d + 1), cc, lo, st, pr, ov, yh, ho, yn, le, op, nn, pt, ce, sk, oq, cw, ya, cl, li, lc, tx) (nh, wc, wd, cv, nI d, pr, st, cc, lo, ho, xn, wa, go, pa, co, ca, wl, sk, ce, tx, cw, cp, cl, li, lc) (nh, wd, nI d, cc, lo, st, pr, ov, yh, ho, yn, le, op, nn, pt, ce, sk, oq, cw, ya, cl, li, lc, tx) := by
  constructor
  · intro p hp
    refine xa_5 (c := 2) (by omega) ?_
    exact br_f (by decide) (br_f (by decide) (br_f (by decide) (br_f (by decide) (br_t rfl (nm_r (nI_pred d) hp)))))
  · intro q hq
    exact br_f (by decide) (br_f (by decide) (br_f (by decide) (br_f (by decide) (br_t rfl (nm_r (nI_pred d) hq)))))
theorem fw_4 {d : Nat} {x : Int32} (hd : d + 2 < 12) : fc_Do 4 x (nh, wc, wd, cv, nI (d + 2), pr, st, cc, lo, ho, xn, wa, go, pa, co, ca, wl, sk, ce, tx, cw, cp, cl, li, lc) (nh, wd, nI (d + 2), cc, lo, st, pr, ov, yh, ho, yn, le, op, nn, pt, ce, sk, oq, cw, ya, cl, li, lc, tx) (nh, wc, wd, cv, nI (d + 3), pr, st, cc, lo, ho, xn, wa, go, pa, co, ca, wl, upd sk (d + 2) (lw_i16 (sk d)), ce, tx, cw, cp, cl, li, lc) (nh, wd, nI (d + 3), cc, lo, st, pr, ov, yh, ho, yn, le, op, nn, pt, ce, upd sk (d + 2) (lw_i16 (sk d)), oq, cw, ya, cl, li, lc, tx) := by
  have e : (nI (d + 2) - 2).toNatClampNeg = d := by rw [fn_s2]; exact nI_clamp (by omega)
  have w : vp_in (nI (d + 2) - 2) 12 := by rw [fn_s2]; exact vp_in_nI (by omega) (by omega)
  constructor
  · intro p hp
    refine xa_5 (c := 4) (by omega) ?_
    refine br_f (by decide) (br_f (by decide) (br_f (by decide) (br_f (by decide) (br_f (by decide) (br_f (by decide) (br_t rfl ⟨w, ?_⟩))))))
    rw [e]
    exact xp_put (d := d + 2) hd hp
  · intro q hq
    refine br_f (by decide) (br_f (by decide) (br_f (by decide) (br_t rfl (br_f (by decide) ⟨w, nm_r (e' := sk d) (by rw [e]) ?_⟩))))
    exact yp_give (d := d + 2) hd hq
/-- SWAP, ROT: m = 1, 2 -/
def fc_sh (d : Nat) : Nat → Nat → (Nat → Int32) → (Nat → Int32)
  | 0, _, s => s
  | m + 1, i, s => fc_sh d m (i + 1) (upd s i (s (i + 1)))
theorem fc_sh_S {d : Nat} : ∀ (m i : Nat) (s : Nat → Int32), fc_Sh s → fc_Sh (fc_sh d m i s) := by
  intro m
  induction m with
  | zero => exact fun _ _ h => h
  | succ m ih => exact fun i s h => ih (i + 1) _ (fc_Sh_u h (h (i + 1)))
theorem xb_up {post : SX → Prop} {d : Nat} {v : Int32} (hd : d < 12) (hv : lw_i16 v = v) : ∀ (m i n : Nat) (s : Nat → Int32), i + m = d → m < n → fc_Sh s →
    post (nh, wc, wd, cv, nI (d + 1), pr, st, cc, lo, ho, xn, wa, go, pa, co, ca, wl, upd (fc_sh d m i s) d v, ce, tx, cw, cp, cl, li, lc) → wX_bringUp_21 post (nI d) v nh wc wd cv (nI (d + 1)) pr st cc lo n (nI i) ho xn wa go pa co ca wl s ce tx cw cp cl li lc := by
  intro m
  induction m with
  | zero =>
    intro i n s hi hn hs h
    obtain ⟨n, rfl⟩ : ∃ k, n = k + 1 := ⟨n - 1, by omega⟩
    rw [wX_bringUp_21]
    have e : (nI d).toNatClampNeg = d := nI_clamp (by omega)
    exact br_t (nI_le (by omega) (by omega)) ⟨vp_in_nI hd (by omega), nm_r (e' := upd s d v) (by rw [e, fn_vs hv]) h⟩
  | succ m ih =>
    intro i n s hi hn hs h
    obtain ⟨n, rfl⟩ : ∃ k, n = k + 1 := ⟨n - 1, by omega⟩
    rw [wX_bringUp_21]
    have e : (nI i).toNatClampNeg = i := nI_clamp (by omega)
    have e1 : (nI i + 1).toNatClampNeg = i + 1 := by rw [nI_1]; exact nI_clamp (by omega)
    have w1 : vp_in (nI i + 1) 12 := by rw [nI_1]; exact vp_in_nI (by omega) (by omega)
    refine br_f (nI_ge (by omega) (by omega)) ⟨w1, vp_in_nI (by omega) (by omega), nm_r (e' := upd s i (s (i + 1))) (by rw [e, e1, fn_vs (hs (i + 1))]) (nm_r (nI_1 i) ?_)⟩
    exact ih (i + 1) n _ (by omega) (by omega) (fc_Sh_u hs (hs (i + 1))) h
theorem yb_up {post : SY → Prop} {d : Nat} {v : Int32} (hd : d < 12) : ∀ (m i n : Nat) (s : Nat → Int32), i + m = d → m < n →
    post (nh, wd, nI (d + 1), cc, lo, st, pr, ov, yh, ho, yn, le, op, nn, pt, ce, upd (fc_sh d m i s) d v, oq, cw, ya, cl, li, lc, tx) → wY_shuffle_83 post v nh wd (nI (d + 1)) cc lo st pr ov yh n (nI i) ho yn le op nn pt ce s oq cw ya cl li lc tx := by
  intro m
  have ed : (nI (d + 1) - 1).toNatClampNeg = d := by rw [nI_pred]; exact nI_clamp (by omega)
  have wd' : vp_in (nI (d + 1) - 1) 12 := by rw [nI_pred]; exact vp_in_nI hd (by omega)
  induction m with
  | zero =>
    intro i n s hi hn h
    obtain ⟨n, rfl⟩ : ∃ k, n = k + 1 := ⟨n - 1, by omega⟩
    rw [wY_shuffle_83]
    have c : nI (d + 1) - 1 ≤ nI i := by rw [nI_pred]; exact nI_le (by omega) (by omega)
    exact br_t c ⟨wd', nm_r (e' := upd s d v) (by rw [ed]) h⟩
  | succ m ih =>
    intro i n s hi hn h
    obtain ⟨n, rfl⟩ : ∃ k, n = k + 1 := ⟨n - 1, by omega⟩
    rw [wY_shuffle_83]
    have e : (nI i).toNatClampNeg = i := nI_clamp (by omega)
    have e1 : (nI i + 1).toNatClampNeg = i + 1 := by rw [nI_1]; exact nI_clamp (by omega)
    have w1 : vp_in (nI i + 1) 12 := by rw [nI_1]; exact vp_in_nI (by omega) (by omega)
    have c : ¬ nI (d + 1) - 1 ≤ nI i := by rw [nI_pred]; exact nI_ge (by omega) (by omega)
    refine br_f c ⟨w1, vp_in_nI (by omega) (by omega), nm_r (e' := upd s i (s (i + 1))) (by rw [e, e1]) (nm_r (nI_1 i) ?_)⟩
    exact ih (i + 1) n _ (by omega) (by omega) h
theorem xb_bring {post : SX → Prop} {i m : Nat} (hd : i + m < 12) (hs : fc_Sh sk) (h : post (nh, wc, wd, cv, nI (i + m + 1), pr, st, cc, lo, ho, xn, wa, go, pa, co, ca, wl, upd (fc_sh (i + m) m i sk) (i + m) (sk i), ce, tx, cw, cp, cl, li, lc)) : wpX_bringUp post (nh, wc, wd, cv, nI (i + m + 1), pr, st, cc, lo, ho, xn, wa, go, pa, co, ca, wl, sk, ce, tx, cw, cp, cl, li, lc) (nI m) := by
  have e0 : nI (i + m) - nI m = nI i := by
    have := pk_sub (a := i + m) (b := m) (by omega)
    rw [Nat.add_sub_cancel] at this
    exact this
  have e : (nI i).toNatClampNeg = i := nI_clamp (by omega)
  refine nm_r (nI_pred (i + m)) ?_
  rw [e0, e]
  exact ⟨vp_in_nI (by omega) (by omega), nm_e (nm_e ⟨m + 1, xb_up hd (hs i) m i (m + 1) sk rfl (by omega) hs h⟩)⟩
theorem yb_shuf {post : SY → Prop} {i m : Nat} (hd : i + m < 12) (h : post (nh, wd, nI (i + m + 1), cc, lo, st, pr, ov, yh, ho, yn, le, op, nn, pt, ce, upd (fc_sh (i + m) m i sk) (i + m) (sk i), oq, cw, ya, cl, li, lc, tx)) : wY_shuffle_71 post (nI (m + 1)) (nI (i + m + 1)) nh wd (nI (i + m + 1)) cc lo st pr ov yh ho yn le op nn pt ce sk oq cw ya cl li lc tx := by
  have e0 : nI (i + m + 1) - nI (m + 1) = nI i := by
    have := pk_sub (a := i + (m + 1)) (b := m + 1) (by omega)
    rw [Nat.add_sub_cancel] at this
    exact this
  have e : (nI i).toNatClampNeg = i := nI_clamp (by omega)
  refine nm_r e0 ⟨vp_in_nI (by omega) (by omega), nm_r (e' := sk i) (by rw [e]) ⟨m + 1, ?_⟩⟩
  exact yb_up hd m i (m + 1) sk rfl (by omega) h
theorem fw_3 {d : Nat} {x : Int32} (hd : d + 1 < 12) (hs : fc_Sh sk) : fc_Do 3 x (nh, wc, wd, cv, nI (d + 2), pr, st, cc, lo, ho, xn, wa, go, pa, co, ca, wl, sk, ce, tx, cw, cp, cl, li, lc) (nh, wd, nI (d + 2), cc, lo, st, pr, ov, yh, ho, yn, le, op, nn, pt, ce, sk, oq, cw, ya, cl, li, lc, tx) (nh, wc, wd, cv, nI (d + 2), pr, st, cc, lo, ho, xn, wa, go, pa, co, ca, wl, upd (fc_sh (d + 1) 1 d sk) (d + 1) (sk d), ce, tx, cw, cp, cl, li, lc) (nh, wd, nI (d + 2), cc, lo, st, pr, ov, yh, ho, yn, le, op, nn, pt, ce, upd (fc_sh (d + 1) 1 d sk) (d + 1) (sk d), oq, cw, ya, cl, li, lc, tx) := by
  constructor
  · intro p hp
    refine xa_5 (c := 3) (by omega) ?_
    refine br_f (by decide) (br_f (by decide) (br_f (by decide) (br_f (by decide) (br_f (by decide) (br_t rfl ?_)))))
    exact xb_bring (i := d) (m := 1) hd hs hp
  · intro q hq
    refine br_f (by decide) (br_f (by decide) (br_f (by decide) (br_f (by decide) (br_f (by decide) (br_t rfl ?_)))))
    exact yb_shuf (i := d) (m := 1) hd hq
theorem fw_5 {d : Nat} {x : Int32} (hd : d + 2 < 12) (hs : fc_Sh sk) : fc_Do 5 x (nh, wc, wd, cv, nI (d + 3), pr, st, cc, lo, ho, xn, wa, go, pa, co, ca, wl, sk, ce, tx, cw, cp, cl, li, lc) (nh, wd, nI (d + 3), cc, lo, st, pr, ov, yh, ho, yn, le, op, nn, pt, ce, sk, oq, cw, ya, cl, li, lc, tx) (nh, wc, wd, cv, nI (d + 3), pr, st, cc, lo, ho, xn, wa, go, pa, co, ca, wl, upd (fc_sh (d + 2) 2 d sk) (d + 2) (sk d), ce, tx, cw, cp, cl, li, lc) (nh, wd, nI (d + 3), cc, lo, st, pr, ov, yh, ho, yn, le, op, nn, pt, ce, upd (fc_sh (d + 2) 2 d sk) (d + 2) (sk d), oq, cw, ya, cl, li, lc, tx) := by
  constructor
  · intro p hp
    refine xa_5 (c := 5) (by omega) ?_
    refine br_f (by decide) (br_t (by decide) ?_)
    exact xb_bring (i := d) (m := 2) hd hs hp
  · intro q hq
    refine br_f (by decide) (br_f (by decide) (br_f (by decide) (br_f (by decide) (br_f (by decide) (br_f (by decide) ?_)))))
    exact yb_shuf (i := d) (m := 2) hd hq
/-- all of them -/
theorem fw_all {c d p : Nat} {x : Int32} (hc : c < 22) (hd : d ≤ 12) (hn : fc_need c ≤ d) (hG : fc_G c → d < 12) (hz : c = 9 ∨ c = 10 → ¬ sk (d - 1) = 0) (hs : fc_Sh sk) (he : fc_Sh ce) (hp : p < 2 ^ 19) :
    ∃ (d' p' : Nat) (sk' ce' tx' : Nat → Int32), d' ≤ 12 ∧ p' ≤ p + 7 ∧ fc_Sh sk' ∧ fc_Sh ce' ∧
      fc_Do c x (nh, wc, wd, cv, nI d, nI p, st, cc, lo, ho, xn, wa, go, pa, co, ca, wl, sk, ce, tx, cw, cp, cl, li, lc) (nh, wd, nI d, cc, lo, st, nI p, ov, yh, ho, yn, le, op, nn, pt, ce, sk, oq, cw, ya, cl, li, lc, tx) (nh, wc, wd, cv, nI d', nI p', st, cc, lo, ho, xn, wa, go, pa, co, ca, wl, sk', ce', tx', cw, cp, cl, li, lc) (nh, wd, nI d', cc, lo, st, nI p', ov, yh, ho, yn, le, op, nn, pt, ce', sk', oq, cw, ya, cl, li, lc, tx') := by
  by_cases hB : fc_B c
  · have n2 : fc_need c = 2 := fc_e2 (by unfold fc_B at hB; unfold fc_N2; omega)
    obtain ⟨e, rfl⟩ : ∃ e, d = e + 2 := ⟨d - 2, by omega⟩
    have F : ∃ r, fc_Jn c (nh, wd, nI e, cc, lo, st, nI p, ov, yh, ho, yn, le, op, nn, pt, ce, sk, oq, cw, ya, cl, li, lc, tx) (sk e) (sk (e + 1)) r := fj_all hB hz
    obtain ⟨r, h1, h2⟩ := F
    exact ⟨e + 1, p, upd sk e (lw_i16 r), ce, tx, by omega, by omega, fc_Sh_u hs (fn_ii r), he, fw_join hc hB hd h1 h2⟩
  by_cases hA : fc_A c
  · have n1 : fc_need c = 1 := fc_e1 (by unfold fc_A at hA; unfold fc_N1; omega)
    obtain ⟨e, rfl⟩ : ∃ e, d = e + 1 := ⟨d - 1, by omega⟩
    have F : ∃ r, fc_Al c (nh, wc, wd, cv, nI e, nI p, st, cc, lo, ho, xn, wa, go, pa, co, ca, wl, sk, ce, tx, cw, cp, cl, li, lc) (nh, wd, nI e, cc, lo, st, nI p, ov, yh, ho, yn, le, op, nn, pt, ce, sk, oq, cw, ya, cl, li, lc, tx) (sk e) r := fl_all hA
    obtain ⟨r, h1, h2⟩ := F
    exact ⟨e + 1, p, upd sk e (lw_i16 r), ce, tx, hd, by omega, fc_Sh_u hs (fn_ii r), he, fw_alter hc hA hd h1 h2⟩
  have hr : c = 0 ∨ c = 1 ∨ c = 2 ∨ c = 3 ∨ c = 4 ∨ c = 5 ∨ c = 20 ∨ c = 21 := by unfold fc_B at hB; unfold fc_A at hA; omega
  rcases hr with rfl | rfl | rfl | rfl | rfl | rfl | rfl | rfl
  · have g := hG (Or.inl rfl)
    exact ⟨d + 1, p, upd sk d (lw_i16 x), ce, tx, by omega, by omega, fc_Sh_u hs (fn_ii x), he, fw_0 g⟩
  · have g := hG (Or.inr (Or.inl rfl))
    have n1 : fc_need 1 = 1 := fc_e1 (by unfold fc_N1; omega)
    obtain ⟨e, rfl⟩ : ∃ e, d = e + 1 := ⟨d - 1, by omega⟩
    exact ⟨e + 2, p, upd sk (e + 1) (lw_i16 (sk e)), ce, tx, by omega, by omega, fc_Sh_u hs (fn_ii _), he, fw_1 g⟩
  · have n1 : fc_need 2 = 1 := fc_e1 (by unfold fc_N1; omega)
    obtain ⟨e, rfl⟩ : ∃ e, d = e + 1 := ⟨d - 1, by omega⟩
    exact ⟨e, p, sk, ce, tx, by omega, by omega, hs, he, fw_2 (by omega)⟩
  · have n1 : fc_need 3 = 2 := fc_e2 (by unfold fc_N2; omega)
    obtain ⟨e, rfl⟩ : ∃ e, d = e + 2 := ⟨d - 2, by omega⟩
    exact ⟨e + 2, p, upd (fc_sh (e + 1) 1 e sk) (e + 1) (sk e), ce, tx, hd, by omega, fc_Sh_u (fc_sh_S 1 e sk hs) (hs e), he, fw_3 (by omega) hs⟩
  · have g := hG (Or.inr (Or.inr (Or.inl rfl)))
    have n1 : fc_need 4 = 2 := fc_e2 (by unfold fc_N2; omega)
    obtain ⟨e, rfl⟩ : ∃ e, d = e + 2 := ⟨d - 2, by omega⟩
    exact ⟨e + 3, p, upd sk (e + 2) (lw_i16 (sk e)), ce, tx, by omega, by omega, fc_Sh_u hs (fn_ii _), he, fw_4 g⟩
  · have n1 : fc_need 5 = 3 := fc_e3 rfl
    obtain ⟨e, rfl⟩ : ∃ e, d = e + 3 := ⟨d - 3, by omega⟩
    exact ⟨e + 3, p, upd (fc_sh (e + 2) 2 e sk) (e + 2) (sk e), ce, tx, hd, by omega, fc_Sh_u (fc_sh_S 2 e sk hs) (hs e), he, fw_5 (by omega) hs⟩
  · have n1 : fc_need 20 = 2 := fc_e2 (by unfold fc_N2; omega)
    obtain ⟨e, rfl⟩ : ∃ e, d = e + 2 := ⟨d - 2, by omega⟩
    have F : ∃ j : Nat, fc_Do 20 x (nh, wc, wd, cv, nI (e + 2), nI p, st, cc, lo, ho, xn, wa, go, pa, co, ca, wl, sk, ce, tx, cw, cp, cl, li, lc) (nh, wd, nI (e + 2), cc, lo, st, nI p, ov, yh, ho, yn, le, op, nn, pt, ce, sk, oq, cw, ya, cl, li, lc, tx) (nh, wc, wd, cv, nI e, nI p, st, cc, lo, ho, xn, wa, go, pa, co, ca, wl, sk, upd ce j (sk e), tx, cw, cp, cl, li, lc) (nh, wd, nI e, cc, lo, st, nI p, ov, yh, ho, yn, le, op, nn, pt, upd ce j (sk e), sk, oq, cw, ya, cl, li, lc, tx) := fw_store hd hs
    obtain ⟨j, h⟩ := F
    exact ⟨e, p, sk, upd ce j (sk e), tx, by omega, by omega, hs, fc_Sh_u he (hs e), h⟩
  · have n1 : fc_need 21 = 1 := fc_e1 (by unfold fc_N1; omega)
    obtain ⟨e, rfl⟩ : ∃ e, d = e + 1 := ⟨d - 1, by omega⟩
    have F : ∃ (t' : Nat → Int32) (p' : Nat), p' ≤ p + 7 ∧
      fc_Do 21 x (nh, wc, wd, cv, nI (e + 1), nI p, st, cc, lo, ho, xn, wa, go, pa, co, ca, wl, sk, ce, tx, cw, cp, cl, li, lc) (nh, wd, nI (e + 1), cc, lo, st, nI p, ov, yh, ho, yn, le, op, nn, pt, ce, sk, oq, cw, ya, cl, li, lc, tx) (nh, wc, wd, cv, nI e, nI p', st, cc, lo, ho, xn, wa, go, pa, co, ca, wl, sk, ce, t', cw, cp, cl, li, lc) (nh, wd, nI e, cc, lo, st, nI p', ov, yh, ho, yn, le, op, nn, pt, ce, sk, oq, cw, ya, cl, li, lc, t') := fw_print hd hs hp
    obtain ⟨t', p', h1, h⟩ := F
    exact ⟨e, p', sk, ce, t', by omega, h1, hs, he, h⟩

end WK
end
section
/-! the ops 22 to 33 -/
section JP
variable {nh wc wd cv sd pr st cc lo ov yh : Int32} {ho xn wa go pa co ca wl sk ce tx cw cp cl li lc yn le op nn pt oq ya : Nat → Int32}
def fc_Go (c : Nat) (ar n p : Int32) (u : SX) (v : SY) (r : Int32) (u' : SX) (v' : SY) : Prop :=
  (∀ post : Int32 → SX → Prop, post r u' → wpX_execute post u (nI c) ar) ∧ (∀ q : SY → Prop, q v' → wpY_go q v (nI c) n p)
theorem xj_lo {post : Int32 → SX → Prop} {c : Nat} {ar : Int32} (h1 : 22 ≤ c) (h2 : c < 30) (h : wpX_executeJump (fun u => post (-1) u) (nh, wc, wd, cv, sd, pr, st, cc, lo, ho, xn, wa, go, pa, co, ca, wl, sk, ce, tx, cw, cp, cl, li, lc) (nI c) ar) : wpX_execute post (nh, wc, wd, cv, sd, pr, st, cc, lo, ho, xn, wa, go, pa, co, ca, wl, sk, ce, tx, cw, cp, cl, li, lc) (nI c) ar := by
  refine br_t (nI_lt (b := 30) h2 (by decide)) (br_f (nI_nlt (b := 22) h1 (by omega)) ?_)
  exact h
theorem xj_hi {post : Int32 → SX → Prop} {c : Nat} {ar : Int32} (h1 : 30 ≤ c) (h2 : c < 34) (h : wpX_executeLoop post (nh, wc, wd, cv, sd, pr, st, cc, lo, ho, xn, wa, go, pa, co, ca, wl, sk, ce, tx, cw, cp, cl, li, lc) (nI c) ar) : wpX_execute post (nh, wc, wd, cv, sd, pr, st, cc, lo, ho, xn, wa, go, pa, co, ca, wl, sk, ce, tx, cw, cp, cl, li, lc) (nI c) ar := by
  refine br_f (nI_nlt (b := 30) h1 (by omega)) ?_
  exact h
theorem fg_22 {k : Nat} {ar p : Int32} (hk : k + 1 < 8) : fc_Go 22 ar ar p (nh, wc, wd, cv, sd, pr, st, nI (k + 1), lo, ho, xn, wa, go, pa, co, ca, wl, sk, ce, tx, cw, cp, cl, li, lc) (nh, wd, sd, nI (k + 1), lo, st, pr, ov, yh, ho, yn, le, op, nn, pt, ce, sk, oq, cw, ya, cl, li, lc, tx) (-1)
    (nh, wc, wd, cv, sd, pr, st, nI (k + 2), lo, ho, xn, wa, go, pa, co, ca, wl, sk, ce, tx, upd cw (k + 1) ar, upd cp (k + 1) 0, upd cl (k + 1) lo, li, lc) (nh, wd, sd, nI (k + 2), lo, st, pr, ov, yh, ho, yn, le, op, nn, pt, ce, sk, oq, upd cw (k + 1) ar, upd ya (k + 1) 0, upd cl (k + 1) lo, li, lc, tx) := by
  constructor
  · intro post h
    refine xj_lo (c := 22) (by omega) (by omega) ?_
    refine br_f (by decide) (br_f (by decide) (br_t rfl ?_))
    exact xp_begin (k := k + 1) hk h
  · intro q h
    refine nm_e (br_t rfl ?_)
    exact yp_begin (k := k + 1) hk h
theorem xg_52 {post : SX → Prop} {k d : Nat} {ar : Int32} (hk : k < 8) (hd : d < 12) (h : (sk d = 0 → post (nh, wc, wd, cv, nI d, pr, st, nI (k + 1), lo, ho, xn, wa, go, pa, co, ca, wl, sk, ce, tx, cw, upd cp k ar, cl, li, lc)) ∧ (¬ sk d = 0 → post (nh, wc, wd, cv, nI d, pr, st, nI (k + 1), lo, ho, xn, wa, go, pa, co, ca, wl, sk, ce, tx, cw, cp, cl, li, lc))) : wX_executeJump_52 post ar nh wc wd cv (nI (d + 1)) pr st (nI (k + 1)) lo ho xn wa go pa co ca wl sk ce tx cw cp cl li lc := by
  unfold wX_executeJump_52
  refine xp_take (d := d) hd ?_
  exact br_c (fun z => xp_goOn (k := k) hk (h.1 z)) h.2
theorem yg_40 {q : SY → Prop} {k d : Nat} {p : Int32} (hk : k < 8) (hd : d < 12) (h : (sk d = 0 → q (nh, wd, nI d, nI (k + 1), lo, st, pr, ov, yh, ho, yn, le, op, nn, pt, ce, sk, oq, cw, upd ya k (p + 1), cl, li, lc, tx)) ∧ (¬ sk d = 0 → q (nh, wd, nI d, nI (k + 1), lo, st, pr, ov, yh, ho, yn, le, op, nn, pt, ce, sk, oq, cw, ya, cl, li, lc, tx))) : wY_go_40 q p (nI k) nh wd (nI (d + 1)) (nI (k + 1)) lo st pr ov yh ho yn le op nn pt ce sk oq cw ya cl li lc tx := by
  have e : (nI k).toNatClampNeg = k := nI_clamp (by omega)
  unfold wY_go_40
  refine yp_take (d := d) hd ?_
  exact br_c (fun z => ⟨vp_in_nI hk (by omega), nm_r (e' := upd ya k (p + 1)) (by rw [e]) (h.1 z)⟩) h.2
theorem xg_if {post : Int32 → SX → Prop} {c k d : Nat} {ar : Int32} (hc : c = 23 ∨ c = 27 ∨ c = 28) (hk : k < 8) (hd : d < 12) (h : (sk d = 0 → post (-1) (nh, wc, wd, cv, nI d, pr, st, nI (k + 1), lo, ho, xn, wa, go, pa, co, ca, wl, sk, ce, tx, cw, upd cp k ar, cl, li, lc)) ∧ (¬ sk d = 0 → post (-1) (nh, wc, wd, cv, nI d, pr, st, nI (k + 1), lo, ho, xn, wa, go, pa, co, ca, wl, sk, ce, tx, cw, cp, cl, li, lc))) :
    wpX_execute post (nh, wc, wd, cv, nI (d + 1), pr, st, nI (k + 1), lo, ho, xn, wa, go, pa, co, ca, wl, sk, ce, tx, cw, cp, cl, li, lc) (nI c) ar := by
  have K := xg_52 (post := fun u => post (-1) u) (ar := ar) hk hd h
  refine xj_lo (by omega) (by omega) ?_
  rcases hc with rfl | rfl | rfl
  · exact br_f (by decide) (br_f (by decide) (br_f (by decide) (br_t rfl K)))
  · exact br_f (by decide) (br_f (by decide) (br_f (by decide) (br_f (by decide) (br_f (by decide) (br_f (by decide) (br_f (by decide) (br_t rfl K)))))))
  · exact br_f (by decide) (br_f (by decide) (br_f (by decide) (br_f (by decide) (br_f (by decide) (br_f (by decide) (br_f (by decide) (br_f (by decide) (br_t rfl K))))))))
theorem yg_if {q : SY → Prop} {c k d : Nat} {n p : Int32} (hc : c = 23 ∨ c = 27 ∨ c = 28) (hk : k < 8) (hd : d < 12) (h : (sk d = 0 → q (nh, wd, nI d, nI (k + 1), lo, st, pr, ov, yh, ho, yn, le, op, nn, pt, ce, sk, oq, cw, upd ya k (p + 1), cl, li, lc, tx)) ∧ (¬ sk d = 0 → q (nh, wd, nI d, nI (k + 1), lo, st, pr, ov, yh, ho, yn, le, op, nn, pt, ce, sk, oq, cw, ya, cl, li, lc, tx))) :
    wpY_go q (nh, wd, nI (d + 1), nI (k + 1), lo, st, pr, ov, yh, ho, yn, le, op, nn, pt, ce, sk, oq, cw, ya, cl, li, lc, tx) (nI c) n p := by
  have K := yg_40 hk hd h
  refine nm_r (nI_pred k) ?_
  rcases hc with rfl | rfl | rfl
  · exact br_f (by decide) (br_t rfl K)
  · exact br_f (by decide) (br_f (by decide) (br_t rfl K))
  · exact br_f (by decide) (br_f (by decide) (br_f (by decide) (br_t rfl K)))
theorem fg_if0 {c k d : Nat} {ar n p : Int32} (hc : c = 23 ∨ c = 27 ∨ c = 28) (hk : k < 8) (hd : d < 12) (z : sk d = 0) :
    fc_Go c ar n p (nh, wc, wd, cv, nI (d + 1), pr, st, nI (k + 1), lo, ho, xn, wa, go, pa, co, ca, wl, sk, ce, tx, cw, cp, cl, li, lc) (nh, wd, nI (d + 1), nI (k + 1), lo, st, pr, ov, yh, ho, yn, le, op, nn, pt, ce, sk, oq, cw, ya, cl, li, lc, tx) (-1) (nh, wc, wd, cv, nI d, pr, st, nI (k + 1), lo, ho, xn, wa, go, pa, co, ca, wl, sk, ce, tx, cw, upd cp k ar, cl, li, lc) (nh, wd, nI d, nI (k + 1), lo, st, pr, ov, yh, ho, yn, le, op, nn, pt, ce, sk, oq, cw, upd ya k (p + 1), cl, li, lc, tx) :=
  ⟨fun _ h => xg_if hc hk hd (br_t z h), fun _ h => yg_if hc hk hd (br_t z h)⟩
theorem fg_if1 {c k d : Nat} {ar n p : Int32} (hc : c = 23 ∨ c = 27 ∨ c = 28) (hk : k < 8) (hd : d < 12) (z : ¬ sk d = 0) :
    fc_Go c ar n p (nh, wc, wd, cv, nI (d + 1), pr, st, nI (k + 1), lo, ho, xn, wa, go, pa, co, ca, wl, sk, ce, tx, cw, cp, cl, li, lc) (nh, wd, nI (d + 1), nI (k + 1), lo, st, pr, ov, yh, ho, yn, le, op, nn, pt, ce, sk, oq, cw, ya, cl, li, lc, tx) (-1) (nh, wc, wd, cv, nI d, pr, st, nI (k + 1), lo, ho, xn, wa, go, pa, co, ca, wl, sk, ce, tx, cw, cp, cl, li, lc) (nh, wd, nI d, nI (k + 1), lo, st, pr, ov, yh, ho, yn, le, op, nn, pt, ce, sk, oq, cw, ya, cl, li, lc, tx) :=
  ⟨fun _ h => xg_if hc hk hd (br_f z h), fun _ h => yg_if hc hk hd (br_f z h)⟩
theorem fg_jump {c k : Nat} {ar n p : Int32} (hc : c = 24 ∨ c = 29) (hk : k < 8) :
    fc_Go c ar n p (nh, wc, wd, cv, sd, pr, st, nI (k + 1), lo, ho, xn, wa, go, pa, co, ca, wl, sk, ce, tx, cw, cp, cl, li, lc) (nh, wd, sd, nI (k + 1), lo, st, pr, ov, yh, ho, yn, le, op, nn, pt, ce, sk, oq, cw, ya, cl, li, lc, tx) (-1) (nh, wc, wd, cv, sd, pr, st, nI (k + 1), lo, ho, xn, wa, go, pa, co, ca, wl, sk, ce, tx, cw, upd cp k ar, cl, li, lc) (nh, wd, sd, nI (k + 1), lo, st, pr, ov, yh, ho, yn, le, op, nn, pt, ce, sk, oq, cw, upd ya k (p + 1), cl, li, lc, tx) := by
  have e : (nI k).toNatClampNeg = k := nI_clamp (by omega)
  constructor
  · intro post h
    have K : wX_executeJump_69 (fun u => post (-1) u) ar nh wc wd cv sd pr st (nI (k + 1)) lo ho xn wa go pa co ca wl sk ce tx cw cp cl li lc := by
      unfold wX_executeJump_69
      exact xp_goOn (k := k) hk h
    refine xj_lo (by omega) (by omega) ?_
    rcases hc with rfl | rfl
    · exact br_f (by decide) (br_f (by decide) (br_f (by decide) (br_f (by decide) (br_t rfl K))))
    · exact br_f (by decide) (br_t (by decide) K)
  · intro q h
    have K : wY_go_72 q p (nI k) nh wd sd (nI (k + 1)) lo st pr ov yh ho yn le op nn pt ce sk oq cw ya cl li lc tx := ⟨vp_in_nI hk (by omega), nm_r (e' := upd ya k (p + 1)) (by rw [e]) h⟩
    refine nm_r (nI_pred k) ?_
    rcases hc with rfl | rfl
    · exact br_f (by decide) (br_f (by decide) (br_f (by decide) (br_f (by decide) (br_t rfl K))))
    · exact br_f (by decide) (br_f (by decide) (br_f (by decide) (br_f (by decide) (br_f (by decide) (br_t rfl K)))))
theorem fg_30 {d l : Nat} {ar n p : Int32} (hd : d + 2 ≤ 12) (hl : l < 6) (hs : fc_Sh sk) :
    fc_Go 30 ar n p (nh, wc, wd, cv, nI (d + 2), pr, st, cc, nI l, ho, xn, wa, go, pa, co, ca, wl, sk, ce, tx, cw, cp, cl, li, lc) (nh, wd, nI (d + 2), cc, nI l, st, pr, ov, yh, ho, yn, le, op, nn, pt, ce, sk, oq, cw, ya, cl, li, lc, tx) (-1)
      (nh, wc, wd, cv, nI d, pr, st, cc, nI (l + 1), ho, xn, wa, go, pa, co, ca, wl, sk, ce, tx, cw, cp, cl, upd li l (sk d), upd lc l (sk (d + 1))) (nh, wd, nI d, cc, nI (l + 1), st, pr, ov, yh, ho, yn, le, op, nn, pt, ce, sk, oq, cw, ya, cl, upd li l (sk d), upd lc l (sk (d + 1)), tx) := by
  have e : (nI l).toNatClampNeg = l := nI_clamp (by omega)
  have w : vp_in (nI l) 6 := vp_in_nI hl (by omega)
  constructor
  · intro post h
    refine xj_hi (c := 30) (by omega) (by omega) ?_
    refine br_f (by decide) (br_f (by decide) (br_t rfl ?_))
    refine xp_take (d := d + 1) (by omega) ?_
    refine ⟨w, nm_r (e' := upd lc l (sk (d + 1))) (by rw [e, fn_vi (hs _)]) ?_⟩
    refine xp_take (d := d) (by omega) ?_
    exact ⟨w, nm_r (e' := upd li l (sk d)) (by rw [e, fn_vi (hs _)]) (nm_r (nI_1 l) h)⟩
  · intro q h
    refine nm_e (br_f (by decide) (br_f (by decide) (br_f (by decide) (br_f (by decide) (br_f (by decide) (br_f (by decide) (br_t rfl ?_)))))))
    refine yp_take (d := d + 1) (by omega) ?_
    refine yp_take (d := d) (by omega) ?_
    exact ⟨w, nm_r (e' := upd li l (sk d)) (by rw [e]) ⟨w, nm_r (e' := upd lc l (sk (d + 1))) (by rw [e]) (nm_r (nI_1 l) h)⟩⟩
theorem xg_31 {post : Int32 → SX → Prop} {k l : Nat} {ar : Int32} (hk : k < 8) (hl : l < 6)
    (h : (lw_i16 (lc l + 1) = li l → post (-1) (nh, wc, wd, cv, sd, pr, st, nI (k + 1), nI l, ho, xn, wa, go, pa, co, ca, wl, sk, ce, tx, cw, cp, cl, li, upd lc l (lw_i16 (lc l + 1)))) ∧ (¬ lw_i16 (lc l + 1) = li l → post (-1) (nh, wc, wd, cv, sd, pr, st, nI (k + 1), nI (l + 1), ho, xn, wa, go, pa, co, ca, wl, sk, ce, tx, cw, upd cp k ar, cl, li, upd lc l (lw_i16 (lc l + 1))))) :
    wpX_execute post (nh, wc, wd, cv, sd, pr, st, nI (k + 1), nI (l + 1), ho, xn, wa, go, pa, co, ca, wl, sk, ce, tx, cw, cp, cl, li, lc) (nI 31) ar := by
  have e : (nI (l + 1) - 1).toNatClampNeg = l := by rw [nI_pred]; exact nI_clamp (by omega)
  have w : vp_in (nI (l + 1) - 1) 6 := by rw [nI_pred]; exact vp_in_nI hl (by omega)
  refine xj_hi (c := 31) (by omega) (by omega) ?_
  refine br_f (by decide) (br_f (by decide) (br_f (by decide) (br_t rfl ?_)))
  refine ⟨w, w, nm_r (e' := upd lc l (lw_i16 (lc l + 1))) (by rw [e, pk_vs]; rfl) ⟨w, w, ?_⟩⟩
  rw [e, pk_us]
  exact br_c (fun z => nm_r (nI_pred l) (h.1 z)) (fun z => xp_goOn (k := k) hk (h.2 z))
theorem yg_31 {q : SY → Prop} {k l : Nat} {n p : Int32} (hk : k < 8) (hl : l < 6)
    (h : (lw_i16 (lc l + 1) = li l → q (nh, wd, sd, nI (k + 1), nI l, st, pr, ov, yh, ho, yn, le, op, nn, pt, ce, sk, oq, cw, ya, cl, li, upd lc l (lw_i16 (lc l + 1)), tx)) ∧ (¬ lw_i16 (lc l + 1) = li l → q (nh, wd, sd, nI (k + 1), nI (l + 1), st, pr, ov, yh, ho, yn, le, op, nn, pt, ce, sk, oq, cw, upd ya k (p + 1), cl, li, upd lc l (lw_i16 (lc l + 1)), tx))) :
    wpY_go q (nh, wd, sd, nI (k + 1), nI (l + 1), st, pr, ov, yh, ho, yn, le, op, nn, pt, ce, sk, oq, cw, ya, cl, li, lc, tx) (nI 31) n p := by
  have ek : (nI k).toNatClampNeg = k := nI_clamp (by omega)
  have e : (nI (l + 1) - 1).toNatClampNeg = l := by rw [nI_pred]; exact nI_clamp (by omega)
  have w : vp_in (nI (l + 1) - 1) 6 := by rw [nI_pred]; exact vp_in_nI hl (by omega)
  refine nm_r (nI_pred k) (br_f (by decide) (br_f (by decide) (br_f (by decide) (br_f (by decide) (br_f (by decide) (br_f (by decide) (br_f (by decide) (br_t rfl ?_))))))))
  refine ⟨w, w, nm_r (e' := upd lc l (lw_i16 (lc l + 1))) (by rw [e]; rfl) ⟨w, w, ?_⟩⟩
  rw [e, pk_us]
  exact br_c (fun z => nm_r (nI_pred l) (h.1 z)) (fun z => ⟨vp_in_nI hk (by omega), nm_r (e' := upd ya k (p + 1)) (by rw [ek]) (h.2 z)⟩)
theorem fg_31e {k l : Nat} {ar n p : Int32} (hk : k < 8) (hl : l < 6) (z : lw_i16 (lc l + 1) = li l) :
    fc_Go 31 ar n p (nh, wc, wd, cv, sd, pr, st, nI (k + 1), nI (l + 1), ho, xn, wa, go, pa, co, ca, wl, sk, ce, tx, cw, cp, cl, li, lc) (nh, wd, sd, nI (k + 1), nI (l + 1), st, pr, ov, yh, ho, yn, le, op, nn, pt, ce, sk, oq, cw, ya, cl, li, lc, tx) (-1) (nh, wc, wd, cv, sd, pr, st, nI (k + 1), nI l, ho, xn, wa, go, pa, co, ca, wl, sk, ce, tx, cw, cp, cl, li, upd lc l (lw_i16 (lc l + 1))) (nh, wd, sd, nI (k + 1), nI l, st, pr, ov, yh, ho, yn, le, op, nn, pt, ce, sk, oq, cw, ya, cl, li, upd lc l (lw_i16 (lc l + 1)), tx) :=
  ⟨fun _ h => xg_31 hk hl (br_t z h), fun _ h => yg_31 hk hl (br_t z h)⟩
theorem fg_31n {k l : Nat} {ar n p : Int32} (hk : k < 8) (hl : l < 6) (z : ¬ lw_i16 (lc l + 1) = li l) :
    fc_Go 31 ar n p (nh, wc, wd, cv, sd, pr, st, nI (k + 1), nI (l + 1), ho, xn, wa, go, pa, co, ca, wl, sk, ce, tx, cw, cp, cl, li, lc) (nh, wd, sd, nI (k + 1), nI (l + 1), st, pr, ov, yh, ho, yn, le, op, nn, pt, ce, sk, oq, cw, ya, cl, li, lc, tx) (-1) (nh, wc, wd, cv, sd, pr, st, nI (k + 1), nI (l + 1), ho, xn, wa, go, pa, co, ca, wl, sk, ce, tx, cw, upd cp k ar, cl, li, upd lc l (lw_i16 (lc l + 1))) (nh, wd, sd, nI (k + 1), nI (l + 1), st, pr, ov, yh, ho, yn, le, op, nn, pt, ce, sk, oq, cw, upd ya k (p + 1), cl, li, upd lc l (lw_i16 (lc l + 1)), tx) :=
  ⟨fun _ h => xg_31 hk hl (br_f z h), fun _ h => yg_31 hk hl (br_f z h)⟩
theorem fg_32 {d l : Nat} {ar n p : Int32} (hd : d < 12) (hl : l < 6) :
    fc_Go 32 ar n p (nh, wc, wd, cv, nI d, pr, st, cc, nI (l + 1), ho, xn, wa, go, pa, co, ca, wl, sk, ce, tx, cw, cp, cl, li, lc) (nh, wd, nI d, cc, nI (l + 1), st, pr, ov, yh, ho, yn, le, op, nn, pt, ce, sk, oq, cw, ya, cl, li, lc, tx) (-1) (nh, wc, wd, cv, nI (d + 1), pr, st, cc, nI (l + 1), ho, xn, wa, go, pa, co, ca, wl, upd sk d (lw_i16 (lc l)), ce, tx, cw, cp, cl, li, lc) (nh, wd, nI (d + 1), cc, nI (l + 1), st, pr, ov, yh, ho, yn, le, op, nn, pt, ce, upd sk d (lw_i16 (lc l)), oq, cw, ya, cl, li, lc, tx) := by
  have e : (nI (l + 1) - 1).toNatClampNeg = l := by rw [nI_pred]; exact nI_clamp (by omega)
  have w : vp_in (nI (l + 1) - 1) 6 := by rw [nI_pred]; exact vp_in_nI hl (by omega)
  constructor
  · intro post h
    refine xj_hi (c := 32) (by omega) (by omega) ?_
    refine br_f (by decide) (br_f (by decide) (br_f (by decide) (br_f (by decide) (br_t rfl ⟨w, ?_⟩))))
    rw [e]
    exact xp_put (d := d) hd h
  · intro q h
    refine nm_e (br_f (by decide) (br_f (by decide) (br_f (by decide) (br_f (by decide) (br_f (by decide) (br_f (by decide) (br_f (by decide) (br_f (by decide) (br_t rfl ⟨w, ?_⟩)))))))))
    rw [e]
    exact yp_give (d := d) hd h
theorem fg_33 {k : Nat} {ar n p : Int32} (hk : k < 8) :
    fc_Go 33 ar n p (nh, wc, wd, cv, sd, pr, st, nI (k + 1), lo, ho, xn, wa, go, pa, co, ca, wl, sk, ce, tx, cw, cp, cl, li, lc) (nh, wd, sd, nI (k + 1), lo, st, pr, ov, yh, ho, yn, le, op, nn, pt, ce, sk, oq, cw, ya, cl, li, lc, tx) (if k = 0 then 0 else (-1)) (nh, wc, wd, cv, sd, pr, st, nI k, cl k, ho, xn, wa, go, pa, co, ca, wl, sk, ce, tx, cw, cp, cl, li, lc) (nh, wd, sd, nI k, cl k, st, pr, ov, yh, ho, yn, le, op, nn, pt, ce, sk, oq, cw, ya, cl, li, lc, tx) := by
  constructor
  · intro post h
    refine xj_hi (c := 33) (by omega) (by omega) ?_
    refine br_f (by decide) (br_t (by decide) ?_)
    exact xp_end (k := k) hk h
  · intro q h
    refine nm_e (br_f (by decide) (br_f (by decide) (br_f (by decide) (br_f (by decide) (br_f (by decide) (br_f (by decide) (br_f (by decide) (br_f (by decide) (br_f (by decide) (br_t rfl ?_))))))))))
    exact yp_leave (k := k) hk h
end JP
/-! a turn of X, a step of Y: the ways through them -/
section TN
variable {nh wc wd cv sd pr st cc lo ov yh : Int32} {ho xn wa go pa co ca wl sk ce tx cw cp cl li lc yn le op nn pt oq ya : Nat → Int32}
theorem fn_ix (w a : Nat) : (24 : Int32) * nI w + nI a = nI (24 * w + a) := by
  rw [show (24 : Int32) * nI w = nI (24 * w) from pk_mul 24 w, nI_add]
theorem fn_iy (w a : Nat) : nI w * 24 + nI a = nI (24 * w + a) := by
  rw [show nI w * 24 = nI (w * 24) from pk_mul w 24, nI_add, Nat.mul_comm]
theorem fn_same {f : Nat → Int32} {k : Nat} {x : Int32} (h : f k = x) : upd f k x = f := by
  funext j
  by_cases e : j = k
  · subst e; rw [pk_us, h]
  · rw [pk_un e]
theorem xt_end {post : Int32 → SX → Prop} {k w a L : Nat} (hk : k < 8) (hw : w < 10) (e1 : cw k = nI w) (e2 : cp k = nI a) (e3 : wl w = nI L) (hL : L ≤ a) (ha : a < 100)
    (h : post (if k = 0 then 0 else (-1)) (nh, wc, wd, cv, sd, pr, st, nI k, cl k, ho, xn, wa, go, pa, co, ca, wl, sk, ce, tx, cw, cp, cl, li, lc)) : wpX_takeTurn post (nh, wc, wd, cv, sd, pr, st, nI (k + 1), lo, ho, xn, wa, go, pa, co, ca, wl, sk, ce, tx, cw, cp, cl, li, lc) := by
  have e : (nI (k + 1) - 1).toNatClampNeg = k := by rw [nI_pred]; exact nI_clamp (by omega)
  have v : vp_in (nI (k + 1) - 1) 8 := by rw [nI_pred]; exact vp_in_nI hk (by omega)
  have ew : wl (nI w).toNatClampNeg = nI L := by rw [nI_clamp (by omega)]; exact e3
  refine ⟨v, nm_r (e' := nI w) (by rw [e]; exact e1) ⟨v, nm_r (e' := nI a) (by rw [e]; exact e2) ⟨vp_in_nI hw (by omega), ?_⟩⟩⟩
  rw [ew]
  refine br_f (nI_nlt hL (by omega)) ?_
  exact xp_end hk h
theorem xt_none {post : Int32 → SX → Prop} {k w a L c : Nat} (hk : k < 8) (hw : w < 10) (e1 : cw k = nI w) (e2 : cp k = nI a) (e3 : wl w = nI L) (hL : a < L) (hL2 : L ≤ 24) (ec : co (24 * w + a) = nI c) (hc : c = 25 ∨ c = 26)
    (h : post (-1) (nh, wc, wd, cv, sd, pr, st, nI (k + 1), lo, ho, xn, wa, go, pa, co, ca, wl, sk, ce, tx, cw, upd cp k (nI (a + 1)), cl, li, lc)) : wpX_takeTurn post (nh, wc, wd, cv, sd, pr, st, nI (k + 1), lo, ho, xn, wa, go, pa, co, ca, wl, sk, ce, tx, cw, cp, cl, li, lc) := by
  have e : (nI (k + 1) - 1).toNatClampNeg = k := by rw [nI_pred]; exact nI_clamp (by omega)
  have v : vp_in (nI (k + 1) - 1) 8 := by rw [nI_pred]; exact vp_in_nI hk (by omega)
  have ew : wl (nI w).toNatClampNeg = nI L := by rw [nI_clamp (by omega)]; exact e3
  refine ⟨v, nm_r (e' := nI w) (by rw [e]; exact e1) ⟨v, nm_r (e' := nI a) (by rw [e]; exact e2) ⟨vp_in_nI hw (by omega), ?_⟩⟩⟩
  rw [ew]
  refine br_t (nI_lt hL (by omega)) (nm_r (fn_iy w a) ⟨vp_in_nI (by omega) (by omega), nm_r (e' := nI c) (by rw [nI_clamp (by omega)]; exact ec) ?_⟩)
  rw [nI_1]
  refine xp_goOn hk ?_
  rcases hc with rfl | rfl
  · exact br_t rfl (br_f fn_10 h)
  · exact br_f (by decide) (br_t rfl (br_f fn_10 h))
theorem xt_fault {post : Int32 → SX → Prop} {k w a L c r : Nat} (hk : k < 8) (hw : w < 10) (e1 : cw k = nI w) (e2 : cp k = nI a) (e3 : wl w = nI L) (hL : a < L) (hL2 : L ≤ 24) (ec : co (24 * w + a) = nI c) (hc : c < 34 ∧ c ≠ 25 ∧ c ≠ 26) (hr : 1 ≤ r ∧ r ≤ 5)
    (hF : ∀ p : Int32 → Prop, p (nI r) → wpX_findFault p (nh, wc, wd, cv, sd, pr, st, nI (k + 1), lo, ho, xn, wa, go, pa, co, ca, wl, sk, ce, tx, cw, upd cp k (nI (a + 1)), cl, li, lc) (nI c))
    (h : post (nI r) (nh, wc, wd, cv, sd, pr, st, nI (k + 1), lo, ho, xn, wa, go, pa, co, ca, wl, sk, ce, tx, cw, upd cp k (nI (a + 1)), cl, li, lc)) : wpX_takeTurn post (nh, wc, wd, cv, sd, pr, st, nI (k + 1), lo, ho, xn, wa, go, pa, co, ca, wl, sk, ce, tx, cw, cp, cl, li, lc) := by
  have e : (nI (k + 1) - 1).toNatClampNeg = k := by rw [nI_pred]; exact nI_clamp (by omega)
  have v : vp_in (nI (k + 1) - 1) 8 := by rw [nI_pred]; exact vp_in_nI hk (by omega)
  have ew : wl (nI w).toNatClampNeg = nI L := by rw [nI_clamp (by omega)]; exact e3
  refine ⟨v, nm_r (e' := nI w) (by rw [e]; exact e1) ⟨v, nm_r (e' := nI a) (by rw [e]; exact e2) ⟨vp_in_nI hw (by omega), ?_⟩⟩⟩
  rw [ew]
  refine br_t (nI_lt hL (by omega)) (nm_r (fn_iy w a) ⟨vp_in_nI (by omega) (by omega), nm_r (e' := nI c) (by rw [nI_clamp (by omega)]; exact ec) ?_⟩)
  rw [nI_1]
  refine xp_goOn hk ?_
  refine br_f (fn_ne (m := 25) hc.2.1) (br_f (fn_ne (m := 26) hc.2.2) (br_t rfl ?_))
  refine hF _ ?_
  exact br_f (fn_ne (m := 0) (by omega)) h
theorem xt_exec {post : Int32 → SX → Prop} {k w a L c s : Nat} {r : Int32} {u' : SX} (hk : k < 8) (hw : w < 10) (e1 : cw k = nI w) (e2 : cp k = nI a) (e3 : wl w = nI L) (hL : a < L) (hL2 : L ≤ 24) (ec : co (24 * w + a) = nI c) (hc : c < 34 ∧ c ≠ 25 ∧ c ≠ 26)
    (hF : ∀ p : Int32 → Prop, p 0 → wpX_findFault p (nh, wc, wd, cv, sd, pr, nI s, nI (k + 1), lo, ho, xn, wa, go, pa, co, ca, wl, sk, ce, tx, cw, upd cp k (nI (a + 1)), cl, li, lc) (nI c))
    (hE : ∀ p : Int32 → SX → Prop, p r u' → wpX_execute p (nh, wc, wd, cv, sd, pr, nI (s + 1), nI (k + 1), lo, ho, xn, wa, go, pa, co, ca, wl, sk, ce, tx, cw, upd cp k (nI (a + 1)), cl, li, lc) (nI c) (ca (24 * w + a)))
    (h : post r u') : wpX_takeTurn post (nh, wc, wd, cv, sd, pr, nI s, nI (k + 1), lo, ho, xn, wa, go, pa, co, ca, wl, sk, ce, tx, cw, cp, cl, li, lc) := by
  have e : (nI (k + 1) - 1).toNatClampNeg = k := by rw [nI_pred]; exact nI_clamp (by omega)
  have v : vp_in (nI (k + 1) - 1) 8 := by rw [nI_pred]; exact vp_in_nI hk (by omega)
  have ew : wl (nI w).toNatClampNeg = nI L := by rw [nI_clamp (by omega)]; exact e3
  refine ⟨v, nm_r (e' := nI w) (by rw [e]; exact e1) ⟨v, nm_r (e' := nI a) (by rw [e]; exact e2) ⟨vp_in_nI hw (by omega), ?_⟩⟩⟩
  rw [ew]
  refine br_t (nI_lt hL (by omega)) (nm_r (fn_iy w a) ⟨vp_in_nI (by omega) (by omega), nm_r (e' := nI c) (by rw [nI_clamp (by omega)]; exact ec) ?_⟩)
  rw [nI_1]
  refine xp_goOn hk ?_
  refine br_f (fn_ne (m := 25) hc.2.1) (br_f (fn_ne (m := 26) hc.2.2) (br_t rfl ?_))
  refine hF _ ?_
  refine br_t rfl (nm_r (nI_1 s) ⟨vp_in_nI (by omega) (by omega), ?_⟩)
  rw [nI_clamp (by omega)]
  refine hE _ ?_
  obtain ⟨o0, o1, o2, o3, o4, o5, o6, o7, o8, o9, o10, o11, o12, o13, o14, o15, o16, o17, o18, o19, o20, o21, o22, o23, o24⟩ := u'
  exact h
theorem ys_end {q : SY → Prop} {k w a : Nat} (hk : k < 8) (hw : w < 10) (e1 : cw k = nI w) (e2 : ya k = nI a) (e3 : le w = nI a) (h : q (nh, wd, sd, nI k, cl k, st, pr, ov, yh, ho, yn, le, op, nn, pt, ce, sk, oq, cw, ya, cl, li, lc, tx)) : wpY_step q (nh, wd, sd, nI (k + 1), lo, st, pr, ov, yh, ho, yn, le, op, nn, pt, ce, sk, oq, cw, ya, cl, li, lc, tx) := by
  have e : (nI k).toNatClampNeg = k := nI_clamp (by omega)
  have ew : (nI w).toNatClampNeg = w := nI_clamp (by omega)
  have v : vp_in (nI k) 8 := vp_in_nI hk (by omega)
  refine nm_r (nI_pred k) ⟨v, v, ?_⟩
  rw [e, e1, ew, e2, e3]
  refine ⟨vp_in_nI hw (by omega), br_t rfl ?_⟩
  exact yp_leave hk h
theorem ys_t0 {q : SY → Prop} {k w a L c : Nat} (hk : k < 8) (hw : w < 10) (e1 : cw k = nI w) (e2 : ya k = nI a) (e3 : le w = nI L) (hL : a < L) (hL2 : L ≤ 24) (ec : op (24 * w + a) = nI c) (hc : c = 25 ∨ c = 26)
    (h : q (nh, wd, sd, nI (k + 1), lo, st, pr, ov, yh, ho, yn, le, op, nn, pt, ce, sk, oq, cw, upd ya k (nI (a + 1)), cl, li, lc, tx)) : wpY_step q (nh, wd, sd, nI (k + 1), lo, st, pr, ov, yh, ho, yn, le, op, nn, pt, ce, sk, oq, cw, ya, cl, li, lc, tx) := by
  have e : (nI k).toNatClampNeg = k := nI_clamp (by omega)
  have ew : (nI w).toNatClampNeg = w := nI_clamp (by omega)
  have v : vp_in (nI k) 8 := vp_in_nI hk (by omega)
  have vi : vp_in (nI (24 * w + a)) 240 := vp_in_nI (by omega) (by omega)
  have K : wY_step_97 q (nI (24 * w + a)) (nI c) nh wd sd (nI (k + 1)) lo st pr ov yh ho yn le op nn pt ce sk oq cw (upd ya k (nI (a + 1))) cl li lc tx := by
    refine br_t (nI_lt (a := 21) (by omega) (by omega)) ⟨vi, vi, nm_e ?_⟩
    rcases hc with rfl | rfl
    · exact br_f (by decide) (br_f (by decide) (br_f (by decide) (br_f (by decide) (br_f (by decide) (br_f (by decide) (br_f (by decide) (br_f (by decide) (br_f (by decide) (br_f (by decide) h)))))))))
    · exact br_f (by decide) (br_f (by decide) (br_f (by decide) (br_f (by decide) (br_f (by decide) (br_f (by decide) (br_f (by decide) (br_f (by decide) (br_f (by decide) (br_f (by decide) h)))))))))
  refine nm_r (nI_pred k) ⟨v, v, ?_⟩
  rw [e, e1, ew, e2, e3]
  refine ⟨vp_in_nI hw (by omega), br_f (fn_ne (by omega)) ⟨v, v, nm_r (fn_ix w a) ⟨vi, nm_r (e' := nI c) (by rw [nI_clamp (by omega)]; exact ec) ?_⟩⟩⟩
  have M : ∀ P : Int32 → SY → Prop, P 1 (nh, wd, sd, nI (k + 1), lo, st, pr, ov, yh, ho, yn, le, op, nn, pt, ce, sk, oq, cw, ya, cl, li, lc, tx) → wpY_can P (nh, wd, sd, nI (k + 1), lo, st, pr, ov, yh, ho, yn, le, op, nn, pt, ce, sk, oq, cw, ya, cl, li, lc, tx) (nI c) := by
    intro P hP
    rcases hc with rfl | rfl
    · exact br_t rfl hP
    · exact br_f (by decide) (br_t rfl hP)
  refine M _ ?_
  refine br_f fn_10 ⟨v, v, nm_r (e' := upd ya k (nI (a + 1))) (by rw [e2, nI_1]) ?_⟩
  rcases hc with rfl | rfl
  · exact br_t rfl K
  · exact br_f (by decide) (br_t rfl K)
theorem ys_fault {q : SY → Prop} {k w a L c : Nat} {v' : SY} (hk : k < 8) (hw : w < 10) (e1 : cw k = nI w) (e2 : ya k = nI a) (e3 : le w = nI L) (hL : a < L) (hL2 : L ≤ 24) (ec : op (24 * w + a) = nI c)
    (hC : ∀ P : Int32 → SY → Prop, P 0 v' → wpY_can P (nh, wd, sd, nI (k + 1), lo, st, pr, ov, yh, ho, yn, le, op, nn, pt, ce, sk, oq, cw, ya, cl, li, lc, tx) (nI c)) (h : q v') : wpY_step q (nh, wd, sd, nI (k + 1), lo, st, pr, ov, yh, ho, yn, le, op, nn, pt, ce, sk, oq, cw, ya, cl, li, lc, tx) := by
  have e : (nI k).toNatClampNeg = k := nI_clamp (by omega)
  have ew : (nI w).toNatClampNeg = w := nI_clamp (by omega)
  have v : vp_in (nI k) 8 := vp_in_nI hk (by omega)
  have vi : vp_in (nI (24 * w + a)) 240 := vp_in_nI (by omega) (by omega)
  refine nm_r (nI_pred k) ⟨v, v, ?_⟩
  rw [e, e1, ew, e2, e3]
  refine ⟨vp_in_nI hw (by omega), br_f (fn_ne (by omega)) ⟨v, v, nm_r (fn_ix w a) ⟨vi, nm_r (e' := nI c) (by rw [nI_clamp (by omega)]; exact ec) ?_⟩⟩⟩
  refine hC _ ?_
  obtain ⟨o0, o1, o2, o3, o4, o5, o6, o7, o8, o9, o10, o11, o12, o13, o14, o15, o16, o17, o18, o19, o20, o21, o22, o23⟩ := v'
  exact br_t rfl h
theorem ys_t1 {q : SY → Prop} {k w a L c s : Nat} (hk : k < 8) (hw : w < 10) (e1 : cw k = nI w) (e2 : ya k = nI a) (e3 : le w = nI L) (hL : a < L) (hL2 : L ≤ 24) (ec : op (24 * w + a) = nI c) (hc : c < 34 ∧ c ≠ 25 ∧ c ≠ 26)
    (hC : ∀ P : Int32 → SY → Prop, P 1 (nh, wd, sd, nI (k + 1), lo, nI s, pr, ov, yh, ho, yn, le, op, nn, pt, ce, sk, oq, cw, ya, cl, li, lc, tx) → wpY_can P (nh, wd, sd, nI (k + 1), lo, nI s, pr, ov, yh, ho, yn, le, op, nn, pt, ce, sk, oq, cw, ya, cl, li, lc, tx) (nI c))
    (h : wY_step_97 q (nI (24 * w + a)) (nI c) nh wd sd (nI (k + 1)) lo (nI (s + 1)) pr ov yh ho yn le op nn pt ce sk oq cw (upd ya k (nI (a + 1))) cl li lc tx) : wpY_step q (nh, wd, sd, nI (k + 1), lo, nI s, pr, ov, yh, ho, yn, le, op, nn, pt, ce, sk, oq, cw, ya, cl, li, lc, tx) := by
  have e : (nI k).toNatClampNeg = k := nI_clamp (by omega)
  have ew : (nI w).toNatClampNeg = w := nI_clamp (by omega)
  have v : vp_in (nI k) 8 := vp_in_nI hk (by omega)
  have vi : vp_in (nI (24 * w + a)) 240 := vp_in_nI (by omega) (by omega)
  refine nm_r (nI_pred k) ⟨v, v, ?_⟩
  rw [e, e1, ew, e2, e3]
  refine ⟨vp_in_nI hw (by omega), br_f (fn_ne (by omega)) ⟨v, v, nm_r (fn_ix w a) ⟨vi, nm_r (e' := nI c) (by rw [nI_clamp (by omega)]; exact ec) ?_⟩⟩⟩
  refine hC _ ?_
  refine br_f fn_10 ⟨v, v, nm_r (e' := upd ya k (nI (a + 1))) (by rw [e2, nI_1]) ?_⟩
  exact br_f (fn_ne (m := 25) hc.2.1) (br_f (fn_ne (m := 26) hc.2.2) (nm_r (nI_1 s) h))
theorem ys_work {q : SY → Prop} {i c : Nat} {v' : SY} (hi : i < 240) (hc : c ≤ 21) (H : ∀ P : SY → Prop, P v' → wpY_work P (nh, wd, sd, cc, lo, st, pr, ov, yh, ho, yn, le, op, nn, pt, ce, sk, oq, cw, ya, cl, li, lc, tx) (nI c) (nn i)) (h : q v') : wY_step_97 q (nI i) (nI c) nh wd sd cc lo st pr ov yh ho yn le op nn pt ce sk oq cw ya cl li lc tx := by
  refine br_f (nI_nlt (a := 21) hc (by omega)) ⟨vp_in_nI hi (by omega), ?_⟩
  rw [nI_clamp (by omega)]
  refine H _ ?_
  obtain ⟨o0, o1, o2, o3, o4, o5, o6, o7, o8, o9, o10, o11, o12, o13, o14, o15, o16, o17, o18, o19, o20, o21, o22, o23⟩ := v'
  exact h
theorem ys_go {q : SY → Prop} {i c : Nat} {v' : SY} (hi : i < 240) (hc : 22 ≤ c ∧ c < 34) (H : ∀ P : SY → Prop, P v' → wpY_go P (nh, wd, sd, cc, lo, st, pr, ov, yh, ho, yn, le, op, nn, pt, ce, sk, oq, cw, ya, cl, li, lc, tx) (nI c) (nn i) (pt i)) (h : q v') : wY_step_97 q (nI i) (nI c) nh wd sd cc lo st pr ov yh ho yn le op nn pt ce sk oq cw ya cl li lc tx := by
  refine br_t (nI_lt (a := 21) (by omega) (by omega)) ⟨vp_in_nI hi (by omega), vp_in_nI hi (by omega), ?_⟩
  rw [nI_clamp (by omega)]
  refine H _ ?_
  obtain ⟨o0, o1, o2, o3, o4, o5, o6, o7, o8, o9, o10, o11, o12, o13, o14, o15, o16, o17, o18, o19, o20, o21, o22, o23⟩ := v'
  exact h
end TN
end
section
/-! frames, the measure, a turn in lockstep, the whole run -/
def fc_Fr (W k : Nat) (LL : Nat → Nat) (PP DD : Nat → Nat → Nat) (gw ga gb : Nat → Nat) (cw cp ya cl : Nat → Int32) : Prop :=
  ∀ f, f < k → gw f < W ∧ ga f ≤ LL (gw f) ∧ cw f = nI (gw f) ∧ cp f = nI (PP (gw f) (ga f)) ∧ ya f = nI (ga f) ∧ cl f = nI (gb f) ∧ gb (f + 1) = gb f + DD (gw f) (ga f)
section RN
variable {W k : Nat} {LL : Nat → Nat} {PP DD : Nat → Nat → Nat} {gw ga gb : Nat → Nat}
variable {nh wc wd cv sd pr st cc lo ov yh : Int32} {ho xn wa go pa co ca wl sk ce tx cw cp cl li lc yn le op nn pt oq ya : Nat → Int32}
theorem fr_top (h : fc_Fr W (k + 1) LL PP DD gw ga gb cw cp ya cl) {a : Nat} (ha : a ≤ LL (gw k)) {x y : Int32} (hx : x = nI (PP (gw k) a)) (hy : y = nI a) :
    fc_Fr W (k + 1) LL PP DD gw (fc_set ga k a) (fc_set gb (k + 1) (gb k + DD (gw k) a)) cw (upd cp k x) (upd ya k y) cl := by
  intro f hf
  obtain ⟨h1, h2, h3, h4, h5, h6, h7⟩ := h f hf
  by_cases e : f = k
  · subst e
    rw [fc_set_s, fc_set_s, fc_set_n (by omega), pk_us, pk_us]
    exact ⟨h1, ha, h3, hx, hy, h6, rfl⟩
  · rw [fc_set_n e, fc_set_n (show f + 1 ≠ k + 1 by omega), fc_set_n (show f ≠ k + 1 by omega), pk_un e, pk_un e]
    exact ⟨h1, h2, h3, h4, h5, h6, h7⟩
theorem fr_begin (h : fc_Fr W k LL PP DD gw ga gb cw cp ya cl) {w : Nat} (hw : w < W) (hP : PP w 0 = 0) (hD : DD w 0 = 0) {x : Int32} (hx : x = nI (gb k)) :
    fc_Fr W (k + 1) LL PP DD (fc_set gw k w) (fc_set ga k 0) (fc_set gb (k + 1) (gb k)) (upd cw k (nI w)) (upd cp k 0) (upd ya k 0) (upd cl k x) := by
  intro f hf
  by_cases e : f = k
  · subst e
    rw [fc_set_s, fc_set_s, fc_set_s, fc_set_n (by omega), pk_us, pk_us, pk_us, pk_us, hP, hD]
    exact ⟨hw, Nat.zero_le _, rfl, nI_0.symm, nI_0.symm, hx, rfl⟩
  · obtain ⟨h1, h2, h3, h4, h5, h6, h7⟩ := h f (by omega)
    rw [fc_set_n e, fc_set_n e, fc_set_n (show f + 1 ≠ k + 1 by omega), fc_set_n (show f ≠ k + 1 by omega), pk_un e, pk_un e, pk_un e, pk_un e]
    exact ⟨h1, h2, h3, h4, h5, h6, h7⟩
theorem fr_pop (h : fc_Fr W (k + 1) LL PP DD gw ga gb cw cp ya cl) : fc_Fr W k LL PP DD gw ga gb cw cp ya cl := fun f hf => h f (by omega)
theorem fm_top {a : Nat} : fc_sm (fun f => LL (gw f) - fc_set ga k a f + 1) (k + 1) = fc_sm (fun f => LL (gw f) - ga f + 1) k + (LL (gw k) - a + 1) := by
  rw [fc_sm_s, fc_set_s, fc_sm_c (g := fun f => LL (gw f) - fc_set ga k a f + 1) (h := fun f => LL (gw f) - ga f + 1) k (fun f hf => by show LL (gw f) - fc_set ga k a f + 1 = _; rw [fc_set_n (by omega)])]
theorem fm_begin {w : Nat} : fc_sm (fun f => LL (fc_set gw k w f) - fc_set ga k 0 f + 1) (k + 1) = fc_sm (fun f => LL (gw f) - ga f + 1) k + (LL w + 1) := by
  rw [fc_sm_s, fc_set_s, fc_set_s, fc_sm_c (g := fun f => LL (fc_set gw k w f) - fc_set ga k 0 f + 1) (h := fun f => LL (gw f) - ga f + 1) k (fun f hf => by show LL (fc_set gw k w f) - fc_set ga k 0 f + 1 = _; rw [fc_set_n (by omega), fc_set_n (by omega)])]
  rfl
/-- a run that goes on -/
def fc_Rn (W : Nat) (LL : Nat → Nat) (PP DD : Nat → Nat → Nat) (nh wc wd cv yh : Int32) (ho xn wa go pa co ca wl yn le op nn pt oq : Nat → Int32) (m : Nat) (u : SX) (v : SY) : Prop :=
  ∃ (k s d p l : Nat) (gw ga gb : Nat → Nat) (sk ce tx cw cp cl li lc ya : Nat → Int32),
    u = (nh, wc, wd, cv, nI d, nI p, nI s, nI (k + 1), nI l, ho, xn, wa, go, pa, co, ca, wl, sk, ce, tx, cw, cp, cl, li, lc) ∧ v = (nh, wd, nI d, nI (k + 1), nI l, nI s, nI p, 0, yh, ho, yn, le, op, nn, pt, ce, sk, oq, cw, ya, cl, li, lc, tx) ∧
    k < 8 ∧ s ≤ 300 ∧ d ≤ 12 ∧ p ≤ 7 * s ∧ l = gb (k + 1) ∧ l ≤ 6 ∧ fc_Sh sk ∧ fc_Sh ce ∧ fc_Sh li ∧ fc_Sh lc ∧
    fc_Fr W (k + 1) LL PP DD gw ga gb cw cp ya cl ∧ 25 * (300 - s) + fc_sm (fun f => LL (gw f) - ga f + 1) (k + 1) ≤ m
/-- a run that is over: r is X's answer -/
def fc_Fn (nh wc wd cv yh : Int32) (ho xn wa go pa co ca wl yn le op nn pt oq : Nat → Int32) (r : Int32) (u : SX) (v : SY) : Prop :=
  ∃ (s d p : Nat) (cc lo : Int32) (sk ce tx cw cp cl li lc ya : Nat → Int32), s ≤ 300 ∧ d ≤ 12 ∧ p ≤ 7 * s ∧ fc_Sh sk ∧ fc_Sh ce ∧ fc_Sh li ∧ fc_Sh lc ∧
    u = (nh, wc, wd, cv, nI d, nI p, nI s, cc, lo, ho, xn, wa, go, pa, co, ca, wl, sk, ce, tx, cw, cp, cl, li, lc) ∧
    ((r = 0 ∧ cc = 0 ∧ v = (nh, wd, nI d, cc, lo, nI s, nI p, 0, yh, ho, yn, le, op, nn, pt, ce, sk, oq, cw, ya, cl, li, lc, tx)) ∨ (∃ f : Nat, 1 ≤ f ∧ f ≤ 5 ∧ r = nI f ∧ v = (nh, wd, nI d, cc, lo, nI s, nI p, 1, nI f, ho, yn, le, op, nn, pt, ce, sk, oq, cw, ya, cl, li, lc, tx)))
theorem rn_top {s d p l a m : Nat} {x y : Int32} (hF : fc_Fr W (k + 1) LL PP DD gw ga gb cw cp ya cl) (hk : k < 8) (ha : a ≤ LL (gw k)) (hx : x = nI (PP (gw k) a)) (hy : y = nI a)
    (hl : l = gb k + DD (gw k) a) (hl6 : l ≤ 6) (hs : s ≤ 300) (hd : d ≤ 12) (hp : p ≤ 7 * s) (h1 : fc_Sh sk) (h2 : fc_Sh ce) (h3 : fc_Sh li) (h4 : fc_Sh lc)
    (hm : 25 * (300 - s) + (fc_sm (fun f => LL (gw f) - ga f + 1) k + (LL (gw k) - a + 1)) ≤ m) :
    fc_Rn W LL PP DD nh wc wd cv yh ho xn wa go pa co ca wl yn le op nn pt oq m (nh, wc, wd, cv, nI d, nI p, nI s, nI (k + 1), nI l, ho, xn, wa, go, pa, co, ca, wl, sk, ce, tx, cw, upd cp k x, cl, li, lc) (nh, wd, nI d, nI (k + 1), nI l, nI s, nI p, 0, yh, ho, yn, le, op, nn, pt, ce, sk, oq, cw, upd ya k y, cl, li, lc, tx) :=
  ⟨k, s, d, p, l, gw, fc_set ga k a, fc_set gb (k + 1) (gb k + DD (gw k) a), sk, ce, tx, cw, upd cp k x, cl, li, lc, upd ya k y, rfl, rfl, hk, hs, hd, hp, hl.trans fc_set_s.symm, hl6, h1, h2, h3, h4, fr_top hF ha hx hy, by rw [fm_top]; exact hm⟩
/-- a turn -/
def fc_Tn (W : Nat) (LL : Nat → Nat) (PP DD : Nat → Nat → Nat) (nh wc wd cv yh : Int32) (ho xn wa go pa co ca wl yn le op nn pt oq : Nat → Int32) (m : Nat) (u : SX) (v : SY) : Prop :=
  (∃ (v' : SY) (n : Nat), n < m ∧ fc_Rn W LL PP DD nh wc wd cv yh ho xn wa go pa co ca wl yn le op nn pt oq n u v' ∧ (∀ q : SY → Prop, q v' → wpY_step q v)) ∨
  (∃ (r : Int32) (u' : SX) (v' : SY), (∀ p : Int32 → SX → Prop, p r u' → wpX_takeTurn p u) ∧ (∀ q : SY → Prop, q v' → wpY_step q v) ∧
    ((r = -1 ∧ ∃ n : Nat, n < m ∧ fc_Rn W LL PP DD nh wc wd cv yh ho xn wa go pa co ca wl yn le op nn pt oq n u' v') ∨ fc_Fn nh wc wd cv yh ho xn wa go pa co ca wl yn le op nn pt oq r u' v'))
theorem tn_go {m n : Nat} {u u' : SX} {v v' : SY} (h1 : ∀ p : Int32 → SX → Prop, p (-1) u' → wpX_takeTurn p u) (h2 : ∀ q : SY → Prop, q v' → wpY_step q v) (hn : n < m) (h3 : fc_Rn W LL PP DD nh wc wd cv yh ho xn wa go pa co ca wl yn le op nn pt oq n u' v') :
    fc_Tn W LL PP DD nh wc wd cv yh ho xn wa go pa co ca wl yn le op nn pt oq m u v := Or.inr ⟨-1, u', v', h1, h2, Or.inl ⟨rfl, n, hn, h3⟩⟩
/-- a call is over -/
theorem tn_pop {m s d p : Nat} {u : SX} {v : SY} (hF : fc_Fr W (k + 1) LL PP DD gw ga gb cw cp ya cl) (hk : k < 8) (hs : s ≤ 300) (hd : d ≤ 12) (hp : p ≤ 7 * s) (hl : gb (k + 1) ≤ 6) (a1 : fc_Sh sk) (a2 : fc_Sh ce) (a3 : fc_Sh li) (a4 : fc_Sh lc)
    (h1 : ∀ q : Int32 → SX → Prop, q (if k = 0 then 0 else (-1)) (nh, wc, wd, cv, nI d, nI p, nI s, nI k, cl k, ho, xn, wa, go, pa, co, ca, wl, sk, ce, tx, cw, cp, cl, li, lc) → wpX_takeTurn q u) (h2 : ∀ q : SY → Prop, q (nh, wd, nI d, nI k, cl k, nI s, nI p, 0, yh, ho, yn, le, op, nn, pt, ce, sk, oq, cw, ya, cl, li, lc, tx) → wpY_step q v)
    (hm : 25 * (300 - s) + fc_sm (fun f => LL (gw f) - ga f + 1) k < m) : fc_Tn W LL PP DD nh wc wd cv yh ho xn wa go pa co ca wl yn le op nn pt oq m u v := by
  obtain ⟨_, _, _, _, _, ec, eg⟩ := hF k (by omega)
  by_cases z : k = 0
  · rw [if_pos z] at h1
    exact Or.inr ⟨0, _, _, h1, h2, Or.inr ⟨s, d, p, nI k, cl k, sk, ce, tx, cw, cp, cl, li, lc, ya, hs, hd, hp, a1, a2, a3, a4, rfl, Or.inl ⟨rfl, by rw [z]; rfl, rfl⟩⟩⟩
  · rw [if_neg z] at h1
    obtain ⟨j, rfl⟩ : ∃ j, k = j + 1 := ⟨k - 1, by omega⟩
    refine tn_go h1 h2 hm ?_
    rw [ec]
    exact ⟨j, s, d, p, gb (j + 1), gw, ga, gb, sk, ce, tx, cw, cp, cl, li, lc, ya, rfl, rfl, by omega, hs, hd, hp, rfl, by omega, a1, a2, a3, a4, fr_pop hF, Nat.le_refl _⟩
theorem fc_turn {m : Nat} {u : SX} {v : SY} (hW : W ≤ 10) (hWs : fc_Words W LL PP DD le op nn pt wl co ca) (h : fc_Rn W LL PP DD nh wc wd cv yh ho xn wa go pa co ca wl yn le op nn pt oq m u v) :
    fc_Tn W LL PP DD nh wc wd cv yh ho xn wa go pa co ca wl yn le op nn pt oq m u v := by
  obtain ⟨k, s, d, p, l, gw, ga, gb, sk, ce, tx, cw, cp, cl, li, lc, ya, rfl, rfl, hk, hs, hd, hp, hl, hl6, a1, a2, a3, a4, hF, hm⟩ := h
  obtain ⟨w1, w2, e1, e2, e3, e4, e5⟩ := hF k (by omega)
  obtain ⟨l24, P0, D0, PL, el, ew, Pm, hT⟩ := hWs (gw k) w1
  rw [fc_sm_s] at hm
  have hw10 : gw k < 10 := by omega
  by_cases z : ga k = LL (gw k)
  · refine tn_pop (tx := tx) hF hk hs hd hp (by omega) a1 a2 a3 a4 (fun q hq => ?_) (fun q hq => ?_) (by omega)
    · exact xt_end hk hw10 e1 e2 ew (by rw [z]; exact Nat.le_refl _) (by have := Pm (ga k) w2; omega) hq
    · exact ys_end hk hw10 e1 e3 (by rw [z]; exact el) hq
  have hlt : ga k < LL (gw k) := by omega
  obtain ⟨c, t, c34, eo, hPi, hkp, hJ, h22, h30, h31, h32, hDn⟩ := hT (ga k) hlt
  rcases hkp with ⟨c56, hPs⟩ | ⟨hPs, hPlt, hco, hcaJ, hcaN⟩
  · -- Y passes a token that X has left out
    have hD := hDn (by omega) (by omega)
    refine Or.inl ⟨_, m - 1, by omega, ?_, fun q hq => ys_t0 hk hw10 e1 e3 el hlt l24 eo c56 hq⟩
    have R : fc_Rn W LL PP DD nh wc wd cv yh ho xn wa go pa co ca wl yn le op nn pt oq (m - 1) (nh, wc, wd, cv, nI d, nI p, nI s, nI (k + 1), nI l, ho, xn, wa, go, pa, co, ca, wl, sk, ce, tx, cw, upd cp k (nI (PP (gw k) (ga k))), cl, li, lc) (nh, wd, nI d, nI (k + 1), nI l, nI s, nI p, 0, yh, ho, yn, le, op, nn, pt, ce, sk, oq, cw, upd ya k (nI (ga k + 1)), cl, li, lc, tx) :=
      rn_top hF hk (a := ga k + 1) (by omega) (by rw [hPs]) rfl (by omega) hl6 hs hd hp a1 a2 a3 a4 (by omega)
    rw [fn_same e2] at R
    exact R
  by_cases c56 : c = 25 ∨ c = 26
  · have hD := hDn (by omega) (by omega)
    exact tn_go (n := m - 1) (fun q hq => xt_none hk hw10 e1 e2 ew hPlt (by omega) hco c56 hq) (fun q hq => ys_t0 hk hw10 e1 e3 el hlt l24 eo c56 hq) (by omega)
      (rn_top hF hk (a := ga k + 1) (by omega) (by rw [hPs]) rfl (by omega) hl6 hs hd hp a1 a2 a3 a4 (by omega))
  have hn : c ≠ 25 ∧ c ≠ 26 := by omega
  have F : (∃ r : Nat, 1 ≤ r ∧ r ≤ 5 ∧ (∀ q : Int32 → Prop, q (nI r) → wpX_findFault q (nh, wc, wd, cv, nI d, nI p, nI s, nI (k + 1), nI l, ho, xn, wa, go, pa, co, ca, wl, sk, ce, tx, cw, upd cp k (nI (PP (gw k) (ga k) + 1)), cl, li, lc) (nI c)) ∧
      (∀ q : Int32 → SY → Prop, q 0 (nh, wd, nI d, nI (k + 1), nI l, nI s, nI p, 1, nI r, ho, yn, le, op, nn, pt, ce, sk, oq, cw, ya, cl, li, lc, tx) → wpY_can q (nh, wd, nI d, nI (k + 1), nI l, nI s, nI p, 0, yh, ho, yn, le, op, nn, pt, ce, sk, oq, cw, ya, cl, li, lc, tx) (nI c))) ∨
    (s < 300 ∧ fc_need c ≤ d ∧ (c = 9 ∨ c = 10 → ¬ sk (d - 1) = 0) ∧ (fc_G c → d < 12) ∧ (c = 22 → k + 1 < 8) ∧ (c = 30 → l < 6) ∧
      (∀ q : Int32 → Prop, q 0 → wpX_findFault q (nh, wc, wd, cv, nI d, nI p, nI s, nI (k + 1), nI l, ho, xn, wa, go, pa, co, ca, wl, sk, ce, tx, cw, upd cp k (nI (PP (gw k) (ga k) + 1)), cl, li, lc) (nI c)) ∧
      (∀ q : Int32 → SY → Prop, q 1 (nh, wd, nI d, nI (k + 1), nI l, nI s, nI p, 0, yh, ho, yn, le, op, nn, pt, ce, sk, oq, cw, ya, cl, li, lc, tx) → wpY_can q (nh, wd, nI d, nI (k + 1), nI l, nI s, nI p, 0, yh, ho, yn, le, op, nn, pt, ce, sk, oq, cw, ya, cl, li, lc, tx) (nI c))) :=
    fc_fault c34 hn hd hs (by omega) hl6
  rcases F with ⟨r, r1, r5, fX, fY⟩ | ⟨s3, nd, nz, hG, hk8, hl5, fX, fY⟩
  · refine Or.inr ⟨nI r, _, _, fun q hq => xt_fault hk hw10 e1 e2 ew hPlt (by omega) hco ⟨c34, hn⟩ ⟨r1, r5⟩ fX hq, fun q hq => ys_fault hk hw10 e1 e3 el hlt l24 eo fY hq, Or.inr ?_⟩
    exact ⟨s, d, p, nI (k + 1), nI l, sk, ce, tx, cw, _, cl, li, lc, ya, hs, hd, hp, a1, a2, a3, a4, rfl, Or.inr ⟨r, r1, r5, rfl, rfl⟩⟩
  have hi : 24 * gw k + ga k < 240 := by omega
  by_cases c22 : c < 22
  · -- stack, cells, text
    have hJn : ¬ fc_J c := by unfold fc_J; omega
    have hD := hDn (by omega) (by omega)
    have K : ∃ (d' p' : Nat) (sk' ce' tx' : Nat → Int32), d' ≤ 12 ∧ p' ≤ p + 7 ∧ fc_Sh sk' ∧ fc_Sh ce' ∧
      fc_Do c (nn (24 * gw k + ga k)) (nh, wc, wd, cv, nI d, nI p, nI (s + 1), nI (k + 1), nI l, ho, xn, wa, go, pa, co, ca, wl, sk, ce, tx, cw, upd cp k (nI (PP (gw k) (ga k) + 1)), cl, li, lc) (nh, wd, nI d, nI (k + 1), nI l, nI (s + 1), nI p, 0, yh, ho, yn, le, op, nn, pt, ce, sk, oq, cw, upd ya k (nI (ga k + 1)), cl, li, lc, tx)
        (nh, wc, wd, cv, nI d', nI p', nI (s + 1), nI (k + 1), nI l, ho, xn, wa, go, pa, co, ca, wl, sk', ce', tx', cw, upd cp k (nI (PP (gw k) (ga k) + 1)), cl, li, lc) (nh, wd, nI d', nI (k + 1), nI l, nI (s + 1), nI p', 0, yh, ho, yn, le, op, nn, pt, ce', sk', oq, cw, upd ya k (nI (ga k + 1)), cl, li, lc, tx') :=
      fw_all c22 hd nd hG nz a1 a2 (by omega)
    obtain ⟨d', p', sk', ce', tx', b1, b2, b3, b4, kX, kY⟩ := K
    refine tn_go (n := m - 1) (fun q hq => xt_exec hk hw10 e1 e2 ew hPlt (by omega) hco ⟨c34, hn⟩ fX (fun P hP => ?_) hq) (fun q hq => ys_t1 hk hw10 e1 e3 el hlt l24 eo ⟨c34, hn⟩ fY (ys_work hi (by omega) kY hq)) (by omega)
      (rn_top hF hk (a := ga k + 1) (by omega) (by rw [hPs]) rfl (by omega) hl6 (by omega) b1 (by omega) b3 b4 a3 a4 (by omega))
    rw [hcaN hJn]
    exact kX P hP
  -- the others: from fc_Go to a turn
  have G : ∀ {r : Int32} {u' : SX} {v' : SY}, fc_Go c (ca (24 * gw k + PP (gw k) (ga k))) (nn (24 * gw k + ga k)) (pt (24 * gw k + ga k)) (nh, wc, wd, cv, nI d, nI p, nI (s + 1), nI (k + 1), nI l, ho, xn, wa, go, pa, co, ca, wl, sk, ce, tx, cw, upd cp k (nI (PP (gw k) (ga k) + 1)), cl, li, lc) (nh, wd, nI d, nI (k + 1), nI l, nI (s + 1), nI p, 0, yh, ho, yn, le, op, nn, pt, ce, sk, oq, cw, upd ya k (nI (ga k + 1)), cl, li, lc, tx) r u' v' →
      (∀ q : Int32 → SX → Prop, q r u' → wpX_takeTurn q (nh, wc, wd, cv, nI d, nI p, nI s, nI (k + 1), nI l, ho, xn, wa, go, pa, co, ca, wl, sk, ce, tx, cw, cp, cl, li, lc)) ∧ (∀ q : SY → Prop, q v' → wpY_step q (nh, wd, nI d, nI (k + 1), nI l, nI s, nI p, 0, yh, ho, yn, le, op, nn, pt, ce, sk, oq, cw, ya, cl, li, lc, tx)) := by
    intro r u' v' g
    exact ⟨fun q hq => xt_exec hk hw10 e1 e2 ew hPlt (by omega) hco ⟨c34, hn⟩ fX (fun P hP => g.1 P hP) hq, fun q hq => ys_t1 hk hw10 e1 e3 el hlt l24 eo ⟨c34, hn⟩ fY (ys_go hi (by omega) g.2 hq)⟩
  by_cases c2 : c = 22
  · subst c2
    have hJn : ¬ fc_J 22 := by unfold fc_J; omega
    have hD := hDn (by omega) (by omega)
    obtain ⟨n, hn1, hn2⟩ := h22 rfl
    have ear : ca (24 * gw k + PP (gw k) (ga k)) = nI n := by rw [hcaN hJn, hn2]; exact fn_sm n (by omega)
    obtain ⟨_, Q0, E0, _, _, _, _, _⟩ := hWs n (by omega)
    rw [ear, hn2] at G
    obtain ⟨gX, gY⟩ := G (fg_22 (k := k) (hk8 rfl))
    refine tn_go (n := m - 1) gX gY (by omega) ?_
    have F1 := fr_top hF (a := ga k + 1) (by omega) (x := nI (PP (gw k) (ga k) + 1)) (y := nI (ga k + 1)) (by rw [hPs]) rfl
    have eg : fc_set gb (k + 1) (gb k + DD (gw k) (ga k + 1)) (k + 1) = l := by rw [fc_set_s]; omega
    have F2 := fr_begin F1 (w := n) (by omega) Q0 E0 (x := nI l) (by rw [eg])
    have F3 : fc_sm (fun f => LL (fc_set gw (k + 1) n f) - fc_set (fc_set ga k (ga k + 1)) (k + 1) 0 f + 1) (k + 1 + 1) = fc_sm (fun f => LL (gw f) - ga f + 1) k + (LL (gw k) - (ga k + 1) + 1) + (LL n + 1) := by rw [fm_begin, fm_top]
    obtain ⟨n24, _⟩ := hWs n (by omega)
    exact ⟨k + 1, s + 1, d, p, l, _, _, _, sk, ce, tx, _, _, _, li, lc, _, rfl, rfl, hk8 rfl, by omega, hd, by omega, by rw [fc_set_s]; exact eg.symm, hl6, a1, a2, a3, a4, F2, by rw [F3]; omega⟩
  by_cases cI : c = 23 ∨ c = 27 ∨ c = 28
  · have hJ1 : fc_J c := by unfold fc_J; omega
    obtain ⟨j1, j2, j3⟩ := hJ hJ1
    have hD := hDn (by omega) (by omega)
    have n1 : fc_need c = 1 := fc_e1 (by unfold fc_N1; omega)
    obtain ⟨e, rfl⟩ : ∃ e, d = e + 1 := ⟨d - 1, by omega⟩
    rw [hcaJ hJ1, j1] at G
    by_cases z0 : sk e = 0
    · obtain ⟨gX, gY⟩ := G (fg_if0 (k := k) (d := e) cI hk (by omega) z0)
      refine tn_go (n := m - 1) gX gY (by omega) ?_
      rw [fn_uu, fn_uu, nI_1]
      exact rn_top hF hk (a := t + 1) (by omega) rfl rfl (by omega) hl6 (by omega) (by omega) (by omega) a1 a2 a3 a4 (by omega)
    · obtain ⟨gX, gY⟩ := G (fg_if1 (k := k) (d := e) cI hk (by omega) z0)
      refine tn_go (n := m - 1) gX gY (by omega) ?_
      exact rn_top hF hk (a := ga k + 1) (by omega) (by rw [hPs]) rfl (by omega) hl6 (by omega) (by omega) (by omega) a1 a2 a3 a4 (by omega)
  by_cases cE : c = 24 ∨ c = 29
  · have hJ1 : fc_J c := by unfold fc_J; omega
    obtain ⟨j1, j2, j3⟩ := hJ hJ1
    rw [hcaJ hJ1, j1] at G
    obtain ⟨gX, gY⟩ := G (fg_jump (k := k) cE hk)
    refine tn_go (n := m - 1) gX gY (by omega) ?_
    rw [fn_uu, fn_uu, nI_1]
    exact rn_top hF hk (a := t + 1) (by omega) rfl rfl (by omega) hl6 (by omega) hd (by omega) a1 a2 a3 a4 (by omega)
  have cr : c = 30 ∨ c = 31 ∨ c = 32 ∨ c = 33 := by omega
  rcases cr with rfl | rfl | rfl | rfl
  · -- DO
    have hD := h30 rfl
    have n2 : fc_need 30 = 2 := fc_e2 (by unfold fc_N2; omega)
    obtain ⟨e, rfl⟩ : ∃ e, d = e + 2 := ⟨d - 2, by omega⟩
    obtain ⟨gX, gY⟩ := G (fg_30 (d := e) (l := l) (by omega) (hl5 rfl) a1)
    refine tn_go (n := m - 1) gX gY (by omega) ?_
    exact rn_top hF hk (a := ga k + 1) (by omega) (by rw [hPs]) rfl (by omega) (by have := hl5 rfl; omega) (by omega) (by omega) (by omega) a1 a2 (fc_Sh_u a3 (a1 _)) (fc_Sh_u a4 (a1 _)) (by omega)
  · -- LOOP
    have hD := h31 rfl
    have hJ1 : fc_J 31 := by unfold fc_J; omega
    obtain ⟨j1, j2, j3⟩ := hJ hJ1
    rw [hcaJ hJ1, j1] at G
    obtain ⟨y, ey⟩ : ∃ y, l = y + 1 := ⟨l - 1, by omega⟩
    subst ey
    by_cases z0 : lw_i16 (lc y + 1) = li y
    · obtain ⟨gX, gY⟩ := G (fg_31e (k := k) (l := y) hk (by omega) z0)
      refine tn_go (n := m - 1) gX gY (by omega) ?_
      exact rn_top hF hk (a := ga k + 1) (by omega) (by rw [hPs]) rfl (by omega) (by omega) (by omega) hd (by omega) a1 a2 a3 (fc_Sh_u a4 (fn_ii _)) (by omega)
    · obtain ⟨gX, gY⟩ := G (fg_31n (k := k) (l := y) hk (by omega) z0)
      refine tn_go (n := m - 1) gX gY (by omega) ?_
      rw [fn_uu, fn_uu, nI_1]
      exact rn_top hF hk (a := t + 1) (by omega) rfl rfl (by omega) hl6 (by omega) hd (by omega) a1 a2 a3 (fc_Sh_u a4 (fn_ii _)) (by omega)
  · -- I
    have hD := hDn (by omega) (by omega)
    have h1 := h32 rfl
    obtain ⟨y, ey⟩ : ∃ y, l = y + 1 := ⟨l - 1, by omega⟩
    subst ey
    have g := hG (by unfold fc_G; omega)
    obtain ⟨gX, gY⟩ := G (fg_32 (d := d) (l := y) g (by omega))
    refine tn_go (n := m - 1) gX gY (by omega) ?_
    exact rn_top hF hk (a := ga k + 1) (by omega) (by rw [hPs]) rfl (by omega) hl6 (by omega) (by omega) (by omega) (fc_Sh_u a1 (fn_ii _)) a2 a3 a4 (by omega)
  · -- EXIT
    obtain ⟨gX, gY⟩ := G (fg_33 (k := k) hk)
    have F1 : fc_Fr W (k + 1) LL PP DD gw ga gb cw cp ya cl := hF
    refine tn_pop (tx := tx) (cp := upd cp k (nI (PP (gw k) (ga k) + 1))) (ya := upd ya k (nI (ga k + 1))) (ga := fc_set ga k (ga k + 1)) (gb := fc_set gb (k + 1) (gb k + DD (gw k) (ga k + 1))) (fr_top hF (a := ga k + 1) (by omega) (by rw [hPs]) rfl) hk (by omega) hd (by omega) ?_ a1 a2 a3 a4 gX gY ?_
    · have hD := hDn (by omega) (by omega)
      rw [fc_set_s]
      omega
    · have E : fc_sm (fun f => LL (gw f) - fc_set ga k (ga k + 1) f + 1) k = fc_sm (fun f => LL (gw f) - ga f + 1) k := fc_sm_c k (fun f hf => by show LL (gw f) - fc_set ga k (ga k + 1) f + 1 = _; rw [fc_set_n (by omega)])
      rw [E]
      omega
end RN
end
section
/-! the two loops -/
section SM
variable {W : Nat} {LL : Nat → Nat} {PP DD : Nat → Nat → Nat}
variable {nh wc wd cv sd pr st cc lo ov yh : Int32} {ho xn wa go pa co ca wl sk ce tx cw cp cl li lc yn le op nn pt oq ya : Nat → Int32}
def fc_XL (post : Int32 → SX → Prop) (n : Nat) (r j : Int32) (u : SX) : Prop := match u with
  | (nh, wc, wd, cv, sd, pr, st, cc, lo, ho, xn, wa, go, pa, co, ca, wl, sk, ce, tx, cw, cp, cl, li, lc) => wX_run_44 post n r j nh wc wd cv sd pr st cc lo ho xn wa go pa co ca wl sk ce tx cw cp cl li lc
def fc_YL (post : Int32 → SY → Prop) (n : Nat) (j : Int32) (v : SY) : Prop := match v with
  | (nh, wd, sd, cc, lo, st, pr, ov, yh, ho, yn, le, op, nn, pt, ce, sk, oq, cw, ya, cl, li, lc, tx) => wY_run_50 post n j nh wd sd cc lo st pr ov yh ho yn le op nn pt ce sk oq cw ya cl li lc tx
theorem fn_m1 {f : Nat} (h : f < 2 ^ 31) : ¬ nI f = -1 := by
  intro e
  have z := nI_pos (n := f) h
  rw [e] at z
  exact z (by decide)
theorem xl_s {post : Int32 → SX → Prop} {n j : Nat} {r : Int32} {u u' : SX} (hj : j < 1000000) (H : ∀ p : Int32 → SX → Prop, p r u' → wpX_takeTurn p u) (h : fc_XL post n r (nI (j + 1)) u') : fc_XL post (n + 1) (-1) (nI j) u := by
  obtain ⟨o0, o1, o2, o3, o4, o5, o6, o7, o8, o9, o10, o11, o12, o13, o14, o15, o16, o17, o18, o19, o20, o21, o22, o23, o24⟩ := u
  obtain ⟨q0, q1, q2, q3, q4, q5, q6, q7, q8, q9, q10, q11, q12, q13, q14, q15, q16, q17, q18, q19, q20, q21, q22, q23, q24⟩ := u'
  unfold fc_XL at h ⊢
  dsimp only at h ⊢
  rw [wX_run_44]
  refine br_f (nI_ge (b := 1000000) hj (by decide)) (br_t rfl (H _ ?_))
  exact nm_r (nI_1 j) h
theorem xl_e0 {post : Int32 → SX → Prop} {n j : Nat} (hj : j < 1000000) (h : post 0 (nh, wc, wd, cv, sd, pr, st, cc, lo, ho, xn, wa, go, pa, co, ca, wl, sk, ce, tx, cw, cp, cl, li, lc)) : fc_XL post (n + 1) 0 (nI j) (nh, wc, wd, cv, sd, pr, st, cc, lo, ho, xn, wa, go, pa, co, ca, wl, sk, ce, tx, cw, cp, cl, li, lc) := by
  unfold fc_XL
  dsimp only
  rw [wX_run_44]
  exact br_f (nI_ge (b := 1000000) hj (by decide)) (br_f (by decide) (br_t rfl h))
theorem xl_e1 {post : Int32 → SX → Prop} {n j f : Nat} (hj : j < 1000000) (hf : 1 ≤ f ∧ f ≤ 5) (h : post (nI f) (nh, wc, wd, cv, 0, pr, st, cc, lo, ho, xn, wa, go, pa, co, ca, wl, sk, ce, tx, cw, cp, cl, li, lc)) : fc_XL post (n + 1) (nI f) (nI j) (nh, wc, wd, cv, sd, pr, st, cc, lo, ho, xn, wa, go, pa, co, ca, wl, sk, ce, tx, cw, cp, cl, li, lc) := by
  unfold fc_XL
  dsimp only
  rw [wX_run_44]
  exact br_f (nI_ge (b := 1000000) hj (by decide)) (br_f (fn_m1 (by omega)) (br_f (fn_ne (m := 0) (by omega)) h))
theorem yl_s {post : Int32 → SY → Prop} {n j k : Nat} {v' : SY} (hj : j < 9000) (hk : k < 8) (H : ∀ q : SY → Prop, q v' → wpY_step q (nh, wd, sd, nI (k + 1), lo, st, pr, 0, yh, ho, yn, le, op, nn, pt, ce, sk, oq, cw, ya, cl, li, lc, tx)) (h : fc_YL post n (nI (j + 1)) v') : fc_YL post (n + 1) (nI j) (nh, wd, sd, nI (k + 1), lo, st, pr, 0, yh, ho, yn, le, op, nn, pt, ce, sk, oq, cw, ya, cl, li, lc, tx) := by
  obtain ⟨o0, o1, o2, o3, o4, o5, o6, o7, o8, o9, o10, o11, o12, o13, o14, o15, o16, o17, o18, o19, o20, o21, o22, o23⟩ := v'
  unfold fc_YL at h ⊢
  dsimp only at h ⊢
  rw [wY_run_50]
  refine br_f (nI_ge (b := 9000) hj (by decide)) (br_t rfl (br_f (fn_ne (m := 0) (by omega)) (H _ ?_)))
  exact nm_r (nI_1 j) h
theorem yl_0 {post : Int32 → SY → Prop} {n j : Nat} (hj : j < 9000) (h : fc_YL post n (nI (j + 1)) (nh, wd, sd, 0, lo, st, pr, 1, 0, ho, yn, le, op, nn, pt, ce, sk, oq, cw, ya, cl, li, lc, tx)) : fc_YL post (n + 1) (nI j) (nh, wd, sd, 0, lo, st, pr, 0, yh, ho, yn, le, op, nn, pt, ce, sk, oq, cw, ya, cl, li, lc, tx) := by
  unfold fc_YL at h ⊢
  dsimp only at h ⊢
  rw [wY_run_50]
  refine br_f (nI_ge (b := 9000) hj (by decide)) (br_t rfl (br_t rfl ?_))
  exact nm_r (nI_1 j) h
theorem yl_e0 {post : Int32 → SY → Prop} {n j : Nat} (hj : j < 9000) (h : post 0 (nh, wd, sd, cc, lo, st, pr, 1, 0, ho, yn, le, op, nn, pt, ce, sk, oq, cw, ya, cl, li, lc, tx)) : fc_YL post (n + 1) (nI j) (nh, wd, sd, cc, lo, st, pr, 1, 0, ho, yn, le, op, nn, pt, ce, sk, oq, cw, ya, cl, li, lc, tx) := by
  unfold fc_YL
  dsimp only
  rw [wY_run_50]
  exact br_f (nI_ge (b := 9000) hj (by decide)) (br_f fn_10 (br_t rfl h))
theorem yl_e1 {post : Int32 → SY → Prop} {n j f : Nat} (hj : j < 9000) (hf : 1 ≤ f ∧ f ≤ 5) (h : post (nI f) (nh, wd, 0, cc, lo, st, pr, 1, nI f, ho, yn, le, op, nn, pt, ce, sk, oq, cw, ya, cl, li, lc, tx)) : fc_YL post (n + 1) (nI j) (nh, wd, sd, cc, lo, st, pr, 1, nI f, ho, yn, le, op, nn, pt, ce, sk, oq, cw, ya, cl, li, lc, tx) := by
  unfold fc_YL
  dsimp only
  rw [wY_run_50]
  exact br_f (nI_ge (b := 9000) hj (by decide)) (br_f fn_10 (br_f (fn_ne (m := 0) (by omega)) h))
/-- what a run leaves -/
def fc_Out (nh wc wd cv : Int32) (ho xn wa go pa co ca wl yn le op nn pt oq : Nat → Int32) (r : Int32) (u : SX) (v : SY) : Prop :=
  ∃ (s d p : Nat) (cc lo ov yh : Int32) (sk ce tx cw cp cl li lc ya : Nat → Int32), s ≤ 300 ∧ d ≤ 12 ∧ p ≤ 7 * s ∧ fc_Sh sk ∧ fc_Sh ce ∧ fc_Sh li ∧ fc_Sh lc ∧
    u = (nh, wc, wd, cv, nI d, nI p, nI s, cc, lo, ho, xn, wa, go, pa, co, ca, wl, sk, ce, tx, cw, cp, cl, li, lc) ∧ v = (nh, wd, nI d, cc, lo, nI s, nI p, ov, yh, ho, yn, le, op, nn, pt, ce, sk, oq, cw, ya, cl, li, lc, tx)
theorem fc_sim (hW : W ≤ 10) (hWs : fc_Words W LL PP DD le op nn pt wl co ca) : ∀ (m : Nat) (u : SX) (v : SY), fc_Rn W LL PP DD nh wc wd cv yh ho xn wa go pa co ca wl yn le op nn pt oq m u v →
    ∀ jx jy nx ny : Nat, jx + m + 4 ≤ 1000000 → jy + m + 4 ≤ 9000 → m + 4 ≤ nx → m + 4 ≤ ny →
    ∃ (r : Int32) (u' : SX) (v' : SY), fc_Out nh wc wd cv ho xn wa go pa co ca wl yn le op nn pt oq r u' v' ∧
      (∀ post : Int32 → SX → Prop, post r u' → fc_XL post nx (-1) (nI jx) u) ∧ (∀ post : Int32 → SY → Prop, post r v' → fc_YL post ny (nI jy) v) := by
  intro m
  induction m using Nat.strongRecOn with
  | ind m ih =>
    intro u v h jx jy nx ny h1 h2 h3 h4
    have T := fc_turn hW hWs h
    obtain ⟨k, s, d, p, l, gw, ga, gb, sk, ce, tx, cw, cp, cl, li, lc, ya, eu, ev, hk, _⟩ := h
    subst ev
    obtain ⟨nx, rfl⟩ : ∃ i, nx = i + 1 := ⟨nx - 1, by omega⟩
    obtain ⟨ny, rfl⟩ : ∃ i, ny = i + 1 := ⟨ny - 1, by omega⟩
    rcases T with ⟨v', n, hn, hR, hY⟩ | ⟨r, u', v', hX, hY, ⟨er, n, hn, hR⟩ | hFn⟩
    · obtain ⟨r, u', w', hO, oX, oY⟩ := ih n hn u v' hR jx (jy + 1) (nx + 1) ny (by omega) (by omega) (by omega) (by omega)
      exact ⟨r, u', w', hO, oX, fun post hp => yl_s (by omega) hk hY (oY post hp)⟩
    · subst er
      obtain ⟨r, x', w', hO, oX, oY⟩ := ih n hn u' v' hR (jx + 1) (jy + 1) nx ny (by omega) (by omega) (by omega) (by omega)
      exact ⟨r, x', w', hO, fun post hp => xl_s (by omega) hX (oX post hp), fun post hp => yl_s (by omega) hk hY (oY post hp)⟩
    · obtain ⟨nx, rfl⟩ : ∃ i, nx = i + 1 := ⟨nx - 1, by omega⟩
      obtain ⟨ny, rfl⟩ : ∃ i, ny = i + 1 + 1 := ⟨ny - 2, by omega⟩
      obtain ⟨s, d, p, cc, lo, sk, ce, tx, cw, cp, cl, li, lc, ya, b1, b2, b3, b4, b5, b6, b7, rfl, hE⟩ := hFn
      rcases hE with ⟨rfl, rfl, rfl⟩ | ⟨f, f1, f5, rfl, rfl⟩
      · refine ⟨0, _, _, ⟨s, d, p, 0, lo, 1, 0, sk, ce, tx, cw, cp, cl, li, lc, ya, b1, b2, b3, b4, b5, b6, b7, rfl, rfl⟩, fun post hp => xl_s (by omega) hX (xl_e0 (by omega) hp), fun post hp => yl_s (by omega) hk hY (yl_0 (by omega) (yl_e0 (by omega) hp))⟩
      · refine ⟨nI f, _, _, ⟨s, 0, p, cc, lo, 1, nI f, sk, ce, tx, cw, cp, cl, li, lc, ya, b1, by omega, b3, b4, b5, b6, b7, rfl, rfl⟩, fun post hp => xl_s (by omega) hX (xl_e1 (by omega) ⟨f1, f5⟩ hp), fun post hp => yl_s (by omega) hk hY (yl_e1 (by omega) ⟨f1, f5⟩ hp)⟩
end SM
end
section
/-! the relation, and the methods that need no more -/
def i_Rel (_ : Nat) (u : SX) (v : SY) : Prop :=
  ∃ (h W d s p e : Nat) (c : Nat → Nat) (LL : Nat → Nat) (PP DD : Nat → Nat → Nat) (wc cc lo ov yh : Int32) (yn wa go pa co ca wl sk ce tx cw cp cl li lc le op nn pt oq ya : Nat → Int32),
    u = (nI h, wc, nI W, nI e, nI d, nI p, nI s, cc, lo, (fun j => nI (c j)), (fun j => lw_i16 (yn j)), wa, go, pa, co, ca, wl, sk, ce, tx, cw, cp, cl, li, lc) ∧ v = (nI h, nI W, nI d, cc, lo, nI s, nI p, ov, yh, (fun j => nI (c j)), yn, le, op, nn, pt, ce, sk, oq, cw, ya, cl, li, lc, tx) ∧
    h ≤ 24 ∧ W ≤ 10 ∧ d ≤ 12 ∧ p ≤ 2100 ∧ e ≤ 1 ∧ (∀ t, c t < 34) ∧ (∀ t, c t = 22 → ∃ m : Nat, m < 10 ∧ yn t = nI m) ∧ fc_Sh sk ∧ fc_Sh ce ∧ fc_Sh li ∧ fc_Sh lc ∧
    fc_Words W LL PP DD le op nn pt wl co ca
theorem i_up {k : Nat} {u : SX} {v : SY} (h : i_Rel k u v) : i_Rel (k + 3) u v := h
theorem fn_z0 : (fun _ : Nat => (0 : Int32)) = (fun j : Nat => lw_i16 ((fun _ : Nat => (0 : Int32)) j)) := funext fun _ => by
  show (0 : Int32) = lw_i16 0
  decide +kernel
theorem i_vc0 : wpX_init (fun u => wpY_init (fun v => i_Rel 0 u v)) :=
  ⟨0, 0, 0, 0, 0, 1, fun _ => 0, fun _ => 0, fun _ _ => 0, fun _ _ => 0, 0, 0, 0, 0, 0, fun _ => 0, fun _ => 0, fun _ => 0, fun _ => 0, fun _ => 0, fun _ => 0, fun _ => 0, fun _ => 0, fun _ => 0, fun _ => 0, fun _ => 0, fun _ => 0, fun _ => 0, fun _ => 0, fun _ => 0, fun _ => 0, fun _ => 0, fun _ => 0, fun _ => 0, fun _ => 0, fun _ => 0,
    congrArg (fun g : Nat → Int32 => ((0, 0, 0, 1, 0, 0, 0, 0, 0, (fun _ => 0), g, (fun _ => 0), (fun _ => 0), (fun _ => 0), (fun _ => 0), (fun _ => 0), (fun _ => 0), (fun _ => 0), (fun _ => 0), (fun _ => 0), (fun _ => 0), (fun _ => 0), (fun _ => 0), (fun _ => 0), (fun _ => 0)) : SX)) fn_z0, rfl, by omega, by omega, by omega, by omega, by omega, fun _ => (by decide : (0 : Nat) < 34), fun t z => absurd z (by decide : ¬ (0 : Nat) = 22), fc_Sh_0, fc_Sh_0, fc_Sh_0, fc_Sh_0, fun w hw => absurd hw (Nat.not_lt_zero w)⟩
theorem i_vc_cancel {k : Nat} {u : SX} {v : SY} (I : i_Rel k u v) (hk : k + 3 ≤ 1536) : wpX_cancel (fun r u' => wpY_cancel (fun r' v' => r' = r ∧ i_Rel (k + 3) u' v') v) u := by
  obtain ⟨h, W, d, s, p, e, c, LL, PP, DD, wc, cc, lo, ov, yh, yn, wa, go, pa, co, ca, wl, sk, ce, tx, cw, cp, cl, li, lc, le, op, nn, pt, oq, ya, rfl, rfl, h1, h2, h3, h4, h5, h6, h7, h8, h9, h10, h11, h12⟩ := I
  exact ⟨rfl, 0, W, d, s, p, e, c, LL, PP, DD, wc, cc, lo, ov, yh, yn, wa, go, pa, co, ca, wl, sk, ce, tx, cw, cp, cl, li, lc, le, op, nn, pt, oq, ya, rfl, rfl, by omega, h2, h3, h4, h5, h6, h7, h8, h9, h10, h11, h12⟩
theorem i_vc_forget {k : Nat} {u : SX} {v : SY} (I : i_Rel k u v) (hk : k + 3 ≤ 1536) : wpX_forget (fun r u' => wpY_forget (fun r' v' => r' = r ∧ i_Rel (k + 3) u' v') v) u := by
  have I0 := I
  obtain ⟨h, W, d, s, p, e, c, LL, PP, DD, wc, cc, lo, ov, yh, yn, wa, go, pa, co, ca, wl, sk, ce, tx, cw, cp, cl, li, lc, le, op, nn, pt, oq, ya, rfl, rfl, h1, h2, h3, h4, h5, h6, h7, h8, h9, h10, h11, h12⟩ := I
  by_cases z : W = 0
  · have z' : nI W = 0 := by rw [z]; rfl
    exact br_t z' (br_t z' ⟨rfl, I0⟩)
  · have z' : ¬ nI W = 0 := fn_ne (m := 0) z
    obtain ⟨V, rfl⟩ : ∃ V, W = V + 1 := ⟨W - 1, by omega⟩
    refine br_f z' (nm_r (nI_pred V) (br_f z' (nm_r (nI_pred V) ⟨rfl, ?_⟩)))
    exact ⟨h, V, d, s, p, e, c, LL, PP, DD, wc, cc, lo, ov, yh, yn, wa, go, pa, co, ca, wl, sk, ce, tx, cw, cp, cl, li, lc, le, op, nn, pt, oq, ya, rfl, rfl, h1, by omega, h3, h4, h5, h6, h7, h8, h9, h10, h11, fun w hw => h12 w (by omega)⟩
theorem i_vc_steps {k : Nat} {u : SX} {v : SY} (I : i_Rel k u v) (hk : k + 3 ≤ 1536) : wpX_steps (fun r => wpY_steps (fun r' => r' = r ∧ i_Rel (k + 3) u v) v) u := by
  have I0 := I
  obtain ⟨h, W, d, s, p, e, c, LL, PP, DD, wc, cc, lo, ov, yh, yn, wa, go, pa, co, ca, wl, sk, ce, tx, cw, cp, cl, li, lc, le, op, nn, pt, oq, ya, rfl, rfl, hx⟩ := I
  exact ⟨rfl, I0⟩
theorem i_vc_depth {k : Nat} {u : SX} {v : SY} (I : i_Rel k u v) (hk : k + 3 ≤ 1536) : wpX_depth (fun r => wpY_depth (fun r' => r' = r ∧ i_Rel (k + 3) u v) v) u := by
  have I0 := I
  obtain ⟨h, W, d, s, p, e, c, LL, PP, DD, wc, cc, lo, ov, yh, yn, wa, go, pa, co, ca, wl, sk, ce, tx, cw, cp, cl, li, lc, le, op, nn, pt, oq, ya, rfl, rfl, hx⟩ := I
  exact ⟨rfl, I0⟩
theorem i_vc_printed {k : Nat} {u : SX} {v : SY} (I : i_Rel k u v) (hk : k + 3 ≤ 1536) : wpX_printed (fun r => wpY_printed (fun r' => r' = r ∧ i_Rel (k + 3) u v) v) u := by
  have I0 := I
  obtain ⟨h, W, d, s, p, e, c, LL, PP, DD, wc, cc, lo, ov, yh, yn, wa, go, pa, co, ca, wl, sk, ce, tx, cw, cp, cl, li, lc, le, op, nn, pt, oq, ya, rfl, rfl, hx⟩ := I
  exact ⟨rfl, I0⟩
section RL
variable {nh wc wd cv sd pr st cc lo ov yh : Int32} {ho xn wa go pa co ca wl sk ce tx cw cp cl li lc yn le op nn pt oq ya : Nat → Int32}
/-- in(x, 0, b - 1), and x < 0, b ≤ x: the three cases -/
theorem fr_in {p : Int32 → Prop} {x : Int32} {b : Nat} (hb : b < 2 ^ 30) (f : x < 0 → p 0) (g : nI b ≤ x → p 0) (i : ∀ j, j < b → x = nI j → p 1) : wpY_in p (nh, wd, sd, cc, lo, st, pr, ov, yh, ho, yn, le, op, nn, pt, ce, sk, oq, cw, ya, cl, li, lc, tx) x 0 (nI b - 1) := by
  refine br_c f (fun h0 => ?_)
  obtain ⟨j, hj, rfl⟩ := nI_of h0
  by_cases z : j < b
  · obtain ⟨a, rfl⟩ : ∃ a, b = a + 1 := ⟨b - 1, by omega⟩
    rw [nI_pred]
    exact br_f (nI_nlt (by omega) (by omega)) (i j z rfl)
  · refine br_t ?_ (g (nI_le (by omega) hj))
    cases b with
    | zero =>
      rw [Int32.lt_iff_toInt_lt, nI_toInt hj, show (nI 0 - 1).toInt = -1 from by decide]
      omega
    | succ a =>
      rw [nI_pred]
      exact nI_lt (by omega) hj
theorem i_vc_pick {k : Nat} {u : SX} {v : SY} (I : i_Rel k u v) (hk : k + 3 ≤ 1536) (v1 : Int32) : wpX_pick (fun r => wpY_pick (fun r' => r' = r ∧ i_Rel (k + 3) u v) v v1) u v1 := by
  have I0 := I
  obtain ⟨h, W, d, s, p, e, c, LL, PP, DD, wc, cc, lo, ov, yh, yn, wa, go, pa, co, ca, wl, sk, ce, tx, cw, cp, cl, li, lc, le, op, nn, pt, oq, ya, rfl, rfl, h1, h2, h3, hx⟩ := I
  unfold wpX_pick wpY_pick
  dsimp only
  rcases pk_ix v1 (n := d) (by omega) with z | z | ⟨j, hj, rfl⟩
  · refine br_t z ?_
    exact fr_in (by omega) (fun _ => br_t rfl ⟨rfl, I0⟩) (fun _ => br_t rfl ⟨rfl, I0⟩) (fun j hj e => absurd z (by rw [e]; exact nI_pos (by omega)))
  · have z0 : ¬ v1 < 0 := fun y => Int32.not_lt.mpr z (Int32.lt_of_lt_of_le y (nI_pos' (by omega)))
    refine br_f z0 (br_f (Int32.not_lt.mpr z) ?_)
    exact fr_in (by omega) (fun _ => br_t rfl ⟨rfl, I0⟩) (fun _ => br_t rfl ⟨rfl, I0⟩) (fun j hj e => absurd (nI_lt hj (by omega)) (by rw [← e]; exact Int32.not_lt.mpr z))
  · obtain ⟨a, rfl⟩ : ∃ a, d = a + 1 := ⟨d - 1, by omega⟩
    have e1 : nI (a + 1) - 1 - nI j = nI (a - j) := by rw [nI_pred, pk_sub (by omega)]
    have w : vp_in (nI (a + 1) - 1 - nI j) 12 := by rw [e1]; exact vp_in_nI (by omega) (by omega)
    refine br_f (nI_pos (by omega)) (br_t (nI_lt hj (by omega)) ⟨w, ?_⟩)
    exact fr_in (by omega) (fun y => absurd y (nI_pos (by omega))) (fun y => absurd y (nI_ge hj (by omega))) (fun _ _ _ => br_f fn_10 ⟨w, rfl, I0⟩)
theorem fr_in0 {p : Int32 → Prop} {x : Int32} (b : Nat) (hb : b < 2 ^ 29) (f : x < 0 → p 0) (g : nI (b + 1) ≤ x → p 0) (i : ∀ j, j ≤ b → x = nI j → p 1) : wpY_in p (nh, wd, sd, cc, lo, st, pr, ov, yh, ho, yn, le, op, nn, pt, ce, sk, oq, cw, ya, cl, li, lc, tx) x 0 (nI b) := by
  have H : wpY_in p (nh, wd, sd, cc, lo, st, pr, ov, yh, ho, yn, le, op, nn, pt, ce, sk, oq, cw, ya, cl, li, lc, tx) x 0 (nI (b + 1) - 1) := fr_in (by omega) f g (fun j hj e => i j (by omega) e)
  rw [nI_pred] at H
  exact H
theorem i_vc_cell {k : Nat} {u : SX} {v : SY} (I : i_Rel k u v) (hk : k + 3 ≤ 1536) (v1 : Int32) : wpX_cell (fun r => wpY_cell (fun r' => r' = r ∧ i_Rel (k + 3) u v) v v1) u v1 := by
  have I0 := I
  obtain ⟨h, W, d, s, p, e, c, LL, PP, DD, wc, cc, lo, ov, yh, yn, wa, go, pa, co, ca, wl, sk, ce, tx, cw, cp, cl, li, lc, le, op, nn, pt, oq, ya, rfl, rfl, h1, h2, h3, hx⟩ := I
  unfold wpX_cell wpY_cell
  dsimp only
  rcases pk_ix v1 (n := 16) (by omega) with z | z | ⟨j, hj, rfl⟩
  · refine br_t z ?_
    exact fr_in0 15 (by omega) (fun _ => br_t rfl ⟨rfl, I0⟩) (fun _ => br_t rfl ⟨rfl, I0⟩) (fun j hj e => absurd z (by rw [e]; exact nI_pos (by omega)))
  · have z0 : ¬ v1 < 0 := fun y => Int32.not_lt.mpr z (Int32.lt_of_lt_of_le y (nI_pos' (by omega)))
    refine br_f z0 (br_f (Int32.not_lt.mpr z) ?_)
    exact fr_in0 15 (by omega) (fun _ => br_t rfl ⟨rfl, I0⟩) (fun _ => br_t rfl ⟨rfl, I0⟩) (fun j hj e => absurd (nI_lt (b := 16) (a := j) (by omega) (by omega)) (by rw [← e]; exact Int32.not_lt.mpr z))
  · have w : vp_in (nI j) 16 := vp_in_nI hj (by omega)
    refine br_f (nI_pos (by omega)) (br_t (nI_lt (b := 16) hj (by omega)) ⟨w, ?_⟩)
    exact fr_in0 15 (by omega) (fun y => absurd y (nI_pos (by omega))) (fun y => absurd y (nI_ge (b := 16) hj (by omega))) (fun _ _ _ => br_f fn_10 ⟨w, rfl, I0⟩)
theorem i_vc_text {k : Nat} {u : SX} {v : SY} (I : i_Rel k u v) (hk : k + 3 ≤ 1536) (v1 : Int32) : wpX_text (fun r => wpY_text (fun r' => r' = r ∧ i_Rel (k + 3) u v) v v1) u v1 := by
  have I0 := I
  obtain ⟨h, W, d, s, p, e, c, LL, PP, DD, wc, cc, lo, ov, yh, yn, wa, go, pa, co, ca, wl, sk, ce, tx, cw, cp, cl, li, lc, le, op, nn, pt, oq, ya, rfl, rfl, h1, h2, h3, h4, hx⟩ := I
  unfold wpX_text wpY_text
  dsimp only
  rcases pk_ix v1 (n := 60) (by omega) with z | z | ⟨j, hj, rfl⟩
  · refine br_t z ?_
    exact fr_in0 59 (by omega) (fun _ => br_t rfl ⟨rfl, I0⟩) (fun _ => br_t rfl ⟨rfl, I0⟩) (fun j hj e => absurd z (by rw [e]; exact nI_pos (by omega)))
  · have z0 : ¬ v1 < 0 := fun y => Int32.not_lt.mpr z (Int32.lt_of_lt_of_le y (nI_pos' (by omega)))
    have Y : ∀ r : Int32, r = 0 → wpY_text (fun r' => r' = r ∧ i_Rel (k + 3) (nI h, wc, nI W, nI e, nI d, nI p, nI s, cc, lo, (fun j => nI (c j)), (fun j => lw_i16 (yn j)), wa, go, pa, co, ca, wl, sk, ce, tx, cw, cp, cl, li, lc) (nI h, nI W, nI d, cc, lo, nI s, nI p, ov, yh, (fun j => nI (c j)), yn, le, op, nn, pt, ce, sk, oq, cw, ya, cl, li, lc, tx)) (nI h, nI W, nI d, cc, lo, nI s, nI p, ov, yh, (fun j => nI (c j)), yn, le, op, nn, pt, ce, sk, oq, cw, ya, cl, li, lc, tx) v1 := by
      intro r hr
      subst hr
      unfold wpY_text
      dsimp only
      exact fr_in0 59 (by omega) (fun _ => br_t rfl ⟨rfl, I0⟩) (fun _ => br_t rfl ⟨rfl, I0⟩) (fun j hj e => absurd (nI_lt (b := 60) (a := j) (by omega) (by omega)) (by rw [← e]; exact Int32.not_lt.mpr z))
    refine br_f z0 (br_c (fun _ => Y 0 rfl) (fun _ => br_f (Int32.not_lt.mpr z) (Y 0 rfl)))
  · have w : vp_in (nI j) 60 := vp_in_nI hj (by omega)
    refine br_f (nI_pos (by omega)) (br_c (fun y => ?_) (fun y => br_t (nI_lt (b := 60) hj (by omega)) ⟨w, ?_⟩))
    · exact fr_in0 59 (by omega) (fun y => absurd y (nI_pos (by omega))) (fun y => absurd y (nI_ge (b := 60) hj (by omega))) (fun _ _ _ => br_f fn_10 (br_t y ⟨rfl, I0⟩))
    · exact fr_in0 59 (by omega) (fun y => absurd y (nI_pos (by omega))) (fun y => absurd y (nI_ge (b := 60) hj (by omega))) (fun _ _ _ => br_f fn_10 (br_f y ⟨w, rfl, I0⟩))
end RL
end
section
/-! token, push, setCell, level -/
section TK
variable {nh wc wd cv sd pr st cc lo ov yh : Int32} {ho xn wa go pa co ca wl sk ce tx cw cp cl li lc yn le op nn pt oq ya : Nat → Int32}
theorem xn_0 {p : Int32 → Prop} {x : Int32} (h : x < (-32768) ∨ 32767 < x) (a : p 0) : wpX_isNumber p x := by
  by_cases z : x < (-32768)
  · exact br_t z a
  · exact br_f z (br_t (h.resolve_left z) a)
theorem xn_1 {p : Int32 → Prop} {x : Int32} (h1 : ¬ x < (-32768)) (h2 : ¬ 32767 < x) (a : p 1) : wpX_isNumber p x := br_f h1 (br_f h2 a)
theorem yn_0 {p : Int32 → Prop} {x : Int32} (h : x < (-32768) ∨ 32767 < x) (a : p 0) : wpY_isNumber p (nh, wd, sd, cc, lo, st, pr, ov, yh, ho, yn, le, op, nn, pt, ce, sk, oq, cw, ya, cl, li, lc, tx) x := by
  by_cases z : x < (-32768)
  · exact br_t z ⟨fn_nb0, a⟩
  · exact br_f z (br_t (h.resolve_left z) ⟨fn_nb0, a⟩)
theorem yn_1 {p : Int32 → Prop} {x : Int32} (h1 : ¬ x < (-32768)) (h2 : ¬ 32767 < x) (a : p 1) : wpY_isNumber p (nh, wd, sd, cc, lo, st, pr, ov, yh, ho, yn, le, op, nn, pt, ce, sk, oq, cw, ya, cl, li, lc, tx) x := br_f h1 (br_f h2 ⟨fn_nb1, a⟩)
theorem fn_upm {f : Nat → Int32} {h : Nat} {x : Int32} : upd (fun j => lw_i16 (f j)) h x.toInt16.toInt32 = fun j => lw_i16 (upd f h x j) := by
  funext j
  show (if j = h then x.toInt16.toInt32 else lw_i16 (f j)) = lw_i16 (if j = h then x else f j)
  split <;> rfl
theorem xk_58 {post : Int32 → SX → Prop} {h a : Nat} {x : Int32} {c : Nat → Nat} (hh : h < 24) (ha : a < 34) (H : post (nI (h + 1)) (nI (h + 1), wc, wd, cv, sd, pr, st, cc, lo, (fun j => nI (fc_set c h a j)), (fun j => lw_i16 (upd yn h x j)), wa, go, pa, co, ca, wl, sk, ce, tx, cw, cp, cl, li, lc)) :
    wX_token_58 post (nI a) x (nI h) wc wd cv sd pr st cc lo (fun j => nI (c j)) (fun j => lw_i16 (yn j)) wa go pa co ca wl sk ce tx cw cp cl li lc := by
  have e : (nI h).toNatClampNeg = h := nI_clamp (by omega)
  have w : vp_in (nI h) 24 := vp_in_nI hh (by omega)
  exact ⟨w, nm_r (e' := fun j => nI (fc_set c h a j)) (by rw [e, fn_b (by omega)]; exact fc_set_u c h a) ⟨w, nm_r (e' := fun j => lw_i16 (upd yn h x j)) (by rw [e, pk_vs]; exact fn_upm) (nm_r (nI_1 h) H)⟩⟩
theorem yk_55 {post : Int32 → SY → Prop} {h a : Nat} {x : Int32} {c : Nat → Nat} (hh : h < 24) (H : post (nI (h + 1)) (nI (h + 1), wd, sd, cc, lo, st, pr, ov, yh, (fun j => nI (fc_set c h a j)), upd yn h x, le, op, nn, pt, ce, sk, oq, cw, ya, cl, li, lc, tx)) :
    wY_token_55 post (nI a) x (nI h) wd sd cc lo st pr ov yh (fun j => nI (c j)) yn le op nn pt ce sk oq cw ya cl li lc tx := by
  have e : (nI h).toNatClampNeg = h := nI_clamp (by omega)
  have w : vp_in (nI h) 24 := vp_in_nI hh (by omega)
  exact ⟨w, nm_r (e' := fun j => nI (fc_set c h a j)) (by rw [e]; exact fc_set_u c h a) ⟨w, nm_r (e' := upd yn h x) (by rw [e]) (nm_r (nI_1 h) H)⟩⟩
/-- the walks to the store, and to a refusal -/
theorem xk_go {post : Int32 → SX → Prop} {h a : Nat} {x : Int32} {c : Nat → Nat} (hh : h < 24) (ha : a < 34) (h0 : a = 0 → ¬ x < (-32768) ∧ ¬ 32767 < x) (h22 : a = 22 → ∃ m : Nat, m < 10 ∧ x = nI m)
    (H : post (nI (h + 1)) (nI (h + 1), wc, wd, cv, sd, pr, st, cc, lo, (fun j => nI (fc_set c h a j)), (fun j => lw_i16 (upd yn h x j)), wa, go, pa, co, ca, wl, sk, ce, tx, cw, cp, cl, li, lc)) : wpX_token post (nI h, wc, wd, cv, sd, pr, st, cc, lo, (fun j => nI (c j)), (fun j => lw_i16 (yn j)), wa, go, pa, co, ca, wl, sk, ce, tx, cw, cp, cl, li, lc) (nI a) x := by
  have K := xk_58 (post := post) (yn := yn) (x := x) (c := c) hh ha H
  have K2 : wX_token_39 post (nI a) x (nI h) wc wd cv sd pr st cc lo (fun j => nI (c j)) (fun j => lw_i16 (yn j)) wa go pa co ca wl sk ce tx cw cp cl li lc := by
    refine pk_eq a 22 (fun z => ?_) (fun _ => K)
    obtain ⟨m, hm, rfl⟩ := h22 z
    exact br_f (nI_pos (by omega)) (br_t (nI_lt (b := 10) hm (by decide)) K)
  refine br_t (nI_lt (b := 24) hh (by decide)) (br_f (nI_pos (by omega)) (br_t (nI_le (b := 33) (by omega) (by decide)) (pk_eq a 0 (fun z => ?_) (fun _ => K2))))
  exact xn_1 (h0 z).1 (h0 z).2 (br_f fn_10 K2)
theorem yk_go {post : Int32 → SY → Prop} {h a : Nat} {x : Int32} {c : Nat → Nat} (hh : h < 24) (ha : a < 34) (h0 : a = 0 → ¬ x < (-32768) ∧ ¬ 32767 < x) (h22 : a = 22 → ∃ m : Nat, m < 10 ∧ x = nI m)
    (H : post (nI (h + 1)) (nI (h + 1), wd, sd, cc, lo, st, pr, ov, yh, (fun j => nI (fc_set c h a j)), upd yn h x, le, op, nn, pt, ce, sk, oq, cw, ya, cl, li, lc, tx)) : wpY_token post (nI h, wd, sd, cc, lo, st, pr, ov, yh, (fun j => nI (c j)), yn, le, op, nn, pt, ce, sk, oq, cw, ya, cl, li, lc, tx) (nI a) x := by
  have K := yk_55 (post := post) (yn := yn) (x := x) (c := c) hh H
  have K2 : wY_token_35 post (nI a) x (nI h) wd sd cc lo st pr ov yh (fun j => nI (c j)) yn le op nn pt ce sk oq cw ya cl li lc tx := by
    refine pk_eq a 22 (fun z => ?_) (fun _ => K)
    obtain ⟨m, hm, rfl⟩ := h22 z
    exact yq_in 0 9 (by omega) (by omega) (by omega) (fun _ => br_f fn_10 K) (fun y => absurd y (by omega))
  refine br_f (fn_ne (m := 24) (by omega)) ?_
  refine yq_in 0 33 (by omega) (by omega) (by omega) (fun _ => br_f fn_10 (pk_eq a 0 (fun z => ?_) (fun _ => K2))) (fun y => absurd y (by omega))
  exact yn_1 (h0 z).1 (h0 z).2 (br_f fn_10 K2)
/-- refused: FULL at 24, else BAD -/
theorem xk_no {post : Int32 → SX → Prop} {h : Nat} {y x : Int32} (hh : h < 24) (hr : y < 0 ∨ nI 34 ≤ y ∨ (y = 0 ∧ (x < (-32768) ∨ 32767 < x)) ∨ (y = 22 ∧ (x < 0 ∨ nI 10 ≤ x))) (H : post (-100000) (nI h, wc, wd, cv, sd, pr, st, cc, lo, ho, xn, wa, go, pa, co, ca, wl, sk, ce, tx, cw, cp, cl, li, lc)) : wpX_token post (nI h, wc, wd, cv, sd, pr, st, cc, lo, ho, xn, wa, go, pa, co, ca, wl, sk, ce, tx, cw, cp, cl, li, lc) y x := by
  refine br_t (nI_lt (b := 24) hh (by decide)) ?_
  rcases hr with z | z | ⟨rfl, z⟩ | ⟨rfl, z⟩
  · exact br_t z H
  · have z0 : ¬ y < 0 := fun w => Int32.not_lt.mpr z (Int32.lt_of_lt_of_le w (nI_pos' (by omega)))
    have z1 : ¬ y ≤ 33 := fun w => Int32.not_lt.mpr (Int32.le_trans z w) (by decide)
    exact br_f z0 (br_f z1 H)
  · refine br_f (by decide) (br_t (by decide) (br_t rfl ?_))
    exact xn_0 z (br_t rfl H)
  · refine br_f (by decide) (br_t (by decide) (br_f (by decide) (br_t rfl ?_)))
    by_cases w : x < 0
    · exact br_t w H
    · exact br_f w (br_f (Int32.not_lt.mpr (z.resolve_left w)) H)
theorem yk_no {post : Int32 → SY → Prop} {h : Nat} {y x : Int32} (hh : h < 24) (hr : y < 0 ∨ nI 34 ≤ y ∨ (y = 0 ∧ (x < (-32768) ∨ 32767 < x)) ∨ (y = 22 ∧ (x < 0 ∨ nI 10 ≤ x))) (H : post (-100000) (nI h, wd, sd, cc, lo, st, pr, ov, yh, ho, yn, le, op, nn, pt, ce, sk, oq, cw, ya, cl, li, lc, tx)) : wpY_token post (nI h, wd, sd, cc, lo, st, pr, ov, yh, ho, yn, le, op, nn, pt, ce, sk, oq, cw, ya, cl, li, lc, tx) y x := by
  refine br_f (fn_ne (m := 24) (by omega)) ?_
  rcases hr with z | z | ⟨rfl, z⟩ | ⟨rfl, z⟩
  · exact br_t z (br_t rfl H)
  · refine fr_in0 33 (by omega) (fun _ => br_t rfl H) (fun _ => br_t rfl H) (fun j hj e => absurd (nI_lt (b := 34) (a := j) (by omega) (by omega)) (by rw [← e]; exact Int32.not_lt.mpr z))
  · refine br_f (by decide) (br_f (by decide) (br_f fn_10 (br_t rfl ?_)))
    exact yn_0 z (br_t rfl H)
  · refine br_f (by decide) (br_f (by decide) (br_f fn_10 (br_f (by decide) (br_t rfl ?_))))
    exact fr_in0 9 (by omega) (fun _ => br_t rfl H) (fun _ => br_t rfl H) (fun j hj e => by
      rcases z with z | z
      · exact absurd z (by rw [e]; exact nI_pos (by omega))
      · exact absurd (nI_lt (b := 10) (a := j) (by omega) (by omega)) (by rw [← e]; exact Int32.not_lt.mpr z))
end TK
theorem i_vc_token {k : Nat} {u : SX} {v : SY} (I : i_Rel k u v) (hk : k + 3 ≤ 1536) (v1 : Int32) (v2 : Int32) : wpX_token (fun r u' => wpY_token (fun r' v' => r' = r ∧ i_Rel (k + 3) u' v') v v1 v2) u v1 v2 := by
  have I0 := I
  obtain ⟨h, W, d, s, p, e, c, LL, PP, DD, wc, cc, lo, ov, yh, yn, wa, go, pa, co, ca, wl, sk, ce, tx, cw, cp, cl, li, lc, le, op, nn, pt, oq, ya, rfl, rfl, h1, h2, h3, h4, h5, h6, h7, h8, h9, h10, h11, h12⟩ := I
  by_cases hh : h < 24
  · have NO : (v1 < 0 ∨ nI 34 ≤ v1 ∨ (v1 = 0 ∧ (v2 < (-32768) ∨ 32767 < v2)) ∨ (v1 = 22 ∧ (v2 < 0 ∨ nI 10 ≤ v2))) → wpX_token (fun r u' => wpY_token (fun r' v' => r' = r ∧ i_Rel (k + 3) u' v') (nI h, nI W, nI d, cc, lo, nI s, nI p, ov, yh, (fun j => nI (c j)), yn, le, op, nn, pt, ce, sk, oq, cw, ya, cl, li, lc, tx) v1 v2) (nI h, wc, nI W, nI e, nI d, nI p, nI s, cc, lo, (fun j => nI (c j)), (fun j => lw_i16 (yn j)), wa, go, pa, co, ca, wl, sk, ce, tx, cw, cp, cl, li, lc) v1 v2 :=
      fun hr => xk_no hh hr (yk_no hh hr ⟨rfl, I0⟩)
    rcases pk_ix v1 (n := 34) (by omega) with z | z | ⟨a, ha, rfl⟩
    · exact NO (Or.inl z)
    · exact NO (Or.inr (Or.inl z))
    · by_cases r0 : a = 0 ∧ (v2 < (-32768) ∨ 32767 < v2)
      · exact NO (Or.inr (Or.inr (Or.inl ⟨by rw [r0.1]; rfl, r0.2⟩)))
      by_cases r2 : a = 22 ∧ (v2 < 0 ∨ nI 10 ≤ v2)
      · exact NO (Or.inr (Or.inr (Or.inr ⟨by rw [r2.1]; rfl, r2.2⟩)))
      have g0 : a = 0 → ¬ v2 < (-32768) ∧ ¬ 32767 < v2 := fun z => ⟨fun y => r0 ⟨z, Or.inl y⟩, fun y => r0 ⟨z, Or.inr y⟩⟩
      have g2 : a = 22 → ∃ m : Nat, m < 10 ∧ v2 = nI m := fun z => by
        rcases pk_ix v2 (n := 10) (by omega) with y | y | y
        · exact absurd ⟨z, Or.inl y⟩ r2
        · exact absurd ⟨z, Or.inr y⟩ r2
        · exact y
      refine xk_go hh ha g0 g2 (yk_go hh ha g0 g2 ⟨rfl, ?_⟩)
      refine ⟨h + 1, W, d, s, p, e, fc_set c h a, LL, PP, DD, wc, cc, lo, ov, yh, upd yn h v2, wa, go, pa, co, ca, wl, sk, ce, tx, cw, cp, cl, li, lc, le, op, nn, pt, oq, ya, rfl, rfl, by omega, h2, h3, h4, h5, fun t => ?_, fun t ht => ?_, h8, h9, h10, h11, h12⟩
      · by_cases y : t = h
        · subst y; rw [fc_set_s]; exact ha
        · rw [fc_set_n y]; exact h6 t
      · by_cases y : t = h
        · subst y; rw [fc_set_s] at ht; rw [pk_us]; exact g2 ht
        · rw [fc_set_n y] at ht; rw [pk_un y]; exact h7 t ht
  · have z : h = 24 := by omega
    exact br_f (nI_nlt (b := 24) (by omega) (by omega)) (br_t (by rw [z]; rfl) ⟨rfl, I0⟩)
theorem i_vc_push {k : Nat} {u : SX} {v : SY} (I : i_Rel k u v) (hk : k + 3 ≤ 1536) (v1 : Int32) : wpX_push (fun r u' => wpY_push (fun r' v' => r' = r ∧ i_Rel (k + 3) u' v') v v1) u v1 := by
  have I0 := I
  obtain ⟨h, W, d, s, p, e, c, LL, PP, DD, wc, cc, lo, ov, yh, yn, wa, go, pa, co, ca, wl, sk, ce, tx, cw, cp, cl, li, lc, le, op, nn, pt, oq, ya, rfl, rfl, h1, h2, h3, h4, h5, h6, h7, h8, h9, h10, h11, h12⟩ := I
  unfold wpX_push wpY_push
  dsimp only
  by_cases z : v1 < (-32768) ∨ 32767 < v1
  · exact xn_0 z (br_t rfl (yn_0 z (br_t rfl ⟨rfl, I0⟩)))
  · have z1 : ¬ v1 < (-32768) := fun y => z (Or.inl y)
    have z2 : ¬ 32767 < v1 := fun y => z (Or.inr y)
    refine xn_1 z1 z2 (br_f fn_10 ?_)
    by_cases hd : d < 12
    · refine br_t (nI_lt (b := 12) hd (by decide)) ?_
      refine xp_put hd ?_
      have en := fn_num z1 z2
      have ed : (nI d).toNatClampNeg = d := nI_clamp (by omega)
      refine yn_1 z1 z2 (br_f fn_10 (br_f (fn_ne (m := 12) (by omega)) ⟨vp_in_nI hd (by omega), nm_r (e' := upd sk d (lw_i16 v1)) (by rw [ed, en]) (nm_r (nI_1 d) ⟨rfl, ?_⟩)⟩))
      exact ⟨h, W, d + 1, s, p, e, c, LL, PP, DD, wc, cc, lo, ov, yh, yn, wa, go, pa, co, ca, wl, upd sk d (lw_i16 v1), ce, tx, cw, cp, cl, li, lc, le, op, nn, pt, oq, ya, rfl, rfl, h1, h2, by omega, h4, h5, h6, h7, fc_Sh_u h8 (fn_ii v1), h9, h10, h11, h12⟩
    · have y : d = 12 := by omega
      refine br_f (nI_nlt (b := 12) (by omega) (by omega)) ?_
      exact yn_1 z1 z2 (br_f fn_10 (br_t (by rw [y]; rfl) ⟨rfl, I0⟩))
theorem i_vc_setCell {k : Nat} {u : SX} {v : SY} (I : i_Rel k u v) (hk : k + 3 ≤ 1536) (v1 : Int32) (v2 : Int32) : wpX_setCell (fun r u' => wpY_setCell (fun r' v' => r' = r ∧ i_Rel (k + 3) u' v') v v1 v2) u v1 v2 := by
  have I0 := I
  obtain ⟨h, W, d, s, p, e, c, LL, PP, DD, wc, cc, lo, ov, yh, yn, wa, go, pa, co, ca, wl, sk, ce, tx, cw, cp, cl, li, lc, le, op, nn, pt, oq, ya, rfl, rfl, h1, h2, h3, h4, h5, h6, h7, h8, h9, h10, h11, h12⟩ := I
  unfold wpX_setCell wpY_setCell
  dsimp only
  rcases pk_ix v1 (n := 16) (by omega) with z | z | ⟨j, hj, rfl⟩
  · refine br_t z ?_
    exact fr_in0 15 (by omega) (fun _ => br_t rfl ⟨rfl, I0⟩) (fun _ => br_t rfl ⟨rfl, I0⟩) (fun j hj e => absurd z (by rw [e]; exact nI_pos (by omega)))
  · have z0 : ¬ v1 < 0 := fun y => Int32.not_lt.mpr z (Int32.lt_of_lt_of_le y (nI_pos' (by omega)))
    refine br_f z0 (br_t z ?_)
    exact fr_in0 15 (by omega) (fun _ => br_t rfl ⟨rfl, I0⟩) (fun _ => br_t rfl ⟨rfl, I0⟩) (fun j hj e => absurd (nI_lt (b := 16) (a := j) (by omega) (by omega)) (by rw [← e]; exact Int32.not_lt.mpr z))
  · have w : vp_in (nI j) 16 := vp_in_nI hj (by omega)
    have ej : (nI j).toNatClampNeg = j := nI_clamp (by omega)
    refine br_f (nI_pos (by omega)) (br_f (nI_ge (b := 16) hj (by decide)) ?_)
    by_cases z : v2 < (-32768) ∨ 32767 < v2
    · refine xn_0 z (br_t rfl ?_)
      exact fr_in0 15 (by omega) (fun y => absurd y (nI_pos (by omega))) (fun y => absurd y (nI_ge (b := 16) hj (by omega))) (fun _ _ _ => br_f fn_10 (yn_0 z (br_t rfl ⟨rfl, I0⟩)))
    · have z1 : ¬ v2 < (-32768) := fun y => z (Or.inl y)
      have z2 : ¬ 32767 < v2 := fun y => z (Or.inr y)
      have en := fn_num z1 z2
      refine xn_1 z1 z2 (br_f fn_10 ⟨w, nm_r (e' := upd ce j v2) (by rw [ej, fn_vi en]) ?_⟩)
      refine fr_in0 15 (by omega) (fun y => absurd y (nI_pos (by omega))) (fun y => absurd y (nI_ge (b := 16) hj (by omega))) (fun _ _ _ => br_f fn_10 (yn_1 z1 z2 (br_f fn_10 ⟨w, nm_r (e' := upd ce j v2) (by rw [ej]) ⟨rfl, ?_⟩⟩)))
      exact ⟨h, W, d, s, p, e, c, LL, PP, DD, wc, cc, lo, ov, yh, yn, wa, go, pa, co, ca, wl, sk, upd ce j v2, tx, cw, cp, cl, li, lc, le, op, nn, pt, oq, ya, rfl, rfl, h1, h2, h3, h4, h5, h6, h7, h8, fc_Sh_u h9 en, h10, h11, h12⟩
theorem i_vc_level {k : Nat} {u : SX} {v : SY} (I : i_Rel k u v) (hk : k + 3 ≤ 1536) (v1 : Int32) : wpX_level (fun r u' => wpY_level (fun r' => r' = r ∧ i_Rel (k + 3) u' v) v v1) u v1 := by
  have I0 := I
  obtain ⟨h, W, d, s, p, e, c, LL, PP, DD, wc, cc, lo, ov, yh, yn, wa, go, pa, co, ca, wl, sk, ce, tx, cw, cp, cl, li, lc, le, op, nn, pt, oq, ya, rfl, rfl, h1, h2, h3, h4, h5, h6, h7, h8, h9, h10, h11, h12⟩ := I
  unfold wpX_level wpY_level
  dsimp only
  rcases pk_ix v1 (n := 2) (by omega) with z | z | ⟨j, hj, rfl⟩
  · refine br_t z ?_
    exact fr_in0 1 (by omega) (fun _ => ⟨fn_nb0, rfl, I0⟩) (fun _ => ⟨fn_nb0, rfl, I0⟩) (fun j hj e => absurd z (by rw [e]; exact nI_pos (by omega)))
  · have z0 : ¬ v1 < 0 := fun y => Int32.not_lt.mpr z (Int32.lt_of_lt_of_le y (nI_pos' (by omega)))
    have z1 : ¬ v1 ≤ 1 := fun w => Int32.not_lt.mpr (Int32.le_trans z w) (by decide)
    refine br_f z0 (br_f z1 ?_)
    exact fr_in0 1 (by omega) (fun _ => ⟨fn_nb0, rfl, I0⟩) (fun _ => ⟨fn_nb0, rfl, I0⟩) (fun j hj e => absurd (nI_lt (b := 2) (a := j) (by omega) (by omega)) (by rw [← e]; exact Int32.not_lt.mpr z))
  · refine br_f (nI_pos (by omega)) (br_t (nI_le (b := 1) (by omega) (by decide)) ?_)
    refine fr_in0 1 (by omega) (fun y => absurd y (nI_pos (by omega))) (fun y => absurd y (nI_ge (b := 2) hj (by omega))) (fun _ _ _ => ⟨fn_nb1, rfl, ?_⟩)
    exact ⟨h, W, d, s, p, j, c, LL, PP, DD, wc, cc, lo, ov, yh, yn, wa, go, pa, co, ca, wl, sk, ce, tx, cw, cp, cl, li, lc, le, op, nn, pt, oq, ya, rfl, rfl, h1, h2, h3, h4, by omega, h6, h7, h8, h9, h10, h11, h12⟩
end
section
/-! define: the parts, in lockstep -/
section DF
variable {nh wc wd cv sd pr st cc lo ov yh : Int32} {ho xn wa go pa co ca wl sk ce tx cw cp cl li lc yn le op nn pt oq ya : Nat → Int32}
variable {c : Nat → Nat} {W h i j b : Nat} {S T : List (Nat × Nat)} {ptz : Nat → Int32}
def fc_ends (a b : Nat) : Prop := (a = 24 ∧ b = 23) ∨ (a = 25 ∧ (b = 23 ∨ b = 24)) ∨ ((a = 27 ∨ a = 28) ∧ b = 26) ∨ (a = 29 ∧ b = 28) ∨ (a = 31 ∧ b = 30)
def fc_cl (a : Nat) : Prop := a = 24 ∨ a = 25 ∨ a = 27 ∨ a = 28 ∨ a = 29 ∨ a = 31
theorem ye_1 {p : Int32 → Prop} {a b : Nat} (h : fc_ends a b) (H : p 1) : wpY_ends p (nh, wd, sd, cc, lo, st, pr, ov, yh, ho, yn, le, op, nn, pt, ce, sk, oq, cw, ya, cl, li, lc, tx) (nI a) (nI b) := by
  unfold fc_ends at h
  rcases h with ⟨rfl, rfl⟩ | ⟨rfl, rfl | rfl⟩ | ⟨rfl | rfl, rfl⟩ | ⟨rfl, rfl⟩ | ⟨rfl, rfl⟩
  · exact br_t rfl (br_t rfl H)
  · exact br_f (by decide) (br_t rfl (br_t rfl H))
  · exact br_f (by decide) (br_t rfl (br_f (by decide) (br_t rfl H)))
  · exact br_f (by decide) (br_f (by decide) (br_t rfl (br_t rfl H)))
  · exact br_f (by decide) (br_f (by decide) (br_f (by decide) (br_t rfl (br_t rfl H))))
  · exact br_f (by decide) (br_f (by decide) (br_f (by decide) (br_f (by decide) (br_t rfl (br_t rfl H)))))
  · exact br_f (by decide) (br_f (by decide) (br_f (by decide) (br_f (by decide) (br_f (by decide) (br_t rfl H)))))
theorem ye_0 {p : Int32 → Prop} {a b : Nat} (ha : fc_cl a) (hb : b < 34) (h : ¬ fc_ends a b) (H : p 0) : wpY_ends p (nh, wd, sd, cc, lo, st, pr, ov, yh, ho, yn, le, op, nn, pt, ce, sk, oq, cw, ya, cl, li, lc, tx) (nI a) (nI b) := by
  unfold fc_ends at h
  unfold fc_cl at ha
  rcases ha with rfl | rfl | rfl | rfl | rfl | rfl
  · exact br_t rfl (br_f (fn_ne (m := 23) (by omega)) H)
  · exact br_f (by decide) (br_t rfl (br_f (fn_ne (m := 23) (by omega)) (br_f (fn_ne (m := 24) (by omega)) H)))
  · exact br_f (by decide) (br_f (by decide) (br_t rfl (br_f (fn_ne (m := 26) (by omega)) H)))
  · exact br_f (by decide) (br_f (by decide) (br_f (by decide) (br_t rfl (br_f (fn_ne (m := 26) (by omega)) H))))
  · exact br_f (by decide) (br_f (by decide) (br_f (by decide) (br_f (by decide) (br_t rfl (br_f (fn_ne (m := 28) (by omega)) H)))))
  · exact br_f (by decide) (br_f (by decide) (br_f (by decide) (br_f (by decide) (br_f (by decide) (br_f (fn_ne (m := 30) (by omega)) H)))))
/-- X's look at a token that ends something: z is the op of the latest one begun, or -1 -/
theorem xf_e1 {p : Int32 → Prop} {a b : Nat} (h : fc_ends a b) (hi : i < 24) (hc : c i = a) (H : p 1) : wX_fits_27 p (nI i) (nI b) nh wc wd cv sd pr st cc lo (fun j => nI (c j)) xn wa go pa co ca wl sk ce tx cw cp cl li lc := by
  unfold fc_ends at h
  have e : (nI i).toNatClampNeg = i := nI_clamp (by omega)
  refine ⟨vp_in_nI hi (by omega), nm_r (e' := nI a) (by rw [e]; exact congrArg nI hc) ?_⟩
  rcases h with ⟨rfl, rfl⟩ | ⟨rfl, rfl | rfl⟩ | ⟨rfl | rfl, rfl⟩ | ⟨rfl, rfl⟩ | ⟨rfl, rfl⟩
  · exact br_f (by decide) (br_f (by decide) (br_f (by decide) (br_f (by decide) (br_t rfl (br_t rfl H)))))
  · exact br_f (by decide) (br_f (by decide) (br_f (by decide) (br_f (by decide) (br_f (by decide) (br_t rfl (br_t rfl H))))))
  · exact br_f (by decide) (br_f (by decide) (br_f (by decide) (br_f (by decide) (br_f (by decide) (br_t rfl (br_f (by decide) (br_t rfl H)))))))
  · exact br_f (by decide) (br_f (by decide) (br_f (by decide) (br_f (by decide) (br_f (by decide) (br_f (by decide) (br_f (by decide) (br_t rfl (br_t rfl H))))))))
  · exact br_f (by decide) (br_f (by decide) (br_f (by decide) (br_f (by decide) (br_f (by decide) (br_f (by decide) (br_f (by decide) (br_f (by decide) (br_t rfl (br_t rfl H)))))))))
  · exact br_f (by decide) (br_f (by decide) (br_f (by decide) (br_f (by decide) (br_f (by decide) (br_f (by decide) (br_f (by decide) (br_f (by decide) (br_f (by decide) (br_t rfl (br_t rfl H))))))))))
  · exact br_f (by decide) (br_f (by decide) (br_f (by decide) (br_f (by decide) (br_f (by decide) (br_f (by decide) (br_f (by decide) (br_f (by decide) (br_f (by decide) (br_f (by decide) (br_f (by decide) (br_t rfl (br_t rfl H))))))))))))
theorem xf_e0 {p : Int32 → Prop} {a : Nat} {z : Int32} (ha : fc_cl a) (hz : (a = 24 → ¬ z = 23) ∧ (a = 25 → ¬ z = 23 ∧ ¬ z = 24) ∧ (a = 27 ∨ a = 28 → ¬ z = 26) ∧ (a = 29 → ¬ z = 28) ∧ (a = 31 → ¬ z = 30)) (hi : i < 24) (hc : c i = a) (H : p 0) : wX_fits_27 p (nI i) z nh wc wd cv sd pr st cc lo (fun j => nI (c j)) xn wa go pa co ca wl sk ce tx cw cp cl li lc := by
  unfold fc_cl at ha
  obtain ⟨z1, z2, z3, z4, z5⟩ := hz
  have e : (nI i).toNatClampNeg = i := nI_clamp (by omega)
  refine ⟨vp_in_nI hi (by omega), nm_r (e' := nI a) (by rw [e]; exact congrArg nI hc) ?_⟩
  rcases ha with rfl | rfl | rfl | rfl | rfl | rfl
  · exact br_f (by decide) (br_f (by decide) (br_f (by decide) (br_f (by decide) (br_t rfl (br_f (z1 rfl) H)))))
  · exact br_f (by decide) (br_f (by decide) (br_f (by decide) (br_f (by decide) (br_f (by decide) (br_t rfl (br_f (z2 rfl).1 (br_f (z2 rfl).2 H)))))))
  · exact br_f (by decide) (br_f (by decide) (br_f (by decide) (br_f (by decide) (br_f (by decide) (br_f (by decide) (br_f (by decide) (br_t rfl (br_f (z3 (Or.inl rfl)) H))))))))
  · exact br_f (by decide) (br_f (by decide) (br_f (by decide) (br_f (by decide) (br_f (by decide) (br_f (by decide) (br_f (by decide) (br_f (by decide) (br_t rfl (br_f (z3 (Or.inr rfl)) H)))))))))
  · exact br_f (by decide) (br_f (by decide) (br_f (by decide) (br_f (by decide) (br_f (by decide) (br_f (by decide) (br_f (by decide) (br_f (by decide) (br_f (by decide) (br_t rfl (br_f (z4 rfl) H))))))))))
  · exact br_f (by decide) (br_f (by decide) (br_f (by decide) (br_f (by decide) (br_f (by decide) (br_f (by decide) (br_f (by decide) (br_f (by decide) (br_f (by decide) (br_f (by decide) (br_f (by decide) (br_t rfl (br_f (z5 rfl) H))))))))))))
theorem xf_pl {p : Int32 → Prop} {z : Int32} (hi : i < 24) (h34 : c i < 34) (hc : c i < 22 ∨ c i = 33 ∨ c i = 23 ∨ c i = 26 ∨ c i = 30) (H : p 1) : wX_fits_27 p (nI i) z nh wc wd cv sd pr st cc lo (fun j => nI (c j)) xn wa go pa co ca wl sk ce tx cw cp cl li lc := by
  have e : (nI i).toNatClampNeg = i := nI_clamp (by omega)
  refine ⟨vp_in_nI hi (by omega), nm_r (e' := nI (c i)) (by rw [e]) ?_⟩
  rcases hc with a | a | a | a | a
  · exact br_t (nI_lt (b := 22) a (by decide)) H
  · rw [a]; exact br_f (by decide) (br_t (by decide) H)
  · rw [a]; exact br_f (by decide) (br_f (by decide) (br_f (by decide) (br_t rfl (H))))
  · rw [a]; exact br_f (by decide) (br_f (by decide) (br_f (by decide) (br_f (by decide) (br_f (by decide) (br_f (by decide) (br_t rfl (H)))))))
  · rw [a]; exact br_f (by decide) (br_f (by decide) (br_f (by decide) (br_f (by decide) (br_f (by decide) (br_f (by decide) (br_f (by decide) (br_f (by decide) (br_f (by decide) (br_f (by decide) (br_t rfl (H)))))))))))
theorem xf_22 {p : Int32 → Prop} {z : Int32} (hi : i < 24) (hc : c i = 22) (H : (nI W < lw_i16 (yn i) → p 0) ∧ (¬ nI W < lw_i16 (yn i) → p 1)) : wX_fits_27 p (nI i) z nh wc (nI W) cv sd pr st cc lo (fun j => nI (c j)) (fun j => lw_i16 (yn j)) wa go pa co ca wl sk ce tx cw cp cl li lc := by
  have e : (nI i).toNatClampNeg = i := nI_clamp (by omega)
  refine ⟨vp_in_nI hi (by omega), nm_r (e' := nI 22) (by rw [e]; exact congrArg nI hc) ?_⟩
  refine br_f (by decide) (br_f (by decide) (br_t rfl (⟨vp_in_nI hi (by omega), ?_⟩)))
  rw [e]
  exact H
theorem xf_32 {p : Int32 → Prop} {z : Int32} (hi : i < 24) (hc : c i = 32) (H : wpX_isInsideLoop (fun r => narrow .boolean (.int r) = .int r ∧ p r) (nh, wc, wd, cv, sd, pr, st, cc, lo, (fun j => nI (c j)), xn, wa, go, pa, co, ca, wl, sk, ce, tx, cw, cp, cl, li, lc)) : wX_fits_27 p (nI i) z nh wc wd cv sd pr st cc lo (fun j => nI (c j)) xn wa go pa co ca wl sk ce tx cw cp cl li lc := by
  have e : (nI i).toNatClampNeg = i := nI_clamp (by omega)
  refine ⟨vp_in_nI hi (by omega), nm_r (e' := nI 32) (by rw [e]; exact congrArg nI hc) ?_⟩
  exact br_f (by decide) (br_f (by decide) (br_f (by decide) (br_f (by decide) (br_f (by decide) (br_f (by decide) (br_f (by decide) (br_f (by decide) (br_f (by decide) (br_f (by decide) (br_f (by decide) (br_f (by decide) (br_t rfl (H)))))))))))))
/-- X's fits, by what has been begun -/
theorem xf_nil {p : Int32 → Prop} (H : wX_fits_27 p (nI i) (-1) nh (nI 0) wd cv sd pr st cc lo (fun j => nI (c j)) xn wa go pa co ca wl sk ce tx cw cp cl li lc) : wpX_fits p (nh, nI 0, wd, cv, sd, pr, st, cc, lo, (fun j => nI (c j)), xn, wa, go, pa, co, ca, wl, sk, ce, tx, cw, cp, cl, li, lc) (nI i) := br_t (by decide) H
theorem xf_cons {p : Int32 → Prop} {n : Nat} (hn : n < 24) (hj : j < 24) (e : wa n = nI j) (H : wX_fits_27 p (nI i) (nI (c j)) nh (nI (n + 1)) wd cv sd pr st cc lo (fun j => nI (c j)) xn wa go pa co ca wl sk ce tx cw cp cl li lc) : wpX_fits p (nh, nI (n + 1), wd, cv, sd, pr, st, cc, lo, (fun j => nI (c j)), xn, wa, go, pa, co, ca, wl, sk, ce, tx, cw, cp, cl, li, lc) (nI i) := by
  have e1 : (nI (n + 1) - 1).toNatClampNeg = n := by rw [nI_pred]; exact nI_clamp (by omega)
  have w1 : vp_in (nI (n + 1) - 1) 24 := by rw [nI_pred]; exact vp_in_nI hn (by omega)
  refine br_f (nI_nle (by omega) (by omega)) ⟨w1, ?_⟩
  rw [e1, e]
  refine ⟨vp_in_nI hj (by omega), ?_⟩
  rw [nI_clamp (by omega)]
  exact H
/-- the scans for a loop -/
theorem xi_0 {p : Int32 → Prop} {n : Nat} (hn : n ≤ 24) (H : ∀ k, k < n → ∃ j, j < 24 ∧ wa k = nI j ∧ c j ≠ 30 ∧ c j < 34) (hp : p 0) : ∀ (m k f : Nat), k + m = n → m < f → wX_isInsideLoop_2 p nh (nI n) wd cv sd pr st cc lo (fun j => nI (c j)) xn wa go pa co ca wl sk ce tx cw cp cl li lc f (nI k) := by
  intro m
  induction m with
  | zero =>
    intro k f hk hf
    obtain ⟨f, rfl⟩ : ∃ g, f = g + 1 := ⟨f - 1, by omega⟩
    rw [wX_isInsideLoop_2]
    exact br_t (nI_le (by omega) (by omega)) hp
  | succ m ih =>
    intro k f hk hf
    obtain ⟨f, rfl⟩ : ∃ g, f = g + 1 := ⟨f - 1, by omega⟩
    obtain ⟨j, j1, j2, j3, j4⟩ := H k (by omega)
    rw [wX_isInsideLoop_2]
    refine br_f (nI_ge (by omega) (by omega)) ⟨vp_in_nI (by omega) (by omega), ?_⟩
    rw [show (nI k).toNatClampNeg = k from nI_clamp (by omega), j2, show (nI j).toNatClampNeg = j from nI_clamp (by omega)]
    exact ⟨vp_in_nI j1 (by omega), br_f (fn_ne (m := 30) j3) (nm_r (nI_1 k) (ih (k + 1) f (by omega) (by omega)))⟩
theorem xi_1 {p : Int32 → Prop} {n k0 j0 : Nat} (hn : n ≤ 24) (H : ∀ k, k < n → ∃ j, j < 24 ∧ wa k = nI j ∧ c j < 34) (h0 : k0 < n) (e0 : wa k0 = nI j0) (hj0 : j0 < 24) (c0 : c j0 = 30) (hp : p 1) :
    ∀ (m k f : Nat), k + m = k0 → m < f → wX_isInsideLoop_2 p nh (nI n) wd cv sd pr st cc lo (fun j => nI (c j)) xn wa go pa co ca wl sk ce tx cw cp cl li lc f (nI k) := by
  intro m
  induction m with
  | zero =>
    intro k f hk hf
    obtain ⟨f, rfl⟩ : ∃ g, f = g + 1 := ⟨f - 1, by omega⟩
    obtain rfl : k = k0 := by omega
    rw [wX_isInsideLoop_2]
    refine br_f (nI_ge (by omega) (by omega)) ⟨vp_in_nI (by omega) (by omega), ?_⟩
    rw [show (nI k).toNatClampNeg = k from nI_clamp (by omega), e0, show (nI j0).toNatClampNeg = j0 from nI_clamp (by omega)]
    exact ⟨vp_in_nI hj0 (by omega), br_t (congrArg nI c0) hp⟩
  | succ m ih =>
    intro k f hk hf
    obtain ⟨f, rfl⟩ : ∃ g, f = g + 1 := ⟨f - 1, by omega⟩
    obtain ⟨j, j1, j2, j4⟩ := H k (by omega)
    rw [wX_isInsideLoop_2]
    refine br_f (nI_ge (by omega) (by omega)) ⟨vp_in_nI (by omega) (by omega), ?_⟩
    rw [show (nI k).toNatClampNeg = k from nI_clamp (by omega), j2, show (nI j).toNatClampNeg = j from nI_clamp (by omega)]
    exact ⟨vp_in_nI j1 (by omega), br_c (fun _ => hp) (fun _ => nm_r (nI_1 k) (ih (k + 1) f (by omega) (by omega)))⟩
section YF
variable {post : Int32 → SY → Prop} {J : Int32 → Int32 → Int32 → Int32 → Int32 → Int32 → Int32 → Int32 → Int32 → Int32 → Int32 → (Nat → Int32) → (Nat → Int32) → (Nat → Int32) → (Nat → Int32) → (Nat → Int32) → (Nat → Int32) → (Nat → Int32) → (Nat → Int32) → (Nat → Int32) → (Nat → Int32) → (Nat → Int32) → (Nat → Int32) → (Nat → Int32) → (Nat → Int32) → (Nat → Int32) → Prop}
/-- what Y's scan asks at its end -/
def fc_E (post : Int32 → SY → Prop) (R : Prop) (v : SY) (a : Nat) (f : Int32) : Prop := (nI a = 32 → (f = 0 → post 0 v) ∧ (¬ f = 0 → R)) ∧ (¬ nI a = 32 → R)
theorem yi_0 {n a : Nat} {x2 x3 : Int32} (hn : n ≤ 24) (H : ∀ k, k < n → ∃ j, j < 24 ∧ oq k = nI j ∧ c j ≠ 30 ∧ c j < 34) (hE : fc_E post (wY_fit_78 post J (nI n) x2 x3 (nI a) nh wd sd cc lo st pr ov yh (fun j => nI (c j)) yn le op nn pt ce sk oq cw ya cl li lc tx) (nh, wd, sd, cc, lo, st, pr, ov, yh, (fun j => nI (c j)), yn, le, op, nn, pt, ce, sk, oq, cw, ya, cl, li, lc, tx) a 0) :
    ∀ (m k f : Nat), k + m = n → m < f → wY_fit_34 post J (nI n) x2 x3 (nI a) nh wd sd cc lo st pr ov yh (fun j => nI (c j)) yn le op nn pt ce sk oq cw ya cl li lc tx f 0 (nI k) := by
  intro m
  induction m with
  | zero =>
    intro k f hk hf
    obtain ⟨f, rfl⟩ : ∃ g, f = g + 1 := ⟨f - 1, by omega⟩
    rw [wY_fit_34]
    exact br_t (nI_le (by omega) (by omega)) hE
  | succ m ih =>
    intro k f hk hf
    obtain ⟨f, rfl⟩ : ∃ g, f = g + 1 := ⟨f - 1, by omega⟩
    obtain ⟨j, j1, j2, j3, j4⟩ := H k (by omega)
    rw [wY_fit_34]
    refine br_f (nI_ge (by omega) (by omega)) ⟨vp_in_nI (by omega) (by omega), ?_⟩
    rw [show (nI k).toNatClampNeg = k from nI_clamp (by omega), j2, show (nI j).toNatClampNeg = j from nI_clamp (by omega)]
    exact ⟨vp_in_nI j1 (by omega), br_f (fn_ne (m := 30) j3) (nm_r (nI_1 k) (ih (k + 1) f (by omega) (by omega)))⟩
theorem yi_1 {n a k0 j0 : Nat} {x2 x3 : Int32} (hn : n ≤ 24) (H : ∀ k, k < n → ∃ j, j < 24 ∧ oq k = nI j ∧ c j < 34) (h0 : k0 < n) (e0 : oq k0 = nI j0) (hj0 : j0 < 24) (c0 : c j0 = 30) (hE : fc_E post (wY_fit_78 post J (nI n) x2 x3 (nI a) nh wd sd cc lo st pr ov yh (fun j => nI (c j)) yn le op nn pt ce sk oq cw ya cl li lc tx) (nh, wd, sd, cc, lo, st, pr, ov, yh, (fun j => nI (c j)), yn, le, op, nn, pt, ce, sk, oq, cw, ya, cl, li, lc, tx) a 1) :
    ∀ (m k f : Nat) (z : Int32), k + m = n → m < f → (z = 1 ∨ (z = 0 ∧ k ≤ k0)) → wY_fit_34 post J (nI n) x2 x3 (nI a) nh wd sd cc lo st pr ov yh (fun j => nI (c j)) yn le op nn pt ce sk oq cw ya cl li lc tx f z (nI k) := by
  intro m
  induction m with
  | zero =>
    intro k f z hk hf hz
    obtain ⟨f, rfl⟩ : ∃ g, f = g + 1 := ⟨f - 1, by omega⟩
    have z1 : z = 1 := by
      rcases hz with y | ⟨_, y⟩
      · exact y
      · omega
    subst z1
    rw [wY_fit_34]
    exact br_t (nI_le (by omega) (by omega)) hE
  | succ m ih =>
    intro k f z hk hf hz
    obtain ⟨f, rfl⟩ : ∃ g, f = g + 1 := ⟨f - 1, by omega⟩
    obtain ⟨j, j1, j2, j4⟩ := H k (by omega)
    rw [wY_fit_34]
    refine br_f (nI_ge (by omega) (by omega)) ⟨vp_in_nI (by omega) (by omega), ?_⟩
    rw [show (nI k).toNatClampNeg = k from nI_clamp (by omega), j2, show (nI j).toNatClampNeg = j from nI_clamp (by omega)]
    refine ⟨vp_in_nI j1 (by omega), br_c (fun _ => nm_r (nI_1 k) (ih (k + 1) f 1 (by omega) (by omega) (Or.inl rfl))) (fun y => nm_r (nI_1 k) (ih (k + 1) f z (by omega) (by omega) ?_))⟩
    rcases hz with w | ⟨w, w2⟩
    · exact Or.inl w
    · refine Or.inr ⟨w, ?_⟩
      by_cases e : k = k0
      · subst e
        have ej : j = j0 := (nI_eq (by omega) (by omega)).mp (j2.symm.trans e0)
        subst ej
        exact absurd (congrArg nI c0) y
      · omega
/-- the ways behind the scan -/
theorem y_252 {n : Nat} {x2 : Int32} (hn : n < 24) (H : J (nI (n + 1)) (nI (i + 1)) nh wd sd cc lo st pr ov yh ho yn le op nn pt ce sk (upd oq n (nI i)) cw ya cl li lc tx) : wY_fit_252 post J (nI n) x2 (nI i) nh wd sd cc lo st pr ov yh ho yn le op nn pt ce sk oq cw ya cl li lc tx := by
  have e : (nI n).toNatClampNeg = n := nI_clamp (by omega)
  exact ⟨vp_in_nI hn (by omega), nm_r (e' := upd oq n (nI i)) (by rw [e]) (nm_r (nI_1 n) (nm_r (nI_1 i) H))⟩
theorem y_207j {a : Nat} {x1 x2 : Int32} (ha : a < 34) (h : a ≠ 23 ∧ a ≠ 24 ∧ a ≠ 26 ∧ a ≠ 30 ∧ a ≠ 28) (H : J x1 (nI (i + 1)) nh wd sd cc lo st pr ov yh ho yn le op nn pt ce sk oq cw ya cl li lc tx) : wY_fit_207 post J x1 x2 (nI i) (nI a) nh wd sd cc lo st pr ov yh ho yn le op nn pt ce sk oq cw ya cl li lc tx :=
  br_f (fn_ne (m := 23) h.1) (br_f (fn_ne (m := 24) h.2.1) (br_f (fn_ne (m := 26) h.2.2.1) (br_f (fn_ne (m := 30) h.2.2.2.1) (br_f (fn_ne (m := 28) h.2.2.2.2) (nm_r (nI_1 i) H)))))
theorem y_207p {a n : Nat} {x2 : Int32} (h : a = 23 ∨ a = 24 ∨ a = 26 ∨ a = 30) (hn : n < 24) (H : J (nI (n + 1)) (nI (i + 1)) nh wd sd cc lo st pr ov yh ho yn le op nn pt ce sk (upd oq n (nI i)) cw ya cl li lc tx) : wY_fit_207 post J (nI n) x2 (nI i) (nI a) nh wd sd cc lo st pr ov yh ho yn le op nn pt ce sk oq cw ya cl li lc tx := by
  have K : wY_fit_242 post J (nI n) x2 (nI i) (nI a) nh wd sd cc lo st pr ov yh ho yn le op nn pt ce sk oq cw ya cl li lc tx := br_f (fn_ne (m := 28) (by omega)) (y_252 hn H)
  rcases h with rfl | rfl | rfl | rfl
  · exact br_t rfl K
  · exact br_f (by decide) (br_t rfl K)
  · exact br_f (by decide) (br_f (by decide) (br_t rfl K))
  · exact br_f (by decide) (br_f (by decide) (br_f (by decide) (br_t rfl K)))
theorem y_207w {n : Nat} {x2 : Int32} (hn : n + 1 < 24) (H : J (nI (n + 2)) (nI (i + 1)) nh wd sd cc lo st pr ov yh ho yn le op nn pt ce sk (upd oq (n + 1) (nI i)) cw ya cl li lc tx) : wY_fit_207 post J (nI n) x2 (nI i) (nI 28) nh wd sd cc lo st pr ov yh ho yn le op nn pt ce sk oq cw ya cl li lc tx := by
  refine br_f (by decide) (br_f (by decide) (br_f (by decide) (br_f (by decide) (br_t rfl ?_))))
  exact br_t rfl (nm_r (nI_1 n) (y_252 hn H))
theorem y_join1 {q : SY → Prop} (ha : c i = 24 ∨ c i = 25 ∨ c i = 29) (hi : i < 24) (hj : j < 24) (hW : W < 10) (H : q (nh, wd, sd, cc, lo, st, pr, ov, yh, (fun j => nI (c j)), yn, le, op, nn, upd pt (24 * W + j) (nI i), ce, sk, oq, cw, ya, cl, li, lc, tx)) : wpY_join q (nh, wd, sd, cc, lo, st, pr, ov, yh, (fun j => nI (c j)), yn, le, op, nn, pt, ce, sk, oq, cw, ya, cl, li, lc, tx) (nI (24 * W)) (nI j) (nI i) := by
  have e : (nI i).toNatClampNeg = i := nI_clamp (by omega)
  have K : wY_join_29 q (nI (24 * W)) (nI j) (nI i) nh wd sd cc lo st pr ov yh (fun j => nI (c j)) yn le op nn pt ce sk oq cw ya cl li lc tx := by
    have e1 : nI (24 * W) + nI j = nI (24 * W + j) := nI_add _ _
    have e2 : (nI (24 * W + j)).toNatClampNeg = 24 * W + j := nI_clamp (by omega)
    unfold wY_join_29
    rw [e1, e2]
    exact ⟨vp_in_nI (by omega) (by omega), nm_e H⟩
  refine ⟨vp_in_nI hi (by omega), nm_r (e' := nI (c i)) (by rw [e]) ?_⟩
  rcases ha with a | a | a <;> rw [a]
  · exact br_t rfl K
  · exact br_f (by decide) (br_t rfl K)
  · exact br_f (by decide) (br_f (by decide) (br_t rfl K))
theorem y_join2 {q : SY → Prop} (ha : c i = 27 ∨ c i = 28 ∨ c i = 31) (hi : i < 24) (hW : W < 10) (H : q (nh, wd, sd, cc, lo, st, pr, ov, yh, (fun j => nI (c j)), yn, le, op, nn, upd pt (24 * W + i) (nI j), ce, sk, oq, cw, ya, cl, li, lc, tx)) : wpY_join q (nh, wd, sd, cc, lo, st, pr, ov, yh, (fun j => nI (c j)), yn, le, op, nn, pt, ce, sk, oq, cw, ya, cl, li, lc, tx) (nI (24 * W)) (nI j) (nI i) := by
  have e : (nI i).toNatClampNeg = i := nI_clamp (by omega)
  have e1 : nI (24 * W) + nI i = nI (24 * W + i) := nI_add _ _
  have e2 : (nI (24 * W + i)).toNatClampNeg = 24 * W + i := nI_clamp (by omega)
  refine ⟨vp_in_nI hi (by omega), nm_r (e' := nI (c i)) (by rw [e]) (br_f (fn_ne (m := 24) (by omega)) (br_f (fn_ne (m := 25) (by omega)) (br_f (fn_ne (m := 29) (by omega)) ?_)))⟩
  rw [e1, e2]
  exact ⟨vp_in_nI (by omega) (by omega), nm_e H⟩
theorem y_134n {a : Nat} {x2 x3 : Int32} (H : post 0 (nh, wd, sd, cc, lo, st, pr, ov, yh, ho, yn, le, op, nn, pt, ce, sk, oq, cw, ya, cl, li, lc, tx)) : wY_fit_134 post J (nI 0) x2 x3 (nI a) nh wd sd cc lo st pr ov yh ho yn le op nn pt ce sk oq cw ya cl li lc tx := br_t rfl H
theorem y_134b {n a : Nat} {x2 x3 : Int32} (hn : n < 24) (e : oq n = nI j) (hj : j < 24) (ha : fc_cl a) (hb : c j < 34) (h : ¬ fc_ends a (c j)) (H : post 0 (nh, wd, sd, cc, lo, st, pr, ov, yh, (fun j => nI (c j)), yn, le, op, nn, pt, ce, sk, oq, cw, ya, cl, li, lc, tx)) : wY_fit_134 post J (nI (n + 1)) x2 x3 (nI a) nh wd sd cc lo st pr ov yh (fun j => nI (c j)) yn le op nn pt ce sk oq cw ya cl li lc tx := by
  have e1 : (nI n).toNatClampNeg = n := nI_clamp (by omega)
  have ej : (nI j).toNatClampNeg = j := nI_clamp (by omega)
  unfold wY_fit_134
  rw [nI_pred, e1, e, ej]
  exact br_f (fn_ne (m := 0) (by omega)) ⟨vp_in_nI hn (by omega), vp_in_nI hj (by omega), ye_0 ha hb h (br_t rfl H)⟩
/-- the latest one begun ends here: K is what follows -/
theorem y_134 {n a : Nat} (hn : n < 24) (e : oq n = nI j) (hj : j < 24) (h : fc_ends a (c j)) (hJ : ∀ P : SY → Prop, P (nh, wd, sd, cc, lo, st, pr, ov, yh, (fun j => nI (c j)), yn, le, op, nn, ptz, ce, sk, oq, cw, ya, cl, li, lc, tx) → wpY_join P (nh, wd, sd, cc, lo, st, pr, ov, yh, (fun j => nI (c j)), yn, le, op, nn, pt, ce, sk, oq, cw, ya, cl, li, lc, tx) (nI (24 * W)) (nI j) (nI i))
    (H : (a = 29 → ∃ m : Nat, n = m + 1 ∧ i < 24 ∧ W < 10 ∧ wY_fit_207 post J (nI m) (nI (24 * W)) (nI i) (nI a) nh wd sd cc lo st pr ov yh (fun j => nI (c j)) yn le op nn (upd ptz (24 * W + i) (oq m)) ce sk oq cw ya cl li lc tx) ∧ (a ≠ 29 → wY_fit_207 post J (nI n) (nI (24 * W)) (nI i) (nI a) nh wd sd cc lo st pr ov yh (fun j => nI (c j)) yn le op nn ptz ce sk oq cw ya cl li lc tx)) (ha : a < 34) :
    wY_fit_134 post J (nI (n + 1)) (nI (24 * W)) (nI i) (nI a) nh wd sd cc lo st pr ov yh (fun j => nI (c j)) yn le op nn pt ce sk oq cw ya cl li lc tx := by
  have e1 : (nI n).toNatClampNeg = n := nI_clamp (by omega)
  have ej : (nI j).toNatClampNeg = j := nI_clamp (by omega)
  unfold wY_fit_134
  rw [nI_pred, e1, e, ej, pk_m1]
  refine br_f (fn_ne (m := 0) (by omega)) ⟨vp_in_nI hn (by omega), vp_in_nI hj (by omega), ye_1 h (br_f fn_10 ⟨vp_in_nI hn (by omega), nm_e (nm_e (hJ _ ?_))⟩)⟩
  by_cases z : a = 29
  · obtain ⟨m, rfl, hi, hW, K⟩ := H.1 z
    have e2 : nI (24 * W) + nI i = nI (24 * W + i) := nI_add _ _
    have e3 : (nI (24 * W + i)).toNatClampNeg = 24 * W + i := nI_clamp (by omega)
    have e4 : (nI m).toNatClampNeg = m := nI_clamp (by omega)
    refine br_t (by rw [z]; rfl) (nm_r (pk_m1 m) ⟨vp_in_nI (by omega) (by omega), ?_⟩)
    rw [e2, e3, e4]
    exact ⟨vp_in_nI (by omega) (by omega), nm_e K⟩
  · exact br_f (fn_ne (m := 29) z) (H.2 z)
theorem y_100c {a : Nat} {x1 x2 x3 : Int32} (h : fc_cl a) (K : wY_fit_134 post J x1 x2 x3 (nI a) nh wd sd cc lo st pr ov yh ho yn le op nn pt ce sk oq cw ya cl li lc tx) : wY_fit_100 post J x1 x2 x3 (nI a) nh wd sd cc lo st pr ov yh ho yn le op nn pt ce sk oq cw ya cl li lc tx := by
  unfold fc_cl at h
  refine pk_eq a 24 (fun _ => K) (fun _ => pk_eq a 25 (fun _ => K) (fun _ => ?_))
  exact yq_in 27 29 (by omega) (by omega) (by omega) (fun _ => br_f fn_10 K) (fun z => br_t rfl (pk_eq a 31 (fun _ => K) (fun y => absurd h (by omega))))
theorem y_100n {a : Nat} {x1 x2 x3 : Int32} (ha : a < 34) (h : ¬ fc_cl a) (K : wY_fit_207 post J x1 x2 x3 (nI a) nh wd sd cc lo st pr ov yh ho yn le op nn pt ce sk oq cw ya cl li lc tx) : wY_fit_100 post J x1 x2 x3 (nI a) nh wd sd cc lo st pr ov yh ho yn le op nn pt ce sk oq cw ya cl li lc tx := by
  unfold fc_cl at h
  refine pk_eq a 24 (fun y => absurd h (by omega)) (fun _ => pk_eq a 25 (fun y => absurd h (by omega)) (fun _ => ?_))
  exact yq_in 27 29 (by omega) (by omega) (by omega) (fun y => absurd h (by omega)) (fun z => br_t rfl (pk_eq a 31 (fun y => absurd h (by omega)) (fun _ => K)))
theorem y_78 {a : Nat} {x1 x2 : Int32} (ha : a < 34) (h : a ≠ 22) (K : wY_fit_100 post J x1 x2 (nI i) (nI a) nh wd sd cc lo st pr ov yh ho yn le op nn pt ce sk oq cw ya cl li lc tx) : wY_fit_78 post J x1 x2 (nI i) (nI a) nh wd sd cc lo st pr ov yh ho yn le op nn pt ce sk oq cw ya cl li lc tx := br_f (fn_ne (m := 22) h) K
theorem y_78c {x1 x2 : Int32} (hi : i < 24) (K : (yn i ≤ wd → wY_fit_100 post J x1 x2 (nI i) (nI 22) nh wd sd cc lo st pr ov yh ho yn le op nn pt ce sk oq cw ya cl li lc tx) ∧ (¬ yn i ≤ wd → post 0 (nh, wd, sd, cc, lo, st, pr, ov, yh, ho, yn, le, op, nn, pt, ce, sk, oq, cw, ya, cl, li, lc, tx))) : wY_fit_78 post J x1 x2 (nI i) (nI 22) nh wd sd cc lo st pr ov yh ho yn le op nn pt ce sk oq cw ya cl li lc tx := by
  refine br_t rfl ⟨vp_in_nI hi (by omega), ?_⟩
  rw [show (nI i).toNatClampNeg = i from nI_clamp (by omega)]
  exact K
end YF

/-! X's link -/
theorem xk_pl {post : SX → Prop} (hi : i < 24) (h34 : c i < 34) (h : c i < 23 ∨ 31 < c i) (H : post (nh, wc, wd, cv, sd, pr, st, cc, lo, (fun j => nI (c j)), xn, wa, go, pa, co, ca, wl, sk, ce, tx, cw, cp, cl, li, lc)) : wpX_link post (nh, wc, wd, cv, sd, pr, st, cc, lo, (fun j => nI (c j)), xn, wa, go, pa, co, ca, wl, sk, ce, tx, cw, cp, cl, li, lc) (nI i) := by
  have e : (nI i).toNatClampNeg = i := nI_clamp (by omega)
  refine ⟨vp_in_nI hi (by omega), nm_r (e' := nI (c i)) (by rw [e]) ?_⟩
  rcases h with a | a
  · exact br_t (nI_lt (b := 23) a (by decide)) H
  · exact br_f (nI_nlt (b := 23) (by omega) (by omega)) (br_t (nI_lt (a := 31) a (by omega)) H)
theorem xk_push {post : SX → Prop} {n : Nat} (hi : i < 24) (hn : n < 24) (h : c i = 23 ∨ c i = 26 ∨ c i = 30) (H : post (nh, nI (n + 1), wd, cv, sd, pr, st, cc, lo, (fun j => nI (c j)), xn, upd wa n (nI i), go, pa, co, ca, wl, sk, ce, tx, cw, cp, cl, li, lc)) : wpX_link post (nh, nI n, wd, cv, sd, pr, st, cc, lo, (fun j => nI (c j)), xn, wa, go, pa, co, ca, wl, sk, ce, tx, cw, cp, cl, li, lc) (nI i) := by
  have e : (nI i).toNatClampNeg = i := nI_clamp (by omega)
  have en : (nI n).toNatClampNeg = n := nI_clamp (by omega)
  have K : wX_link_56 post (nI i) nh (nI n) wd cv sd pr st cc lo (fun j => nI (c j)) xn wa go pa co ca wl sk ce tx cw cp cl li lc := ⟨vp_in_nI hn (by omega), nm_r (e' := upd wa n (nI i)) (by rw [en]) (nm_r (nI_1 n) H)⟩
  refine ⟨vp_in_nI hi (by omega), nm_r (e' := nI (c i)) (by rw [e]) ?_⟩
  rcases h with a | a | a <;> rw [a]
  · exact br_f (by decide) (br_f (by decide) (br_t rfl (K)))
  · exact br_f (by decide) (br_f (by decide) (br_f (by decide) (br_f (by decide) (br_f (by decide) (br_t rfl (K))))))
  · exact br_f (by decide) (br_f (by decide) (br_f (by decide) (br_f (by decide) (br_f (by decide) (br_f (by decide) (br_f (by decide) (br_f (by decide) (br_f (by decide) (br_t rfl (K))))))))))
theorem xk_else {post : SX → Prop} {n : Nat} (hi : i < 24) (hn : n < 24) (hj : j < 24) (et : wa n = nI j) (h : c i = 24) (H : post (nh, nI (n + 1), wd, cv, sd, pr, st, cc, lo, (fun j => nI (c j)), xn, upd wa n (nI i), upd go j (nI (i + 1)), pa, co, ca, wl, sk, ce, tx, cw, cp, cl, li, lc)) : wpX_link post (nh, nI (n + 1), wd, cv, sd, pr, st, cc, lo, (fun j => nI (c j)), xn, wa, go, pa, co, ca, wl, sk, ce, tx, cw, cp, cl, li, lc) (nI i) := by
  have e : (nI i).toNatClampNeg = i := nI_clamp (by omega)
  have ej : (nI j).toNatClampNeg = j := nI_clamp (by omega)
  have en : (nI n).toNatClampNeg = n := nI_clamp (by omega)
  have wi : vp_in (nI i) 24 := vp_in_nI hi (by omega)
  have wj : vp_in (nI j) 24 := vp_in_nI hj (by omega)
  have wn : vp_in (nI n) 24 := vp_in_nI hn (by omega)
  refine ⟨wi, nm_r (e' := nI (c i)) (by rw [e]) ?_⟩
  rw [h]
  refine br_f (by decide) (br_f (by decide) (br_f (by decide) (br_t rfl (?_))))
  rw [nI_pred, en, et, ej, nI_1]
  exact ⟨wn, wj, nm_e ⟨wn, nm_e H⟩⟩
theorem xk_then {post : SX → Prop} {n : Nat} (hi : i < 24) (hn : n < 24) (hj : j < 24) (et : wa n = nI j) (h : c i = 25) (H : post (nh, nI n, wd, cv, sd, pr, st, cc, lo, (fun j => nI (c j)), xn, wa, upd go j (nI (i + 1)), pa, co, ca, wl, sk, ce, tx, cw, cp, cl, li, lc)) : wpX_link post (nh, nI (n + 1), wd, cv, sd, pr, st, cc, lo, (fun j => nI (c j)), xn, wa, go, pa, co, ca, wl, sk, ce, tx, cw, cp, cl, li, lc) (nI i) := by
  have e : (nI i).toNatClampNeg = i := nI_clamp (by omega)
  have ej : (nI j).toNatClampNeg = j := nI_clamp (by omega)
  have en : (nI n).toNatClampNeg = n := nI_clamp (by omega)
  have wi : vp_in (nI i) 24 := vp_in_nI hi (by omega)
  have wj : vp_in (nI j) 24 := vp_in_nI hj (by omega)
  have wn : vp_in (nI n) 24 := vp_in_nI hn (by omega)
  refine ⟨wi, nm_r (e' := nI (c i)) (by rw [e]) ?_⟩
  rw [h]
  refine br_f (by decide) (br_f (by decide) (br_f (by decide) (br_f (by decide) (br_t rfl (?_)))))
  refine nm_r (nI_pred n) ⟨wn, ?_⟩
  rw [en, et, ej, nI_1]
  exact ⟨wj, nm_e H⟩
theorem xk_until {post : SX → Prop} {n : Nat} (hi : i < 24) (hn : n < 24) (hj : j < 24) (et : wa n = nI j) (h : c i = 27 ∨ c i = 31) (H : post (nh, nI n, wd, cv, sd, pr, st, cc, lo, (fun j => nI (c j)), xn, wa, upd go i (nI (j + 1)), pa, co, ca, wl, sk, ce, tx, cw, cp, cl, li, lc)) : wpX_link post (nh, nI (n + 1), wd, cv, sd, pr, st, cc, lo, (fun j => nI (c j)), xn, wa, go, pa, co, ca, wl, sk, ce, tx, cw, cp, cl, li, lc) (nI i) := by
  have e : (nI i).toNatClampNeg = i := nI_clamp (by omega)
  have ej : (nI j).toNatClampNeg = j := nI_clamp (by omega)
  have en : (nI n).toNatClampNeg = n := nI_clamp (by omega)
  have wi : vp_in (nI i) 24 := vp_in_nI hi (by omega)
  have wj : vp_in (nI j) 24 := vp_in_nI hj (by omega)
  have wn : vp_in (nI n) 24 := vp_in_nI hn (by omega)
  refine ⟨wi, nm_r (e' := nI (c i)) (by rw [e]) ?_⟩
  have K : wX_link_227 post (nI i) nh (nI (n + 1)) wd cv sd pr st cc lo (fun j => nI (c j)) xn wa go pa co ca wl sk ce tx cw cp cl li lc := by
    refine nm_r (nI_pred n) ⟨wn, ?_⟩
    rw [en, et, e, nI_1]
    exact ⟨wi, nm_e H⟩
  rcases h with z | z <;> rw [z]
  · exact br_f (by decide) (br_f (by decide) (br_f (by decide) (br_f (by decide) (br_f (by decide) (br_f (by decide) (br_t rfl (K)))))))
  · exact br_f (by decide) (br_f (by decide) (br_f (by decide) (br_f (by decide) (br_f (by decide) (br_f (by decide) (br_f (by decide) (br_f (by decide) (br_f (by decide) (br_f (by decide) (br_t rfl (K)))))))))))
theorem xk_while {post : SX → Prop} {n : Nat} (hi : i < 24) (hn : n < 24) (hj : j < 24) (et : wa n = nI j) (h : c i = 28) (H : post (nh, nI (n + 1), wd, cv, sd, pr, st, cc, lo, (fun j => nI (c j)), xn, upd wa n (nI i), upd go i (nI (j + 1)), pa, co, ca, wl, sk, ce, tx, cw, cp, cl, li, lc)) : wpX_link post (nh, nI (n + 1), wd, cv, sd, pr, st, cc, lo, (fun j => nI (c j)), xn, wa, go, pa, co, ca, wl, sk, ce, tx, cw, cp, cl, li, lc) (nI i) := by
  have e : (nI i).toNatClampNeg = i := nI_clamp (by omega)
  have ej : (nI j).toNatClampNeg = j := nI_clamp (by omega)
  have en : (nI n).toNatClampNeg = n := nI_clamp (by omega)
  have wi : vp_in (nI i) 24 := vp_in_nI hi (by omega)
  have wj : vp_in (nI j) 24 := vp_in_nI hj (by omega)
  have wn : vp_in (nI n) 24 := vp_in_nI hn (by omega)
  refine ⟨wi, nm_r (e' := nI (c i)) (by rw [e]) ?_⟩
  rw [h]
  refine br_f (by decide) (br_f (by decide) (br_f (by decide) (br_f (by decide) (br_f (by decide) (br_f (by decide) (br_f (by decide) (br_t rfl (?_))))))))
  rw [nI_pred, en, et, e, nI_1]
  exact ⟨wn, wi, nm_e ⟨wn, nm_e H⟩⟩
theorem xk_repeat {post : SX → Prop} {n : Nat} (hi : i < 24) (hn : n < 24) (hj : j < 24) (et : wa n = nI j) (eg : go j = nI (b + 1)) (h : c i = 29) (H : post (nh, nI n, wd, cv, sd, pr, st, cc, lo, (fun j => nI (c j)), xn, wa, upd (upd go i (nI (b + 1))) j (nI (i + 1)), pa, co, ca, wl, sk, ce, tx, cw, cp, cl, li, lc)) : wpX_link post (nh, nI (n + 1), wd, cv, sd, pr, st, cc, lo, (fun j => nI (c j)), xn, wa, go, pa, co, ca, wl, sk, ce, tx, cw, cp, cl, li, lc) (nI i) := by
  have e : (nI i).toNatClampNeg = i := nI_clamp (by omega)
  have ej : (nI j).toNatClampNeg = j := nI_clamp (by omega)
  have en : (nI n).toNatClampNeg = n := nI_clamp (by omega)
  have wi : vp_in (nI i) 24 := vp_in_nI hi (by omega)
  have wj : vp_in (nI j) 24 := vp_in_nI hj (by omega)
  have wn : vp_in (nI n) 24 := vp_in_nI hn (by omega)
  refine ⟨wi, nm_r (e' := nI (c i)) (by rw [e]) ?_⟩
  rw [h]
  refine br_f (by decide) (br_f (by decide) (br_f (by decide) (br_f (by decide) (br_f (by decide) (br_f (by decide) (br_f (by decide) (br_f (by decide) (br_t rfl (?_)))))))))
  refine nm_r (nI_pred n) ⟨wn, ?_⟩
  rw [en, et, ej, e, eg, nI_1]
  exact ⟨wj, wi, nm_e ⟨wn, wj, nm_e H⟩⟩
end DF
end
section
/-! define: a token in lockstep, then the loop -/
abbrev fc_TJ : Type := Int32 → Int32 → Int32 → Int32 → Int32 → Int32 → Int32 → Int32 → Int32 → Int32 → Int32 → (Nat → Int32) → (Nat → Int32) → (Nat → Int32) → (Nat → Int32) → (Nat → Int32) → (Nat → Int32) → (Nat → Int32) → (Nat → Int32) → (Nat → Int32) → (Nat → Int32) → (Nat → Int32) → (Nat → Int32) → (Nat → Int32) → (Nat → Int32) → (Nat → Int32) → Prop
section DL
variable {nh wc wd cv sd pr st cc lo ov yh : Int32} {ho xn wa go pa co ca wl sk ce tx cw cp cl li lc yn le op nn pt oq ya : Nat → Int32}
variable {c : Nat → Nat} {W h h1 i : Nat} {S : List (Nat × Nat)} {pt0 : Nat → Int32}
/-- Y's scan, whatever comes behind it -/
theorem fk_scan {post : Int32 → SY → Prop} {J : fc_TJ} (hL : fc_Lk c W yn pt0 i S wa go oq pt) (hi : i < 24) (h34 : ∀ t, c t < 34)
    (E : ∀ f : Int32, (f = 0 ∧ fc_dc c S = 0) ∨ (f = 1 ∧ 0 < fc_dc c S) → fc_E post (wY_fit_78 post J (nI (fc_hs c S)) (nI (24 * W)) (nI i) (nI (c i)) (nI h) (nI W) sd cc lo st pr ov yh (fun j => nI (c j)) yn le op nn pt ce sk oq cw ya cl li lc tx) (nI h, nI W, sd, cc, lo, st, pr, ov, yh, (fun j => nI (c j)), yn, le, op, nn, pt, ce, sk, oq, cw, ya, cl, li, lc, tx) (c i) f) : ∃ n, wY_fit_34 post J (nI (fc_hs c S)) (nI (24 * W)) (nI i) (nI (c i)) (nI h) (nI W) sd cc lo st pr ov yh (fun j => nI (c j)) yn le op nn pt ce sk oq cw ya cl li lc tx n 0 0 := by
  obtain ⟨a1, a2, a3, a4, a5, a6, a7, a8⟩ := hL
  by_cases z : fc_dc c S = 0
  · refine ⟨fc_hs c S + 1, yi_0 (by omega) (fun k hk => ?_) (E 0 (Or.inl ⟨rfl, z⟩)) (fc_hs c S) 0 (fc_hs c S + 1) (by omega) (by omega)⟩
    obtain ⟨j, j1, j2, j3⟩ := fc_dcy S i a2 a3 k hk
    exact ⟨j, by omega, j2, fun y => absurd (j3 y) (by omega), h34 j⟩
  · have z' : 0 < fc_dc c S := by omega
    obtain ⟨k0, j0, b1, b2, b3, b4⟩ := fc_dcy0 S i a2 a3 z'
    refine ⟨fc_hs c S + 1, yi_1 (by omega) (fun k hk => ?_) b1 b2 (by omega) b4 (E 1 (Or.inr ⟨rfl, z'⟩)) (fc_hs c S) 0 (fc_hs c S + 1) 0 (by omega) (by omega) (Or.inr ⟨rfl, by omega⟩)⟩
    obtain ⟨j, j1, j2, j3⟩ := fc_dcy S i a2 a3 k hk
    exact ⟨j, by omega, j2, h34 j⟩
/-- X's fits, where what has been begun doesn't matter -/
theorem fk_fits {p : Int32 → Prop} (hL : fc_Lk c W yn pt0 i S wa go oq pt) (hi : i < 24) (H : ∀ z : Int32, wX_fits_27 p (nI i) z (nI h) (nI S.length) (nI W) cv sd pr st cc lo (fun j => nI (c j)) (fun j => lw_i16 (yn j)) wa go pa co ca wl sk ce tx cw cp cl li lc) : wpX_fits p (nI h, nI S.length, nI W, cv, sd, pr, st, cc, lo, (fun j => nI (c j)), (fun j => lw_i16 (yn j)), wa, go, pa, co, ca, wl, sk, ce, tx, cw, cp, cl, li, lc) (nI i) := by
  cases S with
  | nil => exact xf_nil (H (-1))
  | cons e T =>
    obtain ⟨j, b⟩ := e
    obtain ⟨t1, t2, t3, t4, t5, t6⟩ := fc_lk_top hL
    exact xf_cons (n := T.length) (by omega) (by omega) t4 (H _)
def fk_Bad (c : Nat → Nat) (W h i : Nat) (S : List (Nat × Nat)) (cv sd pr st cc lo ov yh : Int32) (wa go pa co ca wl sk ce tx cw cp cl li lc yn le op nn pt oq ya : Nat → Int32) : Prop :=
  (∀ p : Int32 → Prop, p 0 → wpX_fits p (nI h, nI S.length, nI W, cv, sd, pr, st, cc, lo, (fun j => nI (c j)), (fun j => lw_i16 (yn j)), wa, go, pa, co, ca, wl, sk, ce, tx, cw, cp, cl, li, lc) (nI i)) ∧ (∀ (post : Int32 → SY → Prop) (J : fc_TJ), post 0 (nI h, nI W, sd, cc, lo, st, pr, ov, yh, (fun j => nI (c j)), yn, le, op, nn, pt, ce, sk, oq, cw, ya, cl, li, lc, tx) → ∃ n, wY_fit_34 post J (nI (fc_hs c S)) (nI (24 * W)) (nI i) (nI (c i)) (nI h) (nI W) sd cc lo st pr ov yh (fun j => nI (c j)) yn le op nn pt ce sk oq cw ya cl li lc tx n 0 0)
def fk_Good (c : Nat → Nat) (W h i : Nat) (S : List (Nat × Nat)) (pt0 : Nat → Int32) (cv sd pr st cc lo ov yh : Int32) (wa go pa co ca wl sk ce tx cw cp cl li lc yn le op nn pt oq ya : Nat → Int32) : Prop :=
  ∃ (S' : List (Nat × Nat)) (wa' go' oq' pt' : Nat → Int32), fc_Lk c W yn pt0 (i + 1) S' wa' go' oq' pt' ∧ (∀ p : Int32 → Prop, p 1 → wpX_fits p (nI h, nI S.length, nI W, cv, sd, pr, st, cc, lo, (fun j => nI (c j)), (fun j => lw_i16 (yn j)), wa, go, pa, co, ca, wl, sk, ce, tx, cw, cp, cl, li, lc) (nI i)) ∧
    (∀ p : SX → Prop, p (nI h, nI S'.length, nI W, cv, sd, pr, st, cc, lo, (fun j => nI (c j)), (fun j => lw_i16 (yn j)), wa', go', pa, co, ca, wl, sk, ce, tx, cw, cp, cl, li, lc) → wpX_link p (nI h, nI S.length, nI W, cv, sd, pr, st, cc, lo, (fun j => nI (c j)), (fun j => lw_i16 (yn j)), wa, go, pa, co, ca, wl, sk, ce, tx, cw, cp, cl, li, lc) (nI i)) ∧ (∀ (post : Int32 → SY → Prop) (J : fc_TJ), J (nI (fc_hs c S')) (nI (i + 1)) (nI h) (nI W) sd cc lo st pr ov yh (fun j => nI (c j)) yn le op nn pt' ce sk oq' cw ya cl li lc tx → ∃ n, wY_fit_34 post J (nI (fc_hs c S)) (nI (24 * W)) (nI i) (nI (c i)) (nI h) (nI W) sd cc lo st pr ov yh (fun j => nI (c j)) yn le op nn pt ce sk oq cw ya cl li lc tx n 0 0)
theorem fk_plain (hL : fc_Lk c W yn pt0 i S wa go oq pt) (hi : i < 24) (h34 : ∀ t, c t < 34) (h : c i < 22 ∨ c i = 33) : fk_Good c W h1 i S pt0 cv sd pr st cc lo ov yh wa go pa co ca wl sk ce tx cw cp cl li lc yn le op nn pt oq ya := by
  have hc := h34 i
  refine ⟨S, wa, go, oq, pt, fc_lk_plain hL (by omega) (by omega) (by omega), fun p hp => ?_, fun p hp => ?_, fun post J hJ => ?_⟩
  · exact fk_fits hL hi (fun z => xf_pl hi hc (by omega) hp)
  · exact xk_pl hi hc (by omega) hp
  · exact fk_scan hL hi h34 (fun f _ => br_f (fn_ne (m := 32) (by omega)) (y_78 hc (by omega) (y_100n hc (by unfold fc_cl; omega) (y_207j hc (by omega) hJ))))
theorem fk_call (hL : fc_Lk c W yn pt0 i S wa go oq pt) (hi : i < 24) (hW : W < 10) (h34 : ∀ t, c t < 34) (h22 : ∀ t, c t = 22 → ∃ m : Nat, m < 10 ∧ yn t = nI m) (h : c i = 22) : fk_Bad c W h1 i S cv sd pr st cc lo ov yh wa go pa co ca wl sk ce tx cw cp cl li lc yn le op nn pt oq ya ∨ fk_Good c W h1 i S pt0 cv sd pr st cc lo ov yh wa go pa co ca wl sk ce tx cw cp cl li lc yn le op nn pt oq ya := by
  have hc := h34 i
  obtain ⟨m, m1, m2⟩ := h22 i h
  have em : lw_i16 (yn i) = nI m := by rw [m2]; exact fn_sm m (by omega)
  by_cases z : m ≤ W
  · refine Or.inr ⟨S, wa, go, oq, pt, fc_lk_plain hL (by omega) (fun _ => by rw [m2]; exact nI_le z (by omega)) (by omega), fun p hp => ?_, fun p hp => ?_, fun post J hJ => ?_⟩
    · refine fk_fits hL hi (fun y => xf_22 hi h ?_)
      rw [em]
      exact br_f (nI_nlt z (by omega)) hp
    · exact xk_pl hi hc (by omega) hp
    · refine fk_scan hL hi h34 (fun f _ => br_f (fn_ne (m := 32) (by omega)) ?_)
      rw [h]
      refine y_78c hi (br_t (by rw [m2]; exact nI_le z (by omega)) ?_)
      exact y_100n (by omega) (by unfold fc_cl; omega) (y_207j (by omega) (by omega) hJ)
  · refine Or.inl ⟨fun p hp => ?_, fun post J hp => ?_⟩
    · refine fk_fits hL hi (fun y => xf_22 hi h ?_)
      rw [em]
      exact br_t (nI_lt (by omega) (by omega)) hp
    · refine fk_scan hL hi h34 (fun f _ => br_f (fn_ne (m := 32) (by omega)) ?_)
      rw [h]
      exact y_78c hi (br_f (by rw [m2]; exact nI_ge (by omega) (by omega)) hp)
theorem fk_I (hL : fc_Lk c W yn pt0 i S wa go oq pt) (hi : i < 24) (h34 : ∀ t, c t < 34) (h : c i = 32) : fk_Bad c W h1 i S cv sd pr st cc lo ov yh wa go pa co ca wl sk ce tx cw cp cl li lc yn le op nn pt oq ya ∨ fk_Good c W h1 i S pt0 cv sd pr st cc lo ov yh wa go pa co ca wl sk ce tx cw cp cl li lc yn le op nn pt oq ya := by
  have hc := h34 i
  obtain ⟨a1, a2, a3, a4, a5, a6, a7, a8⟩ := id hL
  have hlen := fc_hs_le (c := c) (g := go) S
  by_cases z : fc_dc c S = 0
  · refine Or.inl ⟨fun p hp => ?_, fun post J hp => ?_⟩
    · refine fk_fits hL hi (fun y => xf_32 hi h ⟨S.length + 1, ?_⟩)
      refine xi_0 (by omega) (fun k hk => ?_) ⟨fn_nb0, hp⟩ S.length 0 (S.length + 1) (by omega) (by omega)
      obtain ⟨j, j1, j2, j3⟩ := fc_dcx S i a1 a3 k hk
      exact ⟨j, by omega, j2, fun y => absurd (j3 y) (by omega), h34 j⟩
    · refine fk_scan hL hi h34 (fun f hf => ?_)
      have f0 : f = 0 := by
        rcases hf with y | y
        · exact y.1
        · exact absurd y.2 (by omega)
      exact br_t (congrArg nI h) (br_t f0 hp)
  · have z' : 0 < fc_dc c S := by omega
    refine Or.inr ⟨S, wa, go, oq, pt, fc_lk_plain hL (by omega) (by omega) (fun _ => by omega), fun p hp => ?_, fun p hp => ?_, fun post J hJ => ?_⟩
    · obtain ⟨k0, j0, b1, b2, b3, b4⟩ := fc_dcx0 S i a1 a3 z'
      refine fk_fits hL hi (fun y => xf_32 hi h ⟨S.length + 1, ?_⟩)
      refine xi_1 (by omega) (fun k hk => ?_) b1 b2 (by omega) b4 ⟨fn_nb1, hp⟩ k0 0 (S.length + 1) (by omega) (by omega)
      obtain ⟨j, j1, j2, j3⟩ := fc_dcx S i a1 a3 k hk
      exact ⟨j, by omega, j2, h34 j⟩
    · exact xk_pl hi hc (by omega) hp
    · refine fk_scan hL hi h34 (fun f hf => ?_)
      have f1 : ¬ f = 0 := by
        rcases hf with y | y
        · exact absurd y.2 z
        · rw [y.1]; exact fn_10
      exact br_t (congrArg nI h) (br_f f1 (y_78 hc (by omega) (y_100n hc (by unfold fc_cl; omega) (y_207j hc (by omega) hJ))))
theorem fk_push (hL : fc_Lk c W yn pt0 i S wa go oq pt) (hi : i < 24) (h34 : ∀ t, c t < 34) (h : c i = 23 ∨ c i = 26 ∨ c i = 30) : fk_Good c W h1 i S pt0 cv sd pr st cc lo ov yh wa go pa co ca wl sk ce tx cw cp cl li lc yn le op nn pt oq ya := by
  have hc := h34 i
  have a4 := hL.2.2.2.1
  have hlen := fc_hs_le (c := c) (g := go) S
  have eh : fc_hs c ((i, 0) :: S) = fc_hs c S + 1 := by
    show fc_hs c S + (if c i = 28 then 2 else 1) = _
    rw [if_neg (by omega)]
  refine ⟨(i, 0) :: S, _, go, _, pt, fc_lk_push hL h, fun p hp => ?_, fun p hp => ?_, fun post J hJ => ?_⟩
  · exact fk_fits hL hi (fun z => xf_pl hi hc (by omega) hp)
  · exact xk_push hi (by omega) h hp
  · rw [eh] at hJ
    exact fk_scan hL hi h34 (fun f _ => br_f (fn_ne (m := 32) (by omega)) (y_78 hc (by omega) (y_100n hc (by unfold fc_cl; omega) (y_207p (by omega) (by omega) hJ))))
theorem fk_close (hL : fc_Lk c W yn pt0 i S wa go oq pt) (hi : i < 24) (hW : W < 10) (h34 : ∀ t, c t < 34) (h : fc_cl (c i)) : fk_Bad c W h1 i S cv sd pr st cc lo ov yh wa go pa co ca wl sk ce tx cw cp cl li lc yn le op nn pt oq ya ∨ fk_Good c W h1 i S pt0 cv sd pr st cc lo ov yh wa go pa co ca wl sk ce tx cw cp cl li lc yn le op nn pt oq ya := by
  have hc := h34 i
  have h32 : c i ≠ 32 ∧ c i ≠ 22 := by unfold fc_cl at h; omega
  have SC : ∀ (post : Int32 → SY → Prop) (J : fc_TJ), wY_fit_134 post J (nI (fc_hs c S)) (nI (24 * W)) (nI i) (nI (c i)) (nI h1) (nI W) sd cc lo st pr ov yh (fun j => nI (c j)) yn le op nn pt ce sk oq cw ya cl li lc tx → ∃ n, wY_fit_34 post J (nI (fc_hs c S)) (nI (24 * W)) (nI i) (nI (c i)) (nI h1) (nI W) sd cc lo st pr ov yh (fun j => nI (c j)) yn le op nn pt ce sk oq cw ya cl li lc tx n 0 0 :=
    fun post J K => fk_scan hL hi h34 (fun f _ => br_f (fn_ne (m := 32) h32.1) (y_78 hc h32.2 (y_100c h K)))
  cases S with
  | nil =>
    refine Or.inl ⟨fun p hp => xf_nil (xf_e0 h ⟨fun _ => by decide, fun _ => ⟨by decide, by decide⟩, fun _ => by decide, fun _ => by decide, fun _ => by decide⟩ hi rfl hp), fun post J hp => SC post J (y_134n hp)⟩
  | cons e T =>
    obtain ⟨j, b⟩ := e
    obtain ⟨t1, t2, t3, t4, t5, t6⟩ := fc_lk_top hL
    have hcj := h34 j
    have eh : fc_hs c ((j, b) :: T) = fc_hs c T + (if c j = 28 then 2 else 1) := rfl
    have XF : ∀ p : Int32 → Prop, fc_ends (c i) (c j) → p 1 → wpX_fits p (nI h1, nI (T.length + 1), nI W, cv, sd, pr, st, cc, lo, (fun j => nI (c j)), (fun j => lw_i16 (yn j)), wa, go, pa, co, ca, wl, sk, ce, tx, cw, cp, cl, li, lc) (nI i) := fun p hE hp => xf_cons (n := T.length) (by omega) (by omega) t4 (xf_e1 hE hi rfl hp)
    by_cases hE : fc_ends (c i) (c j)
    · have hE' := hE
      unfold fc_ends at hE'
      by_cases c8 : c j = 28
      · -- REPEAT
        have ci : c i = 29 := by omega
        obtain ⟨q1, q2, q3, q4, q5, q6⟩ := t6 c8
        rw [if_pos c8] at eh
        refine Or.inr ⟨T, wa, _, oq, _, fc_lk_repeat hL ci c8, fun p hp => XF p hE hp, fun p hp => xk_repeat hi (by omega) (by omega) t4 q6 ci hp, fun post J hJ => SC post J ?_⟩
        rw [eh]
        refine y_134 (n := fc_hs c T + 1) (by omega) q2 (by omega) hE (fun P hP => y_join1 (by omega) hi (by omega) hW hP) ⟨fun _ => ⟨fc_hs c T, rfl, hi, hW, ?_⟩, fun z => absurd ci z⟩ hc
        rw [q1]
        exact y_207j hc (by omega) hJ
      · rw [if_neg c8] at eh
        have e0 := t5 c8
        have ne : c i ≠ 29 := by omega
        have Y1 : ∀ (post : Int32 → SY → Prop) (J : fc_TJ) (ptz : Nat → Int32), (∀ P : SY → Prop, P (nI h1, nI W, sd, cc, lo, st, pr, ov, yh, (fun j => nI (c j)), yn, le, op, nn, ptz, ce, sk, oq, cw, ya, cl, li, lc, tx) → wpY_join P (nI h1, nI W, sd, cc, lo, st, pr, ov, yh, (fun j => nI (c j)), yn, le, op, nn, pt, ce, sk, oq, cw, ya, cl, li, lc, tx) (nI (24 * W)) (nI j) (nI i)) → wY_fit_207 post J (nI (fc_hs c T)) (nI (24 * W)) (nI i) (nI (c i)) (nI h1) (nI W) sd cc lo st pr ov yh (fun j => nI (c j)) yn le op nn ptz ce sk oq cw ya cl li lc tx → ∃ n, wY_fit_34 post J (nI (fc_hs c ((j, b) :: T))) (nI (24 * W)) (nI i) (nI (c i)) (nI h1) (nI W) sd cc lo st pr ov yh (fun j => nI (c j)) yn le op nn pt ce sk oq cw ya cl li lc tx n 0 0 := by
          intro post J ptz H1 H2
          refine SC post J ?_
          rw [eh]
          exact y_134 (n := fc_hs c T) (by omega) e0 (by omega) hE H1 ⟨fun z => absurd z ne, fun _ => H2⟩ hc
        by_cases c24 : c i = 24
        · have eh' : fc_hs c ((i, 0) :: T) = fc_hs c T + 1 := by
            show fc_hs c T + (if c i = 28 then 2 else 1) = _
            rw [if_neg (by omega)]
          refine Or.inr ⟨(i, 0) :: T, _, _, _, _, fc_lk_else hL c24 (by omega), fun p hp => XF p hE hp, fun p hp => xk_else hi (by omega) (by omega) t4 c24 hp, fun post J hJ => Y1 post J _ (fun P hP => y_join1 (by omega) hi (by omega) hW hP) ?_⟩
          rw [eh'] at hJ
          exact y_207p (by omega) (by omega) hJ
        by_cases c25 : c i = 25
        · refine Or.inr ⟨T, wa, _, oq, _, fc_lk_then hL c25 (by omega), fun p hp => XF p hE hp, fun p hp => xk_then hi (by omega) (by omega) t4 c25 hp, fun post J hJ => Y1 post J _ (fun P hP => y_join1 (by omega) hi (by omega) hW hP) ?_⟩
          exact y_207j hc (by omega) hJ
        by_cases c28 : c i = 28
        · have eh' : fc_hs c ((i, j) :: T) = fc_hs c T + 2 := by
            show fc_hs c T + (if c i = 28 then 2 else 1) = _
            rw [if_pos c28]
          refine Or.inr ⟨(i, j) :: T, _, _, _, _, fc_lk_while hL c28 (by omega), fun p hp => XF p hE hp, fun p hp => xk_while hi (by omega) (by omega) t4 c28 hp, fun post J hJ => Y1 post J _ (fun P hP => y_join2 (by omega) hi hW hP) ?_⟩
          rw [eh'] at hJ
          rw [c28]
          exact y_207w (by omega) hJ
        · refine Or.inr ⟨T, wa, _, oq, _, fc_lk_until hL (by omega), fun p hp => XF p hE hp, fun p hp => xk_until hi (by omega) (by omega) t4 (by omega) hp, fun post J hJ => Y1 post J _ (fun P hP => y_join2 (by omega) hi hW hP) ?_⟩
          exact y_207j hc (by omega) hJ
    · have hE' := hE
      unfold fc_ends at hE'
      refine Or.inl ⟨fun p hp => ?_, fun post J hp => SC post J ?_⟩
      · exact xf_cons (n := T.length) (by omega) (by omega) t4 (xf_e0 h ⟨fun z => fn_ne (m := 23) (by omega), fun z => ⟨fn_ne (m := 23) (by omega), fn_ne (m := 24) (by omega)⟩, fun z => fn_ne (m := 26) (by omega), fun z => fn_ne (m := 28) (by omega), fun z => fn_ne (m := 30) (by omega)⟩ hi rfl hp)
      · by_cases c8 : c j = 28
        · obtain ⟨q1, q2, q3, q4, q5, q6⟩ := t6 c8
          rw [eh, if_pos c8]
          exact y_134b (n := fc_hs c T + 1) (by omega) q2 (by omega) h hcj hE hp
        · rw [eh, if_neg c8]
          exact y_134b (n := fc_hs c T) (by omega) (t5 c8) (by omega) h hcj hE hp
theorem fk_step (hL : fc_Lk c W yn pt0 i S wa go oq pt) (hi : i < 24) (hW : W < 10) (h34 : ∀ t, c t < 34) (h22 : ∀ t, c t = 22 → ∃ m : Nat, m < 10 ∧ yn t = nI m) : fk_Bad c W h1 i S cv sd pr st cc lo ov yh wa go pa co ca wl sk ce tx cw cp cl li lc yn le op nn pt oq ya ∨ fk_Good c W h1 i S pt0 cv sd pr st cc lo ov yh wa go pa co ca wl sk ce tx cw cp cl li lc yn le op nn pt oq ya := by
  have hc := h34 i
  by_cases a : fc_cl (c i)
  · exact fk_close hL hi hW h34 a
  unfold fc_cl at a
  by_cases b : c i = 23 ∨ c i = 26 ∨ c i = 30
  · exact Or.inr (fk_push hL hi h34 b)
  by_cases d : c i = 22
  · exact fk_call hL hi hW h34 h22 d
  by_cases e : c i = 32
  · exact fk_I hL hi h34 e
  exact Or.inr (fk_plain hL hi h34 (by omega))
/-- the loops: one answer, one state each -/
theorem fk_loop (hW : W < 10) (hh : h ≤ 24) (h34 : ∀ t, c t < 34) (h22 : ∀ t, c t = 22 → ∃ m : Nat, m < 10 ∧ yn t = nI m) : ∀ (m i : Nat) (S : List (Nat × Nat)) (wa go oq pt : Nat → Int32), i + m = h → fc_Lk c W yn pt0 i S wa go oq pt →
    ∃ (r : Nat) (x : Int32) (wa' go' oq' pt' : Nat → Int32), r ≤ 1 ∧ (r = 1 → fc_Lk c W yn pt0 h [] wa' go' oq' pt') ∧ (∀ j, j < 24 * W → pt' j = pt0 j) ∧
      (∀ (post : Int32 → SX → Prop) (n : Nat), m < n → post (nI r) (nI h, x, nI W, cv, sd, pr, st, cc, lo, (fun j => nI (c j)), (fun j => lw_i16 (yn j)), wa', go', pa, co, ca, wl, sk, ce, tx, cw, cp, cl, li, lc) → wX_linkParts_7 post n (nI i) (nI h) (nI S.length) (nI W) cv sd pr st cc lo (fun j => nI (c j)) (fun j => lw_i16 (yn j)) wa go pa co ca wl sk ce tx cw cp cl li lc) ∧
      (∀ (post : Int32 → SY → Prop) (n : Nat), m < n → post (nI r) (nI h, nI W, sd, cc, lo, st, pr, ov, yh, (fun j => nI (c j)), yn, le, op, nn, pt', ce, sk, oq', cw, ya, cl, li, lc, tx) → wY_fit_12 post (nI (24 * W)) n (nI (fc_hs c S)) (nI i) (nI h) (nI W) sd cc lo st pr ov yh (fun j => nI (c j)) yn le op nn pt ce sk oq cw ya cl li lc tx) := by
  intro m
  induction m with
  | zero =>
    intro i S wa go oq pt hm hL
    have hl := fc_hs_le (c := c) (g := go) S
    have hs := hL.2.2.2.1
    obtain rfl : i = h := by omega
    by_cases z : S = []
    · subst z
      refine ⟨1, nI 0, wa, go, oq, pt, by omega, fun _ => hL, hL.2.2.2.2.2.2.2, fun post n hn hp => ?_, fun post n hn hp => ?_⟩
      · obtain ⟨n, rfl⟩ : ∃ k, n = k + 1 := ⟨n - 1, by omega⟩
        rw [wX_linkParts_7]
        exact br_t (nI_le (Nat.le_refl _) (by omega)) (br_t rfl hp)
      · obtain ⟨n, rfl⟩ : ∃ k, n = k + 1 := ⟨n - 1, by omega⟩
        rw [wY_fit_12]
        exact br_t (nI_le (Nat.le_refl _) (by omega)) (br_t rfl hp)
    · have l0 : S.length ≠ 0 := fun y => z (List.length_eq_zero_iff.mp y)
      refine ⟨0, nI S.length, wa, go, oq, pt, by omega, fun y => absurd y (by omega), hL.2.2.2.2.2.2.2, fun post n hn hp => ?_, fun post n hn hp => ?_⟩
      · obtain ⟨n, rfl⟩ : ∃ k, n = k + 1 := ⟨n - 1, by omega⟩
        rw [wX_linkParts_7]
        exact br_t (nI_le (Nat.le_refl _) (by omega)) (br_f (fn_ne (m := 0) l0) hp)
      · obtain ⟨n, rfl⟩ : ∃ k, n = k + 1 := ⟨n - 1, by omega⟩
        rw [wY_fit_12]
        exact br_t (nI_le (Nat.le_refl _) (by omega)) (br_f (fn_ne (m := 0) (by omega)) hp)
  | succ m ih =>
    intro i S wa go oq pt hm hL
    have hi : i < 24 := by omega
    have ei : (nI i).toNatClampNeg = i := nI_clamp (by omega)
    have G : fk_Bad c W h i S cv sd pr st cc lo ov yh wa go pa co ca wl sk ce tx cw cp cl li lc yn le op nn pt oq ya ∨ fk_Good c W h i S pt0 cv sd pr st cc lo ov yh wa go pa co ca wl sk ce tx cw cp cl li lc yn le op nn pt oq ya := fk_step hL hi hW h34 h22
    rcases G with ⟨gX, gY⟩ | ⟨S', wa', go', oq', pt', hL', gX, gK, gY⟩
    · refine ⟨0, nI S.length, wa, go, oq, pt, by omega, fun y => absurd y (by omega), hL.2.2.2.2.2.2.2, fun post n hn hp => ?_, fun post n hn hp => ?_⟩
      · obtain ⟨n, rfl⟩ : ∃ k, n = k + 1 := ⟨n - 1, by omega⟩
        rw [wX_linkParts_7]
        exact br_f (nI_ge (by omega) (by omega)) (gX _ (br_t rfl hp))
      · obtain ⟨n, rfl⟩ : ∃ k, n = k + 1 := ⟨n - 1, by omega⟩
        rw [wY_fit_12]
        exact br_f (nI_ge (by omega) (by omega)) ⟨vp_in_nI hi (by omega), nm_r (e' := nI (c i)) (by rw [ei]) (gY _ _ hp)⟩
    · obtain ⟨r, x, wa2, go2, oq2, pt2, r1, r2, r3, r4, r5⟩ := ih (i + 1) S' wa' go' oq' pt' (by omega) hL'
      refine ⟨r, x, wa2, go2, oq2, pt2, r1, r2, r3, fun post n hn hp => ?_, fun post n hn hp => ?_⟩
      · obtain ⟨n, rfl⟩ : ∃ k, n = k + 1 := ⟨n - 1, by omega⟩
        rw [wX_linkParts_7]
        refine br_f (nI_ge (by omega) (by omega)) (gX _ (br_f fn_10 (gK _ ?_)))
        exact nm_r (nI_1 i) (r4 post n (by omega) hp)
      · obtain ⟨n, rfl⟩ : ∃ k, n = k + 1 := ⟨n - 1, by omega⟩
        rw [wY_fit_12]
        exact br_f (nI_ge (by omega) (by omega)) ⟨vp_in_nI hi (by omega), nm_r (e' := nI (c i)) (by rw [ei]) (gY _ _ (r5 post n (by omega) hp))⟩
end DL
end
section
/-! define: places, instructions; then the owed statement -/
section DW
variable {nh wc wd cv sd pr st cc lo ov yh : Int32} {ho xn wa go pa co ca wl sk ce tx cw cp cl li lc yn le op nn pt oq ya : Nat → Int32}
variable {c : Nat → Nat} {W h e : Nat}
theorem xv_t {p : Int32 → Prop} {a : Nat} (ha : a < 34) (he : e ≤ 1) (h : ¬ (e = 1 ∧ (a = 25 ∨ a = 26))) (H : p 1) : wpX_leavesInstruction p (nh, wc, wd, nI e, sd, pr, st, cc, lo, ho, xn, wa, go, pa, co, ca, wl, sk, ce, tx, cw, cp, cl, li, lc) (nI a) := by
  refine pk_eq e 0 (fun _ => H) (fun z => ?_)
  exact br_f (fn_ne (m := 25) (by omega)) (br_f (fn_ne (m := 26) (by omega)) (br_t rfl H))
theorem xv_f {p : Int32 → Prop} {a : Nat} (h : e = 1 ∧ (a = 25 ∨ a = 26)) (H : p 0) : wpX_leavesInstruction p (nh, wc, wd, nI e, sd, pr, st, cc, lo, ho, xn, wa, go, pa, co, ca, wl, sk, ce, tx, cw, cp, cl, li, lc) (nI a) := by
  obtain ⟨rfl, h⟩ := h
  refine br_f (by decide) ?_
  rcases h with rfl | rfl
  · exact br_t rfl (br_f fn_10 H)
  · exact br_f (by decide) (br_t rfl (br_f fn_10 H))
theorem xw_t {p : Int32 → Prop} {a : Nat} (h : fc_J a) (H : p 1) : wpX_goesOnElsewhere p (nI a) := by
  unfold fc_J at h
  rcases h with rfl | rfl | rfl | rfl | rfl | rfl
  · exact br_f (by decide) (br_f (by decide) (br_t rfl H))
  · exact br_f (by decide) (br_f (by decide) (br_f (by decide) (br_t rfl H)))
  · exact br_f (by decide) (br_f (by decide) (br_f (by decide) (br_f (by decide) (br_f (by decide) (br_f (by decide) (br_t rfl H))))))
  · exact br_f (by decide) (br_f (by decide) (br_f (by decide) (br_f (by decide) (br_f (by decide) (br_f (by decide) (br_f (by decide) (br_t rfl H)))))))
  · exact br_f (by decide) (br_f (by decide) (br_f (by decide) (br_f (by decide) (br_f (by decide) (br_f (by decide) (br_f (by decide) (br_f (by decide) (br_t rfl H))))))))
  · exact br_f (by decide) (br_f (by decide) (br_f (by decide) (br_f (by decide) (br_f (by decide) (br_f (by decide) (br_f (by decide) (br_f (by decide) (br_f (by decide) (br_f (by decide) (br_t rfl H))))))))))
theorem xw_f {p : Int32 → Prop} {a : Nat} (ha : a < 34) (h : ¬ fc_J a) (H : p 0) : wpX_goesOnElsewhere p (nI a) := by
  unfold fc_J at h
  refine pk_lt a 23 (fun _ => H) (fun z => pk_lt 31 a (fun _ => H) (fun y => ?_))
  have hr : a = 25 ∨ a = 26 ∨ a = 30 := by omega
  rcases hr with rfl | rfl | rfl
  · exact (br_f (by decide) (br_f (by decide) (br_t rfl H)))
  · exact (br_f (by decide) (br_f (by decide) (br_f (by decide) (br_t rfl H))))
  · exact (br_f (by decide) (br_f (by decide) (br_f (by decide) (br_f (by decide) (br_f (by decide) (br_f (by decide) (br_f (by decide) (br_t rfl H))))))))
theorem xp_place {post : SX → Prop} (hh : h ≤ 24) (hW : W < 10) (he : e ≤ 1) (h34 : ∀ t, c t < 34) (K : ∀ pa' : Nat → Int32, (∀ t, t ≤ h → pa' t = nI (fc_pl e c t)) → post (nI h, wc, nI W, nI e, sd, pr, st, cc, lo, (fun j => nI (c j)), (fun j => lw_i16 (yn j)), wa, go, pa', co, ca, upd wl W (nI (fc_pl e c h)), sk, ce, tx, cw, cp, cl, li, lc)) :
    ∀ (m i n : Nat) (pa : Nat → Int32), i + m = h → m < n → (∀ t, t < i → pa t = nI (fc_pl e c t)) → wX_placeInstructions_4 post (nI h) wc (nI W) (nI e) sd pr st cc lo n (nI (fc_pl e c i)) (nI i) (fun j => nI (c j)) (fun j => lw_i16 (yn j)) wa go pa co ca wl sk ce tx cw cp cl li lc := by
  intro m
  induction m with
  | zero =>
    intro i n pa hm hn hp
    obtain ⟨n, rfl⟩ : ∃ k, n = k + 1 := ⟨n - 1, by omega⟩
    obtain rfl : i = h := by omega
    rw [wX_placeInstructions_4]
    have ei : (nI i).toNatClampNeg = i := nI_clamp (by omega)
    have eW : (nI W).toNatClampNeg = W := nI_clamp (by omega)
    refine br_t (nI_le (Nat.le_refl _) (by omega)) ⟨vp_in_nI (by omega) (by omega), nm_r (e' := upd pa i (nI (fc_pl e c i))) (by rw [ei]) ⟨vp_in_nI hW (by omega), nm_r (e' := upd wl W (nI (fc_pl e c i))) (by rw [eW]) (K _ (fun t ht => ?_))⟩⟩
    by_cases z : t = i
    · subst z; exact pk_us
    · rw [pk_un z]; exact hp t (by omega)
  | succ m ih =>
    intro i n pa hm hn hp
    obtain ⟨n, rfl⟩ : ∃ k, n = k + 1 := ⟨n - 1, by omega⟩
    rw [wX_placeInstructions_4]
    have ei : (nI i).toNatClampNeg = i := nI_clamp (by omega)
    have hp' : ∀ t, t < i + 1 → upd pa i (nI (fc_pl e c i)) t = nI (fc_pl e c t) := fun t ht => by
      by_cases z : t = i
      · subst z; exact pk_us
      · rw [pk_un z]; exact hp t (by omega)
    refine br_f (nI_ge (by omega) (by omega)) ⟨vp_in_nI (by omega) (by omega), nm_r (e' := upd pa i (nI (fc_pl e c i))) (by rw [ei]) ⟨vp_in_nI (by omega) (by omega), ?_⟩⟩
    rw [ei]
    by_cases z : e = 1 ∧ (c i = 25 ∨ c i = 26)
    · have R := ih (i + 1) n _ (by omega) (by omega) hp'
      rw [fc_pl_d z] at R
      exact xv_f z (br_t rfl (nm_r (nI_1 i) R))
    · have R := ih (i + 1) n _ (by omega) (by omega) hp'
      rw [fc_pl_k z] at R
      exact xv_t (h34 i) he z (br_f fn_10 (nm_r (nI_1 _) (nm_r (nI_1 i) R)))
/-- what the instructions say so far -/
def fc_Wr (c : Nat → Nat) (W h e : Nat) (yn go co0 ca0 : Nat → Int32) (i : Nat) (co ca : Nat → Int32) : Prop :=
  (∀ x, x < 24 * W → co x = co0 x ∧ ca x = ca0 x) ∧ ∀ t, t < i → ¬ (e = 1 ∧ (c t = 25 ∨ c t = 26)) →
    co (24 * W + fc_pl e c t) = nI (c t) ∧ (fc_J (c t) → ∀ p, p < h → go t = nI (p + 1) → ca (24 * W + fc_pl e c t) = nI (fc_pl e c (p + 1))) ∧ (¬ fc_J (c t) → ca (24 * W + fc_pl e c t) = lw_i16 (yn t))
theorem fc_Wr_s {co0 ca0 : Nat → Int32} {i : Nat} {x : Int32} (hw : fc_Wr c W h e yn go co0 ca0 i co ca) (hk : ¬ (e = 1 ∧ (c i = 25 ∨ c i = 26))) (h1 : fc_J (c i) → ∀ p, p < h → go i = nI (p + 1) → x = nI (fc_pl e c (p + 1))) (h2 : ¬ fc_J (c i) → x = lw_i16 (yn i)) :
    fc_Wr c W h e yn go co0 ca0 (i + 1) (upd co (24 * W + fc_pl e c i) (nI (c i))) (upd ca (24 * W + fc_pl e c i) x) := by
  refine ⟨fun y hy => ?_, fun t ht hkt => ?_⟩
  · rw [pk_un (by omega), pk_un (by omega)]; exact hw.1 y hy
  · by_cases z : t = i
    · subst z
      rw [pk_us, pk_us]
      exact ⟨rfl, h1, h2⟩
    · have := fc_pl_lt (lv := e) (c := c) hkt (show t < i by omega)
      rw [pk_un (by omega), pk_un (by omega)]
      exact hw.2 t (by omega) hkt
theorem fc_Wr_d {co0 ca0 : Nat → Int32} {i : Nat} (hw : fc_Wr c W h e yn go co0 ca0 i co ca) (hk : e = 1 ∧ (c i = 25 ∨ c i = 26)) : fc_Wr c W h e yn go co0 ca0 (i + 1) co ca := by
  refine ⟨hw.1, fun t ht hkt => ?_⟩
  by_cases z : t = i
  · subst z; exact absurd hk hkt
  · exact hw.2 t (by omega) hkt
theorem xp_write {post : SX → Prop} {co0 ca0 : Nat → Int32} (hh : h ≤ 24) (hW : W < 10) (he : e ≤ 1) (h34 : ∀ t, c t < 34) (hpa : ∀ t, t ≤ h → pa t = nI (fc_pl e c t)) (hgo : ∀ t, t < h → fc_J (c t) → ∃ p : Nat, p < h ∧ go t = nI (p + 1))
    (K : ∀ co' ca' : Nat → Int32, fc_Wr c W h e yn go co0 ca0 h co' ca' → post (nI h, wc, nI W, nI e, sd, pr, st, cc, lo, (fun j => nI (c j)), (fun j => lw_i16 (yn j)), wa, go, pa, co', ca', wl, sk, ce, tx, cw, cp, cl, li, lc)) :
    ∀ (m i n : Nat) (co ca : Nat → Int32), i + m = h → m < n → fc_Wr c W h e yn go co0 ca0 i co ca → wX_writeInstructions_10 post (nI (24 * W)) (nI h) wc (nI W) (nI e) sd pr st cc lo n (nI i) (fun j => nI (c j)) (fun j => lw_i16 (yn j)) wa go pa co ca wl sk ce tx cw cp cl li lc := by
  intro m
  induction m with
  | zero =>
    intro i n co ca hm hn hw
    obtain ⟨n, rfl⟩ : ∃ k, n = k + 1 := ⟨n - 1, by omega⟩
    obtain rfl : i = h := by omega
    rw [wX_writeInstructions_10]
    exact br_t (nI_le (Nat.le_refl _) (by omega)) (K co ca hw)
  | succ m ih =>
    intro i n co ca hm hn hw
    obtain ⟨n, rfl⟩ : ∃ k, n = k + 1 := ⟨n - 1, by omega⟩
    rw [wX_writeInstructions_10]
    have ei : (nI i).toNatClampNeg = i := nI_clamp (by omega)
    have wi : vp_in (nI i) 24 := vp_in_nI (by omega) (by omega)
    have hc := h34 i
    refine br_f (nI_ge (by omega) (by omega)) ⟨wi, nm_r (e' := nI (c i)) (by rw [ei]) ?_⟩
    by_cases z : e = 1 ∧ (c i = 25 ∨ c i = 26)
    · exact xv_f z (br_t rfl (nm_r (nI_1 i) (ih (i + 1) n co ca (by omega) (by omega) (fc_Wr_d hw z))))
    · have hpi := fc_pl_le (lv := e) (c := c) i
      have e4 : nI (24 * W) + pa (nI i).toNatClampNeg = nI (24 * W + fc_pl e c i) := by rw [ei, hpa i (by omega)]; exact nI_add _ _
      have c4 : (nI (24 * W + fc_pl e c i)).toNatClampNeg = 24 * W + fc_pl e c i := nI_clamp (by omega)
      have w4 : vp_in (nI (24 * W + fc_pl e c i)) 240 := vp_in_nI (by omega) (by omega)
      refine xv_t hc he z (br_f fn_10 ⟨vp_in_nI (by omega) (by omega), nm_r e4 ⟨w4, nm_r (e' := upd co (24 * W + fc_pl e c i) (nI (c i))) (by rw [c4, fn_b (by omega)]) ?_⟩⟩)
      by_cases j : fc_J (c i)
      · obtain ⟨q, q1, q2⟩ := hgo i (by omega) j
        have hq := fc_pl_le (lv := e) (c := c) (q + 1)
        have eg : go (nI i).toNatClampNeg = nI (q + 1) := by rw [ei]; exact q2
        have wg : vp_in (go (nI i).toNatClampNeg) 25 := by rw [eg]; exact vp_in_nI (by omega) (by omega)
        refine xw_t j (br_f fn_10 ⟨wi, wg, w4, nm_r (e' := upd ca (24 * W + fc_pl e c i) (nI (fc_pl e c (q + 1)))) ?_ (nm_r (nI_1 i) (ih (i + 1) n _ _ (by omega) (by omega) (fc_Wr_s hw z (fun _ p hp hg => ?_) (fun y => absurd j y))))⟩)
        · rw [c4, eg, show (nI (q + 1)).toNatClampNeg = q + 1 from nI_clamp (by omega), hpa (q + 1) (by omega), fn_vi (fn_sm _ (by omega))]
        · have : q + 1 = p + 1 := (nI_eq (by omega) (by omega)).mp (q2.symm.trans hg)
          rw [this]
      · refine xw_f hc j (br_t rfl ⟨wi, w4, nm_r (e' := upd ca (24 * W + fc_pl e c i) (lw_i16 (yn i))) ?_ (nm_r (nI_1 i) (ih (i + 1) n _ _ (by omega) (by omega) (fc_Wr_s hw z (fun y => absurd y j) (fun _ => rfl))))⟩)
        rw [c4, ei, fn_vs (fn_ii _)]
/-- Y's copy -/
theorem yp_copy {post : Int32 → SY → Prop} {op0 nn0 : Nat → Int32} (hh : h ≤ 24) (hW : W < 10) (K : ∀ op' nn' : Nat → Int32, (∀ x, x < 24 * W → op' x = op0 x ∧ nn' x = nn0 x) → (∀ t, t < h → op' (24 * W + t) = nI (c t) ∧ nn' (24 * W + t) = yn t) → post (nI (W + 1) - 1) (0, nI (W + 1), sd, cc, lo, st, pr, ov, yh, (fun j => nI (c j)), yn, upd le W (nI h), op', nn', pt, ce, sk, oq, cw, ya, cl, li, lc, tx)) :
    ∀ (m i n : Nat) (op nn : Nat → Int32), i + m = h → m < n → (∀ x, x < 24 * W → op x = op0 x ∧ nn x = nn0 x) → (∀ t, t < i → op (24 * W + t) = nI (c t) ∧ nn (24 * W + t) = yn t) → wY_define_24 post (nI h) (nI W) sd cc lo st pr ov yh n (nI i) (fun j => nI (c j)) yn le op nn pt ce sk oq cw ya cl li lc tx := by
  intro m
  have eW : (nI W).toNatClampNeg = W := nI_clamp (by omega)
  induction m with
  | zero =>
    intro i n op nn hm hn h1 h2
    obtain ⟨n, rfl⟩ : ∃ k, n = k + 1 := ⟨n - 1, by omega⟩
    obtain rfl : i = h := by omega
    rw [wY_define_24]
    exact br_t (nI_le (Nat.le_refl _) (by omega)) ⟨vp_in_nI hW (by omega), nm_r (e' := upd le W (nI i)) (by rw [eW]) (nm_r (nI_1 W) (K op nn h1 h2))⟩
  | succ m ih =>
    intro i n op nn hm hn h1 h2
    obtain ⟨n, rfl⟩ : ∃ k, n = k + 1 := ⟨n - 1, by omega⟩
    rw [wY_define_24]
    have ei : (nI i).toNatClampNeg = i := nI_clamp (by omega)
    have ex := fn_ix W i
    have cx : (nI (24 * W + i)).toNatClampNeg = 24 * W + i := nI_clamp (by omega)
    dsimp only
    rw [ex, cx, ei]
    refine br_f (nI_ge (by omega) (by omega)) ⟨vp_in_nI (by omega) (by omega), vp_in_nI (by omega) (by omega), nm_e ⟨vp_in_nI (by omega) (by omega), vp_in_nI (by omega) (by omega), nm_e (nm_r (nI_1 i) (ih (i + 1) n _ _ (by omega) (by omega) (fun x hx => ?_) (fun t ht => ?_)))⟩⟩
    · rw [pk_un (by omega), pk_un (by omega)]; exact h1 x hx
    · by_cases z : t = i
      · subst z; rw [pk_us, pk_us]; exact ⟨rfl, rfl⟩
      · rw [pk_un (by omega), pk_un (by omega)]; exact h2 t (by omega)
end DW
theorem i_vc_define {k : Nat} {u : SX} {v : SY} (I : i_Rel k u v) (hk : k + 3 ≤ 1536) : wpX_define (fun r u' => wpY_define (fun r' v' => r' = r ∧ i_Rel (k + 3) u' v') v) u := by
  have I0 := I
  obtain ⟨h, W, d, s, p, e, c, LL, PP, DD, wc, cc, lo, ov, yh, yn, wa, go, pa, co, ca, wl, sk, ce, tx, cw, cp, cl, li, lc, le, op, nn, pt, oq, ya, rfl, rfl, h1, h2, h3, h4, h5, h6, h7, h8, h9, h10, h11, h12⟩ := I
  by_cases hW : W < 10
  · have L : ∃ (r : Nat) (x : Int32) (wa' go' oq' pt' : Nat → Int32), r ≤ 1 ∧ (r = 1 → fc_Lk c W yn pt h [] wa' go' oq' pt') ∧ (∀ j, j < 24 * W → pt' j = pt j) ∧
      (∀ (post : Int32 → SX → Prop) (n : Nat), h < n → post (nI r) (nI h, x, nI W, nI e, nI d, nI p, nI s, cc, lo, (fun j => nI (c j)), (fun j => lw_i16 (yn j)), wa', go', pa, co, ca, wl, sk, ce, tx, cw, cp, cl, li, lc) → wX_linkParts_7 post n (nI 0) (nI h) (nI 0) (nI W) (nI e) (nI d) (nI p) (nI s) cc lo (fun j => nI (c j)) (fun j => lw_i16 (yn j)) wa go pa co ca wl sk ce tx cw cp cl li lc) ∧
      (∀ (post : Int32 → SY → Prop) (n : Nat), h < n → post (nI r) (nI h, nI W, nI d, cc, lo, nI s, nI p, ov, yh, (fun j => nI (c j)), yn, le, op, nn, pt', ce, sk, oq', cw, ya, cl, li, lc, tx) → wY_fit_12 post (nI (24 * W)) n (nI 0) (nI 0) (nI h) (nI W) (nI d) cc lo (nI s) (nI p) ov yh (fun j => nI (c j)) yn le op nn pt ce sk oq cw ya cl li lc tx) :=
      fk_loop hW h1 h6 h7 h 0 [] wa go oq pt (by omega) fc_Lk_0
    obtain ⟨r, x, wa', go', oq', pt', r1, r2, r3, r4, r5⟩ := L
    refine br_t (nI_lt (b := 10) hW (by decide)) ⟨h + 1, r4 _ (h + 1) (by omega) ?_⟩
    have hY : ∀ P : Int32 → SY → Prop, P (nI r) (nI h, nI W, nI d, cc, lo, nI s, nI p, ov, yh, (fun j => nI (c j)), yn, le, op, nn, pt', ce, sk, oq', cw, ya, cl, li, lc, tx) → wpY_fit P (nI h, nI W, nI d, cc, lo, nI s, nI p, ov, yh, (fun j => nI (c j)), yn, le, op, nn, pt, ce, sk, oq, cw, ya, cl, li, lc, tx) := fun P hP => nm_r (pk_mul 24 W) ⟨h + 1, r5 _ (h + 1) (by omega) hP⟩
    by_cases z : r = 1
    · subst z
      have hL := r2 rfl
      have hgo : ∀ t, t < h → fc_J (c t) → ∃ q : Nat, q < h ∧ go' t = nI (q + 1) := fun t ht hJ => by
        rcases hL.2.2.2.2.2.1 t ht hJ with ⟨b, m⟩ | ⟨q, q1, q2, q3, q4⟩
        · exact absurd m List.not_mem_nil
        · exact ⟨q, q1, q3⟩
      refine br_f fn_10 ⟨h + 1, xp_place h1 hW h5 h6 (fun pa' hpa => ?_) h 0 (h + 1) pa (by omega) (by omega) (fun t ht => absurd ht (Nat.not_lt_zero t))⟩
      refine nm_r (e' := nI (24 * W)) (by rw [Nat.mul_comm]; exact pk_mul W 24) ⟨h + 1, xp_write (co0 := co) (ca0 := ca) h1 hW h5 h6 hpa hgo (fun co' ca' hwr => ?_) h 0 (h + 1) co ca (by omega) (by omega) ⟨fun y _ => ⟨rfl, rfl⟩, fun t ht => absurd ht (Nat.not_lt_zero t)⟩⟩
      refine nm_r (nI_1 W) ?_
      refine br_f (fn_ne (m := 10) (by omega)) (hY _ (br_f fn_10 ⟨h + 1, ?_⟩))
      refine yp_copy (op0 := op) (nn0 := nn) h1 hW (fun op' nn' g1 g2 => ⟨rfl, ?_⟩) h 0 (h + 1) op nn (by omega) (by omega) (fun y _ => ⟨rfl, rfl⟩) (fun t ht => absurd ht (Nat.not_lt_zero t))
      have N : fc_Word W h (fc_pl e c) (fc_dn c) (upd le W (nI h)) op' nn' pt' (upd wl W (nI (fc_pl e c h))) co' ca' :=
        fc_new h6 h1 hW hL h7 (fun t ht => (g2 t ht).1) (fun t ht => (g2 t ht).2) (fun t ht hkt => hwr.2 t ht hkt) pk_us pk_us
      have O : fc_Words W LL PP DD (upd le W (nI h)) op' nn' pt' (upd wl W (nI (fc_pl e c h))) co' ca' :=
        fc_Words_c (Nat.le_refl W) (fun j hj => pk_un (by omega)) (fun j hj => pk_un (by omega)) (fun j hj => (g1 j hj).1) (fun j hj => (g1 j hj).2) r3 (fun j hj => (hwr.1 j hj).1) (fun j hj => (hwr.1 j hj).2) h12
      exact ⟨0, W + 1, d, s, p, e, c, _, _, _, x, cc, lo, ov, yh, yn, wa', go', pa', co', ca', _, sk, ce, tx, cw, cp, cl, li, lc, _, op', nn', pt', oq', ya, rfl, rfl, by omega, by omega, h3, h4, h5, h6, h7, h8, h9, h10, h11, fc_Words_s O N⟩
    · have z0 : r = 0 := by omega
      subst z0
      refine br_t rfl (br_f (fn_ne (m := 10) (by omega)) (hY _ (br_t rfl ⟨rfl, ?_⟩)))
      exact ⟨h, W, d, s, p, e, c, LL, PP, DD, x, cc, lo, ov, yh, yn, wa', go', pa, co, ca, wl, sk, ce, tx, cw, cp, cl, li, lc, le, op, nn, pt', oq', ya, rfl, rfl, h1, h2, h3, h4, h5, h6, h7, h8, h9, h10, h11,
        fc_Words_c (Nat.le_refl W) (fun _ _ => rfl) (fun _ _ => rfl) (fun _ _ => rfl) (fun _ _ => rfl) r3 (fun _ _ => rfl) (fun _ _ => rfl) h12⟩
  · have z : W = 10 := by omega
    exact br_f (nI_nlt (b := 10) (by omega) (by omega)) (br_t (by rw [z]; rfl) ⟨rfl, I0⟩)
end
section
/-! run: the owed statement -/
theorem i_vc_run {k : Nat} {u : SX} {v : SY} (I : i_Rel k u v) (hk : k + 3 ≤ 1536) (v1 : Int32) : wpX_run (fun r u' => wpY_run (fun r' v' => r' = r ∧ i_Rel (k + 3) u' v') v v1) u v1 := by
  have I0 := I
  obtain ⟨h, W, d, s, p, e, c, LL, PP, DD, wc, cc, lo, ov, yh, yn, wa, go, pa, co, ca, wl, sk, ce, tx, cw, cp, cl, li, lc, le, op, nn, pt, oq, ya, rfl, rfl, h1, h2, h3, h4, h5, h6, h7, h8, h9, h10, h11, h12⟩ := I
  unfold wpX_run wpY_run
  dsimp only
  rcases pk_ix v1 (n := W) (by omega) with z | z | ⟨w, hw, rfl⟩
  · refine br_t z ?_
    exact fr_in (by omega) (fun _ => br_t rfl ⟨rfl, I0⟩) (fun _ => br_t rfl ⟨rfl, I0⟩) (fun j hj e => absurd z (by rw [e]; exact nI_pos (by omega)))
  · have z0 : ¬ v1 < 0 := fun y => Int32.not_lt.mpr z (Int32.lt_of_lt_of_le y (nI_pos' (by omega)))
    refine br_f z0 (br_f (Int32.not_lt.mpr z) ?_)
    exact fr_in (by omega) (fun _ => br_t rfl ⟨rfl, I0⟩) (fun _ => br_t rfl ⟨rfl, I0⟩) (fun j hj e => absurd (nI_lt hj (by omega)) (by rw [← e]; exact Int32.not_lt.mpr z))
  · obtain ⟨l24, P0, D0, _, _, _, _, _⟩ := h12 w hw
    have F0 : fc_Fr W 0 LL PP DD (fun _ => 0) (fun _ => 0) (fun _ => 0) cw cp ya cl := fun f hf => absurd hf (Nat.not_lt_zero f)
    have F1 := fr_begin F0 (w := w) hw P0 D0 (x := nI 0) rfl
    have M : 25 * (300 - 0) + fc_sm (fun f => LL (fc_set (fun _ => 0) 0 w f) - fc_set (fun _ => 0) 0 0 f + 1) (0 + 1) ≤ 7600 := by
      rw [fm_begin]
      show 25 * (300 - 0) + (0 + (LL w + 1)) ≤ 7600
      omega
    have R : fc_Rn W LL PP DD (nI h) wc (nI W) (nI e) yh (fun j => nI (c j)) (fun j => lw_i16 (yn j)) wa go pa co ca wl yn le op nn pt oq 7600
        (nI h, wc, nI W, nI e, nI d, nI 0, nI 0, nI (0 + 1), nI 0, (fun j => nI (c j)), (fun j => lw_i16 (yn j)), wa, go, pa, co, ca, wl, sk, ce, tx, upd cw 0 (nI w), upd cp 0 0, upd cl 0 (nI 0), li, lc)
        (nI h, nI W, nI d, nI (0 + 1), nI 0, nI 0, nI 0, 0, yh, (fun j => nI (c j)), yn, le, op, nn, pt, ce, sk, oq, upd cw 0 (nI w), upd ya 0 0, upd cl 0 (nI 0), li, lc, tx) :=
      ⟨0, 0, d, 0, 0, _, _, _, sk, ce, tx, _, _, _, li, lc, _, rfl, rfl, by omega, by omega, h3, by omega, rfl, by omega, h8, h9, h10, h11, F1, M⟩
    obtain ⟨r, u', v', O, oX, oY⟩ := fc_sim h2 h12 7600 _ _ R 0 0 8000 8000 (by omega) (by omega) (by omega) (by omega)
    obtain ⟨s', d', p', cc', lo', ov', yh', sk', ce', tx', cw', cp', cl', li', lc', ya', g1, g2, g3, g4, g5, g6, g7, rfl, rfl⟩ := O
    refine br_f (nI_pos (by omega)) (br_t (nI_lt hw (by omega)) ?_)
    refine xp_begin (k := 0) (by omega) ?_
    refine ⟨8000, oX _ ?_⟩
    refine fr_in (by omega) (fun y => absurd y (nI_pos (by omega))) (fun y => absurd y (nI_ge hw (by omega))) (fun _ _ _ => br_f fn_10 ?_)
    refine yp_begin (k := 0) (by omega) ?_
    refine ⟨8000, oY _ ⟨rfl, ?_⟩⟩
    exact ⟨h, W, d', s', p', e, c, LL, PP, DD, wc, cc', lo', ov', yh', yn, wa, go, pa, co, ca, wl, sk', ce', tx', cw', cp', cl', li', lc', le, op, nn, pt, oq, ya', rfl, rfl, h1, h2, g2, by omega, h5, h6, h7, g4, g5, g6, g7, h12⟩
end
