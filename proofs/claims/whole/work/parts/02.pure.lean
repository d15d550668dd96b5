/-! PURE: words as both sides hold them, frames, the parts begun -/
def fc_J (c : Nat) : Prop := c = 23 ∨ c = 24 ∨ c = 27 ∨ c = 28 ∨ c = 29 ∨ c = 31
/-- a CALL's word -/
def fc_N22 (c w : Nat) (x : Int32) : Prop := c = 22 → ∃ m : Nat, m ≤ w ∧ x = nI m
/-- token i of word w: P its places in X's code, D the loops begun ahead of it -/
def fc_Tok (w L : Nat) (P D : Nat → Nat) (o n pt co ca : Nat → Int32) (i : Nat) : Prop :=
  ∃ c p : Nat, c < 34 ∧ o (24 * w + i) = nI c ∧ P i ≤ i ∧
    (((c = 25 ∨ c = 26) ∧ P (i + 1) = P i) ∨
      (P (i + 1) = P i + 1 ∧ P i < P L ∧ co (24 * w + P i) = nI c ∧ (fc_J c → ca (24 * w + P i) = nI (P (p + 1))) ∧ (¬ fc_J c → ca (24 * w + P i) = lw_i16 (n (24 * w + i))))) ∧
    (fc_J c → pt (24 * w + i) = nI p ∧ p < L ∧ D (p + 1) = D i) ∧
    fc_N22 c w (n (24 * w + i)) ∧
    (c = 30 → D (i + 1) = D i + 1) ∧ (c = 31 → D i = D (i + 1) + 1) ∧ (c = 32 → 1 ≤ D i) ∧ (c ≠ 30 → c ≠ 31 → D (i + 1) = D i)
def fc_Word (w L : Nat) (P D : Nat → Nat) (len o n pt wl co ca : Nat → Int32) : Prop :=
  L ≤ 24 ∧ P 0 = 0 ∧ D 0 = 0 ∧ P L ≤ L ∧ len w = nI L ∧ wl w = nI (P L) ∧ (∀ i, i ≤ L → P i ≤ P L) ∧ ∀ i, i < L → fc_Tok w L P D o n pt co ca i
def fc_Words (W : Nat) (LL : Nat → Nat) (PP DD : Nat → Nat → Nat) (len o n pt wl co ca : Nat → Int32) : Prop :=
  ∀ w, w < W → fc_Word w (LL w) (PP w) (DD w) len o n pt wl co ca
theorem fc_Tok_c {w L W : Nat} {P D : Nat → Nat} {o n pt co ca o' n' pt' co' ca' : Nat → Int32} {i : Nat} (hw : w < W) (hi : i < 24)
    (ho : ∀ j, j < 24 * W → o' j = o j) (hn : ∀ j, j < 24 * W → n' j = n j) (hp : ∀ j, j < 24 * W → pt' j = pt j) (hc : ∀ j, j < 24 * W → co' j = co j) (ha : ∀ j, j < 24 * W → ca' j = ca j)
    (h : fc_Tok w L P D o n pt co ca i) : fc_Tok w L P D o' n' pt' co' ca' i := by
  obtain ⟨c, p, h1, h2, h3, h4, h5, h6, h7, h8, h9, h10⟩ := h
  have a1 : 24 * w + i < 24 * W := by omega
  have a2 : 24 * w + P i < 24 * W := by omega
  refine ⟨c, p, h1, (ho _ a1).trans h2, h3, ?_, ?_, ?_, h7, h8, h9, h10⟩
  · rw [hc _ a2, ha _ a2, hn _ a1]; exact h4
  · rw [hp _ a1]; exact h5
  · rw [hn _ a1]; exact h6
theorem fc_Words_c {W V : Nat} {LL : Nat → Nat} {PP DD : Nat → Nat → Nat} {len o n pt wl co ca len' o' n' pt' wl' co' ca' : Nat → Int32} (hV : V ≤ W)
    (hl : ∀ j, j < W → len' j = len j) (hz : ∀ j, j < W → wl' j = wl j)
    (ho : ∀ j, j < 24 * W → o' j = o j) (hn : ∀ j, j < 24 * W → n' j = n j) (hp : ∀ j, j < 24 * W → pt' j = pt j) (hc : ∀ j, j < 24 * W → co' j = co j) (ha : ∀ j, j < 24 * W → ca' j = ca j)
    (h : fc_Words W LL PP DD len o n pt wl co ca) : fc_Words V LL PP DD len' o' n' pt' wl' co' ca' := by
  intro w hw
  have hw' : w < W := by omega
  obtain ⟨h1, h2, h3, h4, h5, h6, h7, h8⟩ := h w hw'
  exact ⟨h1, h2, h3, h4, (hl w hw').trans h5, (hz w hw').trans h6, h7, fun i hi => fc_Tok_c hw' (by omega) ho hn hp hc ha (h8 i hi)⟩
/-- a word more -/
theorem fc_Words_s {W L : Nat} {LL P D : Nat → Nat} {PP DD : Nat → Nat → Nat} {len o n pt wl co ca : Nat → Int32}
    (h : fc_Words W LL PP DD len o n pt wl co ca) (hW : fc_Word W L P D len o n pt wl co ca) :
    fc_Words (W + 1) (fun w => if w = W then L else LL w) (fun w => if w = W then P else PP w) (fun w => if w = W then D else DD w) len o n pt wl co ca := by
  intro w hw
  by_cases e : w = W
  · subst e
    simp only [if_true]
    exact hW
  · simp only [if_neg e]
    exact h w (by omega)
/-! the places of the tokens (lv: the level), the loops ahead of each -/
def fc_pl (lv : Nat) (c : Nat → Nat) : Nat → Nat
  | 0 => 0
  | i + 1 => if lv = 1 ∧ (c i = 25 ∨ c i = 26) then fc_pl lv c i else fc_pl lv c i + 1
def fc_dn (c : Nat → Nat) : Nat → Nat
  | 0 => 0
  | i + 1 => if c i = 30 then fc_dn c i + 1 else if c i = 31 then fc_dn c i - 1 else fc_dn c i
theorem fc_pl_s {lv : Nat} {c : Nat → Nat} {i : Nat} : fc_pl lv c (i + 1) = if lv = 1 ∧ (c i = 25 ∨ c i = 26) then fc_pl lv c i else fc_pl lv c i + 1 := rfl
theorem fc_dn_s {c : Nat → Nat} {i : Nat} : fc_dn c (i + 1) = if c i = 30 then fc_dn c i + 1 else if c i = 31 then fc_dn c i - 1 else fc_dn c i := rfl
theorem fc_pl_le {lv : Nat} {c : Nat → Nat} : ∀ i, fc_pl lv c i ≤ i := by
  intro i
  induction i with
  | zero => exact Nat.le_refl 0
  | succ i ih => rw [fc_pl_s]; split <;> omega
theorem fc_pl_m1 {lv : Nat} {c : Nat → Nat} (i : Nat) : fc_pl lv c i ≤ fc_pl lv c (i + 1) := by rw [fc_pl_s]; split <;> omega
theorem fc_pl_m {lv : Nat} {c : Nat → Nat} {i : Nat} : ∀ j, i ≤ j → fc_pl lv c i ≤ fc_pl lv c j := by
  intro j
  induction j with
  | zero => intro h; have : i = 0 := by omega
            subst this; exact Nat.le_refl _
  | succ j ih =>
    intro h
    by_cases e : i = j + 1
    · subst e; exact Nat.le_refl _
    · exact Nat.le_trans (ih (by omega)) (fc_pl_m1 j)
theorem fc_pl_k {lv : Nat} {c : Nat → Nat} {i : Nat} (h : ¬ (lv = 1 ∧ (c i = 25 ∨ c i = 26))) : fc_pl lv c (i + 1) = fc_pl lv c i + 1 := by rw [fc_pl_s, if_neg h]
theorem fc_pl_d {lv : Nat} {c : Nat → Nat} {i : Nat} (h : lv = 1 ∧ (c i = 25 ∨ c i = 26)) : fc_pl lv c (i + 1) = fc_pl lv c i := by rw [fc_pl_s, if_pos h]
theorem fc_pl_lt {lv : Nat} {c : Nat → Nat} {i j : Nat} (h : ¬ (lv = 1 ∧ (c i = 25 ∨ c i = 26))) (hj : i < j) : fc_pl lv c i < fc_pl lv c j := by
  have h1 := fc_pl_k h
  have h2 := fc_pl_m (lv := lv) (c := c) (i := i + 1) j hj
  omega
/-! a sum below k -/
def fc_sm (g : Nat → Nat) : Nat → Nat
  | 0 => 0
  | k + 1 => fc_sm g k + g k
theorem fc_sm_s {g : Nat → Nat} {k : Nat} : fc_sm g (k + 1) = fc_sm g k + g k := rfl
theorem fc_sm_c {g h : Nat → Nat} : ∀ k, (∀ f, f < k → g f = h f) → fc_sm g k = fc_sm h k := by
  intro k
  induction k with
  | zero => exact fun _ => rfl
  | succ k ih => intro e; rw [fc_sm_s, fc_sm_s, ih (fun f hf => e f (by omega)), e k (by omega)]
/-! functions into the naturals, changed at one place -/
def fc_set (g : Nat → Nat) (k v : Nat) : Nat → Nat := fun j => if j = k then v else g j
theorem fc_set_s {g : Nat → Nat} {k v : Nat} : fc_set g k v k = v := if_pos rfl
theorem fc_set_n {g : Nat → Nat} {k v j : Nat} (h : j ≠ k) : fc_set g k v j = g j := if_neg h
theorem fc_set_u (g : Nat → Nat) (k v : Nat) : upd (fun j => nI (g j)) k (nI v) = fun j => nI (fc_set g k v j) := by
  funext j
  show (if j = k then nI v else nI (g j)) = nI (if j = k then v else g j)
  split <;> rfl
/-! the parts begun and not ended, the latest first: (the token, the BEGIN of a WHILE) -/
def fc_hs (c : Nat → Nat) : List (Nat × Nat) → Nat
  | [] => 0
  | e :: T => fc_hs c T + (if c e.1 = 28 then 2 else 1)
def fc_dc (c : Nat → Nat) : List (Nat × Nat) → Nat
  | [] => 0
  | e :: T => fc_dc c T + (if c e.1 = 30 then 1 else 0)
/-- X's waiting tokens -/
def fc_rx (w : Nat → Int32) : List (Nat × Nat) → Prop
  | [] => True
  | e :: T => w T.length = nI e.1 ∧ fc_rx w T
/-- those of Y -/
def fc_ry (c : Nat → Nat) (q : Nat → Int32) : List (Nat × Nat) → Prop
  | [] => True
  | e :: T => (c e.1 = 28 → q (fc_hs c T) = nI e.2 ∧ q (fc_hs c T + 1) = nI e.1) ∧ (c e.1 ≠ 28 → q (fc_hs c T) = nI e.1) ∧ fc_ry c q T
def fc_ok (c : Nat → Nat) (g : Nat → Int32) : Nat → List (Nat × Nat) → Prop
  | _, [] => True
  | i, e :: T => e.1 < i ∧ (c e.1 = 23 ∨ c e.1 = 24 ∨ c e.1 = 26 ∨ c e.1 = 28 ∨ c e.1 = 30) ∧ fc_dn c e.1 = fc_dc c T ∧
      (c e.1 = 28 → e.2 < e.1 ∧ c e.2 = 26 ∧ fc_dn c e.2 = fc_dc c T ∧ g e.1 = nI (e.2 + 1)) ∧ fc_ok c g e.1 T
theorem fc_rx_u {w : Nat → Int32} {k : Nat} {x : Int32} : ∀ S : List (Nat × Nat), S.length ≤ k → fc_rx w S → fc_rx (upd w k x) S := by
  intro S
  induction S with
  | nil => exact fun _ _ => trivial
  | cons e T ih =>
    intro hk h
    have hl : T.length + 1 ≤ k := hk
    exact ⟨(pk_un (by omega)).trans h.1, ih (by omega) h.2⟩
theorem fc_ry_u {c : Nat → Nat} {q : Nat → Int32} {k : Nat} {x : Int32} : ∀ S : List (Nat × Nat), fc_hs c S ≤ k → fc_ry c q S → fc_ry c (upd q k x) S := by
  intro S
  induction S with
  | nil => exact fun _ _ => trivial
  | cons e T ih =>
    intro hk h
    have hl : fc_hs c T + (if c e.1 = 28 then 2 else 1) ≤ k := hk
    refine ⟨fun h8 => ?_, fun h8 => ?_, ih (by split at hl <;> omega) h.2.2⟩
    · rw [if_pos h8] at hl
      exact ⟨(pk_un (by omega)).trans (h.1 h8).1, (pk_un (by omega)).trans (h.1 h8).2⟩
    · rw [if_neg h8] at hl
      exact (pk_un (by omega)).trans (h.2.1 h8)
theorem fc_ok_u {c : Nat → Nat} {g : Nat → Int32} {k : Nat} {x : Int32} : ∀ (S : List (Nat × Nat)) (i : Nat), i ≤ k → fc_ok c g i S → fc_ok c (upd g k x) i S := by
  intro S
  induction S with
  | nil => exact fun _ _ _ => trivial
  | cons e T ih =>
    intro i hk h
    obtain ⟨h1, h2, h3, h4, h5⟩ := h
    refine ⟨h1, h2, h3, fun h8 => ?_, ih e.1 (by omega) h5⟩
    obtain ⟨a, b, d, f⟩ := h4 h8
    exact ⟨a, b, d, (pk_un (by omega)).trans f⟩
theorem fc_ok_m {c : Nat → Nat} {g : Nat → Int32} {i k : Nat} (hk : i ≤ k) : ∀ S : List (Nat × Nat), fc_ok c g i S → fc_ok c g k S := by
  intro S
  cases S with
  | nil => exact fun _ => trivial
  | cons e T => exact fun h => ⟨by have := h.1; omega, h.2⟩
theorem fc_hs_le {c : Nat → Nat} {g : Nat → Int32} : ∀ S : List (Nat × Nat), S.length ≤ fc_hs c S := by
  intro S
  induction S with
  | nil => exact Nat.le_refl 0
  | cons e T ih =>
    show T.length + 1 ≤ fc_hs c T + (if c e.1 = 28 then 2 else 1)
    split <;> omega
/-- whether a loop is begun, as X scans for it -/
theorem fc_dcx {c : Nat → Nat} {g w : Nat → Int32} : ∀ (S : List (Nat × Nat)) (i : Nat), fc_rx w S → fc_ok c g i S → ∀ k, k < S.length → ∃ j, j < i ∧ w k = nI j ∧ (c j = 30 → 0 < fc_dc c S) := by
  intro S
  induction S with
  | nil => exact fun _ _ _ k hk => absurd hk (Nat.not_lt_zero k)
  | cons e T ih =>
    intro i h h' k hk
    have hk' : k < T.length + 1 := hk
    have ed : fc_dc c (e :: T) = fc_dc c T + (if c e.1 = 30 then 1 else 0) := rfl
    by_cases z : k = T.length
    · subst z
      exact ⟨e.1, h'.1, h.1, fun c3 => by rw [ed, if_pos c3]; omega⟩
    · obtain ⟨j, a, b, d⟩ := ih e.1 h.2 h'.2.2.2.2 k (by omega)
      exact ⟨j, by have := h'.1; omega, b, fun c3 => by have := d c3; rw [ed]; omega⟩
theorem fc_dcx0 {c : Nat → Nat} {g w : Nat → Int32} : ∀ (S : List (Nat × Nat)) (i : Nat), fc_rx w S → fc_ok c g i S → 0 < fc_dc c S → ∃ k j, k < S.length ∧ w k = nI j ∧ j < i ∧ c j = 30 := by
  intro S
  induction S with
  | nil => exact fun _ _ _ h => absurd h (Nat.not_lt_zero 0)
  | cons e T ih =>
    intro i h h' hd
    have ed : fc_dc c (e :: T) = fc_dc c T + (if c e.1 = 30 then 1 else 0) := rfl
    by_cases c3 : c e.1 = 30
    · exact ⟨T.length, e.1, Nat.lt_succ_self _, h.1, h'.1, c3⟩
    · rw [ed, if_neg c3] at hd
      obtain ⟨k, j, a, b, d, f⟩ := ih e.1 h.2 h'.2.2.2.2 hd
      exact ⟨k, j, Nat.lt_succ_of_lt a, b, by have := h'.1; omega, f⟩
/-- and as Y does -/
theorem fc_dcy {c : Nat → Nat} {g q : Nat → Int32} : ∀ (S : List (Nat × Nat)) (i : Nat), fc_ry c q S → fc_ok c g i S → ∀ k, k < fc_hs c S → ∃ j, j < i ∧ q k = nI j ∧ (c j = 30 → 0 < fc_dc c S) := by
  intro S
  induction S with
  | nil => exact fun _ _ _ k hk => absurd hk (Nat.not_lt_zero k)
  | cons e T ih =>
    intro i h h' k hk
    have hk' : k < fc_hs c T + (if c e.1 = 28 then 2 else 1) := hk
    have ed : fc_dc c (e :: T) = fc_dc c T + (if c e.1 = 30 then 1 else 0) := rfl
    have hi := h'.1
    by_cases z : k < fc_hs c T
    · obtain ⟨j, a, b, d⟩ := ih e.1 h.2.2 h'.2.2.2.2 k z
      exact ⟨j, by omega, b, fun c3 => by have := d c3; rw [ed]; omega⟩
    · by_cases c8 : c e.1 = 28
      · rw [if_pos c8] at hk'
        obtain ⟨a1, a2, _, _⟩ := h'.2.2.2.1 c8
        by_cases z2 : k = fc_hs c T
        · subst z2
          exact ⟨e.2, by omega, (h.1 c8).1, fun c3 => by omega⟩
        · have z3 : k = fc_hs c T + 1 := by omega
          subst z3
          exact ⟨e.1, hi, (h.1 c8).2, fun c3 => by omega⟩
      · rw [if_neg c8] at hk'
        have z3 : k = fc_hs c T := by omega
        subst z3
        exact ⟨e.1, hi, h.2.1 c8, fun c3 => by rw [ed, if_pos c3]; omega⟩
theorem fc_dcy0 {c : Nat → Nat} {g q : Nat → Int32} : ∀ (S : List (Nat × Nat)) (i : Nat), fc_ry c q S → fc_ok c g i S → 0 < fc_dc c S → ∃ k j, k < fc_hs c S ∧ q k = nI j ∧ j < i ∧ c j = 30 := by
  intro S
  induction S with
  | nil => exact fun _ _ _ h => absurd h (Nat.not_lt_zero 0)
  | cons e T ih =>
    intro i h h' hd
    have ed : fc_dc c (e :: T) = fc_dc c T + (if c e.1 = 30 then 1 else 0) := rfl
    have eh : fc_hs c (e :: T) = fc_hs c T + (if c e.1 = 28 then 2 else 1) := rfl
    by_cases c3 : c e.1 = 30
    · exact ⟨fc_hs c T, e.1, by rw [eh]; split <;> omega, h.2.1 (by omega), h'.1, c3⟩
    · rw [ed, if_neg c3] at hd
      obtain ⟨k, j, a, b, d, f⟩ := ih e.1 h.2.2 h'.2.2.2.2 hd
      exact ⟨k, j, by rw [eh]; omega, b, by have := h'.1; omega, f⟩
/-! the parts linked so far -/
def fc_L1 (c : Nat → Nat) (W i : Nat) (g pt : Nat → Int32) (t : Nat) : Prop :=
  ∃ p : Nat, p < i ∧ pt (24 * W + t) = nI p ∧ g t = nI (p + 1) ∧ fc_dn c (p + 1) = fc_dn c t
def fc_Ln (c : Nat → Nat) (W i : Nat) (S : List (Nat × Nat)) (g pt : Nat → Int32) : Prop :=
  ∀ t, t < i → fc_J (c t) → (∃ b, (t, b) ∈ S) ∨ fc_L1 c W i g pt t
theorem fc_L1_m {c : Nat → Nat} {W i : Nat} {g pt g' pt' : Nat → Int32} {t : Nat} (h : fc_L1 c W i g pt t) (hg : g' t = g t) (hp : pt' (24 * W + t) = pt (24 * W + t)) : fc_L1 c W (i + 1) g' pt' t := by
  obtain ⟨p, a, b, d, e⟩ := h
  exact ⟨p, by omega, hp.trans b, hg.trans d, e⟩
theorem fc_Ln_s {c : Nat → Nat} {W i : Nat} {S S' : List (Nat × Nat)} {g pt g' pt' : Nat → Int32} (h : fc_Ln c W i S g pt)
    (hS : ∀ t b, t < i → (t, b) ∈ S → (∃ b', (t, b') ∈ S') ∨ (fc_J (c t) → fc_L1 c W (i + 1) g' pt' t))
    (hg : ∀ t, t < i → (∀ b, ¬ (t, b) ∈ S) → g' t = g t ∧ pt' (24 * W + t) = pt (24 * W + t))
    (hi : fc_J (c i) → (∃ b, (i, b) ∈ S') ∨ fc_L1 c W (i + 1) g' pt' i) : fc_Ln c W (i + 1) S' g' pt' := by
  intro t ht hJ
  by_cases e : t = i
  · subst e; exact hi hJ
  · have ht' : t < i := by omega
    by_cases m : ∃ b, (t, b) ∈ S
    · obtain ⟨b, mb⟩ := m
      rcases hS t b ht' mb with q | q
      · exact Or.inl q
      · exact Or.inr (q hJ)
    · rcases h t ht' hJ with q | q
      · exact absurd q m
      · obtain ⟨a, b⟩ := hg t ht' (fun b hb => m ⟨b, hb⟩)
        exact Or.inr (fc_L1_m q a b)
def fc_Lk (c : Nat → Nat) (W : Nat) (hn pt0 : Nat → Int32) (i : Nat) (S : List (Nat × Nat)) (w g q pt : Nat → Int32) : Prop :=
  fc_rx w S ∧ fc_ry c q S ∧ fc_ok c g i S ∧ fc_hs c S ≤ i ∧ fc_dn c i = fc_dc c S ∧ fc_Ln c W i S g pt ∧
  (∀ t, t < i → (c t = 22 → hn t ≤ nI W) ∧ (c t = 31 ∨ c t = 32 → 1 ≤ fc_dn c t)) ∧ (∀ j, j < 24 * W → pt j = pt0 j)
theorem fc_Lk_0 {c : Nat → Nat} {W : Nat} {hn pt w g q : Nat → Int32} : fc_Lk c W hn pt 0 [] w g q pt :=
  ⟨trivial, trivial, trivial, Nat.le_refl 0, rfl, fun t ht => absurd ht (Nat.not_lt_zero t), fun t ht => absurd ht (Nat.not_lt_zero t), fun _ _ => rfl⟩
section LK
variable {c : Nat → Nat} {W i j b : Nat} {hn pt0 w g q pt : Nat → Int32} {S T : List (Nat × Nat)}
theorem fc_al {Q : Nat → Prop} (h : ∀ t, t < i → Q t) (hi : Q i) : ∀ t, t < i + 1 → Q t := by
  intro t ht
  by_cases e : t = i
  · subst e; exact hi
  · exact h t (by omega)
/-- a token that is no part -/
theorem fc_lk_plain (h : fc_Lk c W hn pt0 i S w g q pt) (h1 : c i < 23 ∨ 31 < c i) (h2 : c i = 22 → hn i ≤ nI W) (h3 : c i = 32 → 1 ≤ fc_dn c i) : fc_Lk c W hn pt0 (i + 1) S w g q pt := by
  obtain ⟨a1, a2, a3, a4, a5, a6, a7, a8⟩ := h
  refine ⟨a1, a2, fc_ok_m (by omega) S a3, by omega, ?_, ?_, fc_al a7 ⟨h2, fun z => h3 (by omega)⟩, a8⟩
  · rw [fc_dn_s, if_neg (by omega), if_neg (by omega)]; exact a5
  · exact fc_Ln_s a6 (fun t b _ m => Or.inl ⟨b, m⟩) (fun t _ _ => ⟨rfl, rfl⟩) (fun z => absurd z (by unfold fc_J; omega))
/-- IF, BEGIN, DO -/
theorem fc_lk_push (h : fc_Lk c W hn pt0 i S w g q pt) (h1 : c i = 23 ∨ c i = 26 ∨ c i = 30) : fc_Lk c W hn pt0 (i + 1) ((i, 0) :: S) (upd w S.length (nI i)) g (upd q (fc_hs c S) (nI i)) pt := by
  obtain ⟨a1, a2, a3, a4, a5, a6, a7, a8⟩ := h
  have eh : fc_hs c ((i, 0) :: S) = fc_hs c S + (if c i = 28 then 2 else 1) := rfl
  have ed : fc_dc c ((i, 0) :: S) = fc_dc c S + (if c i = 30 then 1 else 0) := rfl
  refine ⟨⟨pk_us, fc_rx_u S (Nat.le_refl _) a1⟩, ⟨fun z => absurd z (by show ¬ c i = 28; omega), fun _ => pk_us, fc_ry_u S (Nat.le_refl _) a2⟩,
    ⟨Nat.lt_succ_self i, by show c i = 23 ∨ c i = 24 ∨ c i = 26 ∨ c i = 28 ∨ c i = 30; omega, a5, fun z => absurd z (by show ¬ c i = 28; omega), a3⟩, ?_, ?_, ?_, fc_al a7 ⟨fun z => by omega, fun z => by omega⟩, a8⟩
  · rw [eh, if_neg (by omega)]; omega
  · rw [ed, fc_dn_s]
    by_cases z : c i = 30
    · rw [if_pos z, if_pos z, a5]
    · rw [if_neg z, if_neg z, if_neg (by omega)]; exact a5
  · exact fc_Ln_s a6 (fun t b _ m => Or.inl ⟨b, List.mem_cons_of_mem _ m⟩) (fun t _ _ => ⟨rfl, rfl⟩) (fun _ => Or.inl ⟨0, List.mem_cons_self⟩)
/-- what the latest one says -/
theorem fc_lk_top (h : fc_Lk c W hn pt0 i ((j, b) :: T) w g q pt) : j < i ∧ T.length + 1 ≤ i ∧ fc_hs c T + 1 ≤ i ∧ w T.length = nI j ∧ (c j ≠ 28 → q (fc_hs c T) = nI j) ∧
    (c j = 28 → q (fc_hs c T) = nI b ∧ q (fc_hs c T + 1) = nI j ∧ fc_hs c T + 2 ≤ i ∧ b < j ∧ c b = 26 ∧ g j = nI (b + 1)) := by
  obtain ⟨a1, a2, a3, a4, a5, a6, a7, a8⟩ := h
  have eh : fc_hs c ((j, b) :: T) = fc_hs c T + (if c j = 28 then 2 else 1) := rfl
  have hl := fc_hs_le (c := c) (g := g) ((j, b) :: T)
  have hl' : T.length + 1 ≤ fc_hs c ((j, b) :: T) := hl
  refine ⟨a3.1, by omega, by rw [eh] at a4; split at a4 <;> omega, a1.1, fun z => a2.2.1 z, fun z => ?_⟩
  rw [eh, if_pos z] at a4
  obtain ⟨e1, e2, _, e4⟩ := a3.2.2.2.1 z
  exact ⟨(a2.1 z).1, (a2.1 z).2, a4, e1, e2, e4⟩
/-- ELSE -/
theorem fc_lk_else (h : fc_Lk c W hn pt0 i ((j, b) :: T) w g q pt) (hi : c i = 24) (hj : c j = 23) :
    fc_Lk c W hn pt0 (i + 1) ((i, 0) :: T) (upd w T.length (nI i)) (upd g j (nI (i + 1))) (upd q (fc_hs c T) (nI i)) (upd pt (24 * W + j) (nI i)) := by
  obtain ⟨a1, a2, a3, a4, a5, a6, a7, a8⟩ := h
  have hji : j < i := a3.1
  have eh : fc_hs c ((j, b) :: T) = fc_hs c T + (if c j = 28 then 2 else 1) := rfl
  have eh' : fc_hs c ((i, 0) :: T) = fc_hs c T + (if c i = 28 then 2 else 1) := rfl
  have ed : fc_dc c ((j, b) :: T) = fc_dc c T + (if c j = 30 then 1 else 0) := rfl
  have ed' : fc_dc c ((i, 0) :: T) = fc_dc c T + (if c i = 30 then 1 else 0) := rfl
  have eD : fc_dn c (i + 1) = fc_dn c i := by rw [fc_dn_s, if_neg (by omega), if_neg (by omega)]
  rw [eh, if_neg (by omega)] at a4
  rw [ed, if_neg (by omega)] at a5
  have aj : fc_dn c j = fc_dc c T := a3.2.2.1
  refine ⟨⟨pk_us, fc_rx_u T (Nat.le_refl _) a1.2⟩, ⟨fun z => absurd z (by show ¬ c i = 28; omega), fun _ => pk_us, fc_ry_u T (Nat.le_refl _) a2.2.2⟩,
    ⟨Nat.lt_succ_self i, Or.inr (Or.inl hi), a5, fun z => absurd z (by show ¬ c i = 28; omega), fc_ok_m (by omega) T (fc_ok_u T j (Nat.le_refl _) a3.2.2.2.2)⟩, ?_, ?_, ?_, fc_al a7 ⟨fun z => by omega, fun z => by omega⟩, fun x hx => (pk_un (by omega)).trans (a8 x hx)⟩
  · rw [eh', if_neg (by omega)]; omega
  · rw [ed', if_neg (by omega), eD]; exact a5
  · refine fc_Ln_s a6 (fun t b' _ m => ?_) (fun t ht m => ?_) (fun _ => Or.inl ⟨0, List.mem_cons_self⟩)
    · rcases List.mem_cons.mp m with m | m
      · have e : t = j := congrArg Prod.fst m
        subst e
        exact Or.inr (fun _ => ⟨i, by omega, pk_us, pk_us, by rw [eD]; omega⟩)
      · exact Or.inl ⟨b', List.mem_cons_of_mem _ m⟩
    · have e : t ≠ j := fun e => m b (by rw [e]; exact List.mem_cons_self)
      exact ⟨pk_un e, pk_un (by omega)⟩
/-- THEN -/
theorem fc_lk_then (h : fc_Lk c W hn pt0 i ((j, b) :: T) w g q pt) (hi : c i = 25) (hj : c j = 23 ∨ c j = 24) :
    fc_Lk c W hn pt0 (i + 1) T w (upd g j (nI (i + 1))) q (upd pt (24 * W + j) (nI i)) := by
  obtain ⟨a1, a2, a3, a4, a5, a6, a7, a8⟩ := h
  have hji : j < i := a3.1
  have eh : fc_hs c ((j, b) :: T) = fc_hs c T + (if c j = 28 then 2 else 1) := rfl
  have ed : fc_dc c ((j, b) :: T) = fc_dc c T + (if c j = 30 then 1 else 0) := rfl
  have eD : fc_dn c (i + 1) = fc_dn c i := by rw [fc_dn_s, if_neg (by omega), if_neg (by omega)]
  rw [eh, if_neg (by omega)] at a4
  rw [ed, if_neg (by omega)] at a5
  have aj : fc_dn c j = fc_dc c T := a3.2.2.1
  refine ⟨a1.2, a2.2.2, fc_ok_m (by omega) T (fc_ok_u T j (Nat.le_refl _) a3.2.2.2.2), by omega, by rw [eD]; exact a5, ?_, fc_al a7 ⟨fun z => by omega, fun z => by omega⟩, fun x hx => (pk_un (by omega)).trans (a8 x hx)⟩
  refine fc_Ln_s a6 (fun t b' _ m => ?_) (fun t ht m => ?_) (fun z => absurd z (by unfold fc_J; omega))
  · rcases List.mem_cons.mp m with m | m
    · have e : t = j := congrArg Prod.fst m
      subst e
      exact Or.inr (fun _ => ⟨i, by omega, pk_us, pk_us, by rw [eD]; omega⟩)
    · exact Or.inl ⟨b', m⟩
  · have e : t ≠ j := fun e => m b (by rw [e]; exact List.mem_cons_self)
    exact ⟨pk_un e, pk_un (by omega)⟩
/-- WHILE -/
theorem fc_lk_while (h : fc_Lk c W hn pt0 i ((j, b) :: T) w g q pt) (hi : c i = 28) (hj : c j = 26) :
    fc_Lk c W hn pt0 (i + 1) ((i, j) :: T) (upd w T.length (nI i)) (upd g i (nI (j + 1))) (upd q (fc_hs c T + 1) (nI i)) (upd pt (24 * W + i) (nI j)) := by
  obtain ⟨a1, a2, a3, a4, a5, a6, a7, a8⟩ := h
  have hji : j < i := a3.1
  have eh : fc_hs c ((j, b) :: T) = fc_hs c T + (if c j = 28 then 2 else 1) := rfl
  have eh' : fc_hs c ((i, j) :: T) = fc_hs c T + (if c i = 28 then 2 else 1) := rfl
  have ed : fc_dc c ((j, b) :: T) = fc_dc c T + (if c j = 30 then 1 else 0) := rfl
  have ed' : fc_dc c ((i, j) :: T) = fc_dc c T + (if c i = 30 then 1 else 0) := rfl
  have eD : fc_dn c (i + 1) = fc_dn c i := by rw [fc_dn_s, if_neg (by omega), if_neg (by omega)]
  rw [eh, if_neg (by omega)] at a4
  rw [ed, if_neg (by omega)] at a5
  have aj : fc_dn c j = fc_dc c T := a3.2.2.1
  refine ⟨⟨pk_us, fc_rx_u T (Nat.le_refl _) a1.2⟩, ⟨fun _ => ⟨(pk_un (by omega)).trans (a2.2.1 (by show c j ≠ 28; omega)), pk_us⟩, fun z => absurd hi z, fc_ry_u T (by omega) a2.2.2⟩,
    ⟨Nat.lt_succ_self i, by show c i = 23 ∨ c i = 24 ∨ c i = 26 ∨ c i = 28 ∨ c i = 30; omega, a5, fun _ => ⟨hji, hj, aj, pk_us⟩, fc_ok_m (by omega) T (fc_ok_u T j (by omega) a3.2.2.2.2)⟩, ?_, ?_, ?_, fc_al a7 ⟨fun z => by omega, fun z => by omega⟩, fun x hx => (pk_un (by omega)).trans (a8 x hx)⟩
  · rw [eh', if_pos hi]; omega
  · rw [ed', if_neg (by omega), eD]; exact a5
  · refine fc_Ln_s a6 (fun t b' ht m => ?_) (fun t ht m => ?_) (fun _ => Or.inl ⟨j, List.mem_cons_self⟩)
    · rcases List.mem_cons.mp m with m | m
      · have e : t = j := congrArg Prod.fst m
        subst e
        exact Or.inr (fun z => absurd z (by unfold fc_J; omega))
      · exact Or.inl ⟨b', List.mem_cons_of_mem _ m⟩
    · exact ⟨pk_un (by omega), pk_un (by omega)⟩
/-- REPEAT -/
theorem fc_lk_repeat (h : fc_Lk c W hn pt0 i ((j, b) :: T) w g q pt) (hi : c i = 29) (hj : c j = 28) :
    fc_Lk c W hn pt0 (i + 1) T w (upd (upd g i (nI (b + 1))) j (nI (i + 1))) q (upd (upd pt (24 * W + j) (nI i)) (24 * W + i) (nI b)) := by
  obtain ⟨a1, a2, a3, a4, a5, a6, a7, a8⟩ := h
  have hji : j < i := a3.1
  have eh : fc_hs c ((j, b) :: T) = fc_hs c T + (if c j = 28 then 2 else 1) := rfl
  have ed : fc_dc c ((j, b) :: T) = fc_dc c T + (if c j = 30 then 1 else 0) := rfl
  have eD : fc_dn c (i + 1) = fc_dn c i := by rw [fc_dn_s, if_neg (by omega), if_neg (by omega)]
  rw [eh, if_pos hj] at a4
  rw [ed, if_neg (by omega)] at a5
  have aj : fc_dn c j = fc_dc c T := a3.2.2.1
  obtain ⟨w1, w2, w3, w4⟩ : b < j ∧ c b = 26 ∧ fc_dn c b = fc_dc c T ∧ g j = nI (b + 1) := a3.2.2.2.1 hj
  have eB : fc_dn c (b + 1) = fc_dn c b := by rw [fc_dn_s, if_neg (by omega), if_neg (by omega)]
  refine ⟨a1.2, a2.2.2, fc_ok_m (by omega) T (fc_ok_u T j (Nat.le_refl _) (fc_ok_u T j (by omega) a3.2.2.2.2)), by omega, by rw [eD]; exact a5, ?_, fc_al a7 ⟨fun z => by omega, fun z => by omega⟩, fun x hx => (pk_un (by omega)).trans ((pk_un (by omega)).trans (a8 x hx))⟩
  refine fc_Ln_s a6 (fun t b' ht m => ?_) (fun t ht m => ?_) (fun z => Or.inr ⟨b, by omega, pk_us, (pk_un (by omega)).trans pk_us, by rw [eB]; omega⟩)
  · rcases List.mem_cons.mp m with m | m
    · have e : t = j := congrArg Prod.fst m
      subst e
      exact Or.inr (fun _ => ⟨i, by omega, (pk_un (by omega)).trans pk_us, pk_us, by rw [eD]; omega⟩)
    · exact Or.inl ⟨b', m⟩
  · have e : t ≠ j := fun e => m b (by rw [e]; exact List.mem_cons_self)
    exact ⟨(pk_un e).trans (pk_un (by omega)), (pk_un (by omega)).trans (pk_un (by omega))⟩
/-- UNTIL, LOOP -/
theorem fc_lk_until (h : fc_Lk c W hn pt0 i ((j, b) :: T) w g q pt) (hij : (c i = 27 ∧ c j = 26) ∨ (c i = 31 ∧ c j = 30)) :
    fc_Lk c W hn pt0 (i + 1) T w (upd g i (nI (j + 1))) q (upd pt (24 * W + i) (nI j)) := by
  obtain ⟨a1, a2, a3, a4, a5, a6, a7, a8⟩ := h
  have hji : j < i := a3.1
  have eh : fc_hs c ((j, b) :: T) = fc_hs c T + (if c j = 28 then 2 else 1) := rfl
  have ed : fc_dc c ((j, b) :: T) = fc_dc c T + (if c j = 30 then 1 else 0) := rfl
  rw [eh, if_neg (by omega)] at a4
  have aj : fc_dn c j = fc_dc c T := a3.2.2.1
  have e1 : fc_dn c (i + 1) = fc_dc c T ∧ fc_dn c (j + 1) = fc_dn c i ∧ (c i = 31 → 1 ≤ fc_dn c i) := by
    rcases hij with ⟨z, y⟩ | ⟨z, y⟩
    · rw [ed, if_neg (by omega)] at a5
      rw [fc_dn_s, fc_dn_s, if_neg (by omega), if_neg (by omega), if_neg (by omega), if_neg (by omega)]
      exact ⟨a5, by omega, fun _ => by omega⟩
    · rw [ed, if_pos y] at a5
      rw [fc_dn_s, fc_dn_s, if_neg (by omega), if_pos z, if_pos y]
      exact ⟨by omega, by omega, fun _ => by omega⟩
  refine ⟨a1.2, a2.2.2, fc_ok_m (by omega) T (fc_ok_u T j (by omega) a3.2.2.2.2), by omega, e1.1, ?_, fc_al a7 ⟨fun z => by omega, fun z => e1.2.2 (by omega)⟩, fun x hx => (pk_un (by omega)).trans (a8 x hx)⟩
  refine fc_Ln_s a6 (fun t b' ht m => ?_) (fun t ht m => ?_) (fun z => Or.inr ⟨j, by omega, pk_us, pk_us, e1.2.1⟩)
  · rcases List.mem_cons.mp m with m | m
    · have e : t = j := congrArg Prod.fst m
      subst e
      exact Or.inr (fun z => absurd z (by unfold fc_J; omega))
    · exact Or.inl ⟨b', m⟩
  · exact ⟨pk_un (by omega), pk_un (by omega)⟩
end LK
/-- the word that both sides have made -/
theorem fc_new {c : Nat → Nat} {hn pt0 w g q pt len o n wl co ca : Nat → Int32} {W h lv : Nat} (hc : ∀ t, c t < 34) (hh : h ≤ 24) (hW : W < 10)
    (hL : fc_Lk c W hn pt0 h [] w g q pt) (h22 : ∀ t, c t = 22 → ∃ m : Nat, m < 10 ∧ hn t = nI m)
    (ho : ∀ t, t < h → o (24 * W + t) = nI (c t)) (hN : ∀ t, t < h → n (24 * W + t) = hn t)
    (hco : ∀ t, t < h → ¬ (lv = 1 ∧ (c t = 25 ∨ c t = 26)) → co (24 * W + fc_pl lv c t) = nI (c t) ∧ (fc_J (c t) → ∀ p, p < h → g t = nI (p + 1) → ca (24 * W + fc_pl lv c t) = nI (fc_pl lv c (p + 1))) ∧ (¬ fc_J (c t) → ca (24 * W + fc_pl lv c t) = lw_i16 (hn t)))
    (hl : len W = nI h) (hwl : wl W = nI (fc_pl lv c h)) : fc_Word W h (fc_pl lv c) (fc_dn c) len o n pt wl co ca := by
  obtain ⟨a1, a2, a3, a4, a5, a6, a7, a8⟩ := hL
  refine ⟨hh, rfl, rfl, fc_pl_le h, hl, hwl, fun i hi => fc_pl_m h hi, fun i hi => ?_⟩
  have hp : ∃ p : Nat, fc_J (c i) → p < h ∧ pt (24 * W + i) = nI p ∧ g i = nI (p + 1) ∧ fc_dn c (p + 1) = fc_dn c i := by
    by_cases hJ : fc_J (c i)
    · rcases a6 i hi hJ with ⟨b, m⟩ | ⟨p, e⟩
      · exact absurd m List.not_mem_nil
      · exact ⟨p, fun _ => e⟩
    · exact ⟨0, fun z => absurd z hJ⟩
  obtain ⟨p, hp⟩ := hp
  refine ⟨c i, p, hc i, ho i hi, fc_pl_le i, ?_, fun hJ => ⟨(hp hJ).2.1, (hp hJ).1, (hp hJ).2.2.2⟩, fun z => ?_, fun z => ?_, fun z => ?_, fun z => (a7 i hi).2 (Or.inr z), fun y z => ?_⟩
  · by_cases k : lv = 1 ∧ (c i = 25 ∨ c i = 26)
    · exact Or.inl ⟨k.2, fc_pl_d k⟩
    · obtain ⟨b1, b2, b3⟩ := hco i hi k
      exact Or.inr ⟨fc_pl_k k, fc_pl_lt k hi, b1, fun hJ => b2 hJ p (hp hJ).1 (hp hJ).2.2.1, fun hJ => by rw [hN i hi]; exact b3 hJ⟩
  · obtain ⟨m, m1, m2⟩ := h22 i z
    have := (a7 i hi).1 z
    rw [m2, nI_leI (by omega) (by omega)] at this
    exact ⟨m, this, (hN i hi).trans m2⟩
  · rw [fc_dn_s, if_pos z]
  · have := (a7 i hi).2 (Or.inl z)
    rw [fc_dn_s, if_neg (by omega), if_pos z]
    omega
  · rw [fc_dn_s, if_neg y, if_neg z]
