/-! run: the owed statement -/
theorem i_vc_run {k : Nat} {u : SX} {v : SY} (I : i_Rel k u v) (hk : k + 3 ≤ 1536) (v1 : Int32) : wpX_run (fun r u' => wpY_run (fun r' v' => r' = r ∧ i_Rel (k + 3) u' v') v v1) u v1 := by
  have I0 := I
  obtain ⟨h, W, d, s, p, e, c, LL, PP, DD, wc, cc, lo, ov, yh, yn, wa, go, pa, co, ca, wl, sk, ce, tx, cw, cp, cl, li, lc, le, op, nn, pt, oq, ya, rfl, rfl, h1, h2, h3, h4, h5, h6, h7, h8, h9, h10, h11, h12⟩ := I
  unfold wpX_run wpY_run
  dsimp only
  rcases pk_ix v1 (n := W) (by omega) with z | z | ⟨w, hw, rfl⟩
  · refine br_t z ?_
    exact fr_in (by omega) (fun _ => br_t rfl ⟨rfl, I0⟩) (fun _ => br_t rfl ⟨rfl, I0⟩) (fun j hj e => absurd z (by rw [e]; exact nI_pos (by omega)))
  · have z0 : ¬ v1 < 0 := fun y => Int32.not_lt.mpr z (Int32.lt_of_lt_of_le y (nI_pos' (by omega)))
    refine br_f z0 (br_f (Int32.not_lt.mpr z) ?_)
    exact fr_in (by omega) (fun _ => br_t rfl ⟨rfl, I0⟩) (fun _ => br_t rfl ⟨rfl, I0⟩) (fun j hj e => absurd (nI_lt hj (by omega)) (by rw [← e]; exact Int32.not_lt.mpr z))
  · obtain ⟨l24, P0, D0, _, _, _, _, _⟩ := h12 w hw
    have F0 : fc_Fr W 0 LL PP DD (fun _ => 0) (fun _ => 0) (fun _ => 0) cw cp ya cl := fun f hf => absurd hf (Nat.not_lt_zero f)
    have F1 := fr_begin F0 (w := w) hw P0 D0 (x := nI 0) rfl
    have M : 25 * (300 - 0) + fc_sm (fun f => LL (fc_set (fun _ => 0) 0 w f) - fc_set (fun _ => 0) 0 0 f + 1) (0 + 1) ≤ 7600 := by
      rw [fm_begin]
      show 25 * (300 - 0) + (0 + (LL w + 1)) ≤ 7600
      omega
    have R : fc_Rn W LL PP DD (nI h) wc (nI W) (nI e) yh (fun j => nI (c j)) (fun j => lw_i16 (yn j)) wa go pa co ca wl yn le op nn pt oq 7600
        (nI h, wc, nI W, nI e, nI d, nI 0, nI 0, nI (0 + 1), nI 0, (fun j => nI (c j)), (fun j => lw_i16 (yn j)), wa, go, pa, co, ca, wl, sk, ce, tx, upd cw 0 (nI w), upd cp 0 0, upd cl 0 (nI 0), li, lc)
        (nI h, nI W, nI d, nI (0 + 1), nI 0, nI 0, nI 0, 0, yh, (fun j => nI (c j)), yn, le, op, nn, pt, ce, sk, oq, upd cw 0 (nI w), upd ya 0 0, upd cl 0 (nI 0), li, lc, tx) :=
      ⟨0, 0, d, 0, 0, _, _, _, sk, ce, tx, _, _, _, li, lc, _, rfl, rfl, by omega, by omega, h3, by omega, rfl, by omega, h8, h9, h10, h11, F1, M⟩
    obtain ⟨r, u', v', O, oX, oY⟩ := fc_sim h2 h12 7600 _ _ R 0 0 8000 8000 (by omega) (by omega) (by omega) (by omega)
    obtain ⟨s', d', p', cc', lo', ov', yh', sk', ce', tx', cw', cp', cl', li', lc', ya', g1, g2, g3, g4, g5, g6, g7, rfl, rfl⟩ := O
    refine br_f (nI_pos (by omega)) (br_t (nI_lt hw (by omega)) ?_)
    refine xp_begin (k := 0) (by omega) ?_
    refine ⟨8000, oX _ ?_⟩
    refine fr_in (by omega) (fun y => absurd y (nI_pos (by omega))) (fun y => absurd y (nI_ge hw (by omega))) (fun _ _ _ => br_f fn_10 ?_)
    refine yp_begin (k := 0) (by omega) ?_
    refine ⟨8000, oY _ ⟨rfl, ?_⟩⟩
    exact ⟨h, W, d', s', p', e, c, LL, PP, DD, wc, cc', lo', ov', yh', yn, wa, go, pa, co, ca, wl, sk', ce', tx', cw', cp', cl', li', lc', le, op, nn, pt, oq, ya', rfl, rfl, h1, h2, g2, by omega, h5, h6, h7, g4, g5, g6, g7, h12⟩
