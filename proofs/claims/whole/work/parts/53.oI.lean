/-! obligations: undo, hold, restore, tell, forget -/
/-- the reference's now out of a row of rows -/
theorem r_undo {np d o k : Nat} {m : MzM} {w : Nat → Nat} (hk : k < 40) (ho : o = 39 * k) (e : mz_rd m 239 52 = nI k) (h : zRO np m 273 o w) : ∃ m', H_X12_undo_21 d (nI 0) m = some (1, m') ∧ zFr (fun a _ => a = 270) m m' ∧ zRA np m' 270 w := by
  have key := zlp (fun j x => H_X12_undo_21 d (nI j) x) (fun r => r.1 = 1 ∧ zFr (fun a _ => a = 270) m r.2 ∧ zRA np r.2 270 w) (fun j x => zFr (fun a _ => a = 270) m x ∧ ∀ i, i < j → mz_rd x 270 i = mz_rd m 273 (o + i)) 39 ?_ ?_ 0 m (Nat.zero_le _) ⟨zFr_r, fun j hj => by omega⟩
  · obtain ⟨⟨r1, r2⟩, q1, rfl, q2, q3⟩ := key
    exact ⟨r2, q1, q2, q3⟩
  · rintro j x hj ⟨F, S⟩
    left
    show ∃ y, (zFr (fun a _ => a = 270) m y ∧ ∀ i, i < j + 1 → mz_rd y 270 i = mz_rd m 273 (o + i)) ∧ H_X12_undo_21 d (nI j) x = H_X12_undo_21 d (nI (j + 1)) y
    have g39 : ¬ (39 : Int32) ≤ nI j := nI_ge (b := 39) hj (by omega)
    have x52 : mz_rd x 239 52 = nI k := (F.1 239 52 (by omega)).trans e
    rw [H_X12_undo_21_eq, if_neg g39, x52, z_mul39, nI_add, n_ok (by omega), n_ok (by omega), n_gd (by omega), n_gd (by omega), nI_clamp (by omega), nI_clamp (by omega), nI_1]
    refine ⟨_, ⟨zFr_w2 F rfl, fun i hi => ?_⟩, rfl⟩
    by_cases c : i = j
    · subst c
      rw [m_eq, F.1 273 _ (by omega), ho]
    · rw [m_ni c]
      exact S i (by omega)
  · rintro x ⟨F, S⟩
    have g39 : (39 : Int32) ≤ nI 39 := by decide
    show ∃ r, H_X12_undo_21 d (nI 39) x = some r ∧ _
    rw [H_X12_undo_21_eq, if_pos g39]
    exact ⟨_, rfl, rfl, F, fun k h1 h2 => (S k h1).trans (h k h1 h2)⟩
theorem o_undo : mz_o_undo zI := by
  intro n m hn hI
  obtain ⟨T, lv, v, h⟩ := id hI
  obtain ⟨h1, h2, h3, h4, h5, h6, h7, h8, h9, h10, h11, h12⟩ := h
  obtain ⟨u, x, u1, u2, u3, u4, u5, u6⟩ := id h8
  have x1 := R_X11_undo_eq 8 m
  rw [R_X5_forgetFound_eq, Option.bind_some, R_X1_bringBack_eq 8 29 _ z_s29, m_ne (show 37 ≠ 201 by omega), u3] at x1
  by_cases c0 : u = 0
  · subst c0
    rw [if_neg (by decide), Option.bind_some] at x1
    have x2 : R_X12_undo 8 (mz_wr m 201 4 0) = some (0, mz_wr m 201 4 0) := by
      rw [R_X12_undo_eq, m_ne (show 239 ≠ 201 by omega), u5, if_neg (by decide)]
    have f : zFr (fun a i => a = 201 ∧ i = 4) m (mz_wr m 201 4 0) := zFr_w ⟨rfl, rfl⟩
    refine ⟨_, _, _, x1, x2, T, lv, v, zTC_f h1 (fun a i t => f.1 a i ?_), zTR_f h2 (fun a i t => f.1 a i ?_), zSC_f h3 (fun a i p q => f.1 a i ?_), zRA_f h4 (fun i => f.1 _ i ?_), zB_mono h5 (zBn_1 n) (zBn_2 hn), zTape_f h6 (fun a i t => f.1 a i ?_), ?_, zHi_f h8 (zBn_1 n) (zBn_2 hn) (fun a i t => f.1 a i ?_), zSl_f h9 (zBn_1 n) (zBn_2 hn) (fun a i t => f.1 a i ?_), zTo_f h10 (fun a i t => f.1 a i ?_), Or.inl m_eq, h12⟩
    · unfold zTx at t; omega
    · unfold zRx at t; omega
    · omega
    · omega
    · unfold zTapeG at t; omega
    · rw [m_ne (by omega), m_ne (by omega)]; exact h7
    · unfold zHiG at t; omega
    · unfold zSlG at t; omega
    · unfold zToG at t; omega
  · obtain ⟨w, w1, w2, w3⟩ := u6 0 (by omega)
    rw [Nat.sub_zero] at w2 w3
    have hy := Nat.mod_lt (x + 39) (show 40 > 0 by omega)
    have u0 : ¬ nI u = 0 := nI_ne0 (by omega) (by omega)
    have a40 : nI x + 40 = nI (x + 39 + 1) := nI_add x 40
    have r40 : nI (x + 39) - nI (x + 39) / 40 * 40 = nI ((x + 39) % 40) := pk_rem (d := 40) (by omega) (by omega) (by omega)
    have su : nI u - 1 = nI (u - 1) := pk_sub (b := 1) (by omega)
    rw [if_pos u0, m_ne (show 37 ≠ 201 by omega), u4, a40, nI_pred, r40, m_ni (show 2 ≠ 1 by omega), m_ne (show 37 ≠ 201 by omega), u3, su, m_ni (show 1 ≠ 2 by omega), m_eq, n_ok (by omega), n_gd hy, nI_clamp (by omega)] at x1
    have f0 : zFr (fun a i => (a = 201 ∧ i = 4) ∨ a = 37) m (mz_wr (mz_wr (mz_wr m 201 4 0) 37 1 (nI ((x + 39) % 40))) 37 2 (nI (u - 1))) := zFr_w2 (zFr_w2 (zFr_w (Or.inl ⟨rfl, rfl⟩)) (Or.inr rfl)) (Or.inr rfl)
    have s0 : zSC (tN T) (mz_wr (mz_wr (mz_wr m 201 4 0) 37 1 (nI ((x + 39) % 40))) 37 2 (nI (u - 1))) (39 + 4 * ((x + 39) % 40)) w := zSC_f w2 (fun a i p q => f0.1 a i (by omega))
    obtain ⟨m1, e1, f1, g1⟩ := c_copy (d := 8) z_s29 (isS_ring _ hy) (by omega) s0
    rw [e1, Option.bind_some, Option.bind_some] at x1
    dsimp only at x1
    rw [show mz_g (decide ((1 : Int32) = 0 ∨ (1 : Int32) = 1)) (some ((1 : Int32), m1)) = some (1, m1) from rfl] at x1
    have A1 : ∀ a i, ¬ ((a = 201 ∧ i = 4) ∨ a = 37) → ¬ (29 ≤ a ∧ a ≤ 29 + 3) → mz_rd m1 a i = mz_rd m a i := fun a i k1 k2 => (f1.1 a i k2).trans (f0.1 a i k1)
    have y5 : mz_rd m1 239 52 = nI u := (A1 239 52 (by omega) (by omega)).trans u5
    have f2 : zFr (fun a i => a = 239 ∧ i = 52) m1 (mz_wr m1 239 52 (nI (u - 1))) := zFr_w ⟨rfl, rfl⟩
    have z3 : zRO (tN T) (mz_wr m1 239 52 (nI (u - 1))) 273 (39 * (u - 1)) w := zRO_f w3 (fun k hk => by rw [m_ne (by omega)]; exact A1 _ _ (by omega) (by omega))
    obtain ⟨m3, e3, f3, g3⟩ := r_undo (d := 8) (k := u - 1) (by omega) rfl m_eq z3
    have e3' : H_X12_undo_21 8 0 (mz_wr m1 239 52 (nI (u - 1))) = some (1, m3) := e3
    have x2 : R_X12_undo 8 m1 = some (1, m3) := by rw [R_X12_undo_eq, y5, if_pos u0, su, e3']
    have A : ∀ a i, ¬ ((a = 201 ∧ i = 4) ∨ a = 37) → ¬ (29 ≤ a ∧ a ≤ 29 + 3) → ¬ (a = 239 ∧ i = 52) → ¬ a = 270 → mz_rd m3 a i = mz_rd m a i := fun a i k1 k2 k3 k4 => (f3.1 a i k4).trans ((f2.1 a i k3).trans (A1 a i k1 k2))
    refine ⟨_, _, _, x1, x2, T, lv, w, zTC_f h1 (fun a i t => A a i ?_ ?_ ?_ ?_), zTR_f h2 (fun a i t => A a i ?_ ?_ ?_ ?_), zSC_f g1 (fun a i p q => (f3.1 a i ?_).trans (f2.1 a i ?_)), g3, zB_mono w1 (zBn_1 n) (zBn_2 hn), zTape_f h6 (fun a i t => A a i ?_ ?_ ?_ ?_), ?_, ?_, zSl_f h9 (zBn_1 n) (zBn_2 hn) (fun a i t => A a i ?_ ?_ ?_ ?_), zTo_f h10 (fun a i t => A a i ?_ ?_ ?_ ?_), Or.inl ?_, ?_⟩
    · unfold zTx at t; omega
    · unfold zTx at t; omega
    · unfold zTx at t; omega
    · unfold zTx at t; omega
    · unfold zRx at t; omega
    · unfold zRx at t; omega
    · unfold zRx at t; omega
    · unfold zRx at t; omega
    · omega
    · omega
    · unfold zTapeG at t; omega
    · unfold zTapeG at t; omega
    · unfold zTapeG at t; omega
    · unfold zTapeG at t; omega
    · rw [A 1 13 (by omega) (by omega) (by omega) (by omega), A 239 17 (by omega) (by omega) (by omega) (by omega)]; exact h7
    · refine ⟨u - 1, (x + 39) % 40, by omega, hy, ?_, ?_, ?_, ?_⟩
      · rw [f3.1 37 2 (by omega), f2.1 37 2 (by omega), f1.1 37 2 (by omega), m_eq]
      · rw [f3.1 37 1 (by omega), f2.1 37 1 (by omega), f1.1 37 1 (by omega), m_ni (by omega), m_eq]
      · rw [f3.1 239 52 (by omega), m_eq]
      · intro j hj
        obtain ⟨w', y1, y2, y3⟩ := u6 (j + 1) (by omega)
        have ex : ((x + 39) % 40 + 39 - j) % 40 = (x + 39 - (j + 1)) % 40 := by omega
        have lt := Nat.mod_lt (x + 39 - (j + 1)) (show 40 > 0 by omega)
        have ey : u - 1 - 1 - j = u - 1 - (j + 1) := by omega
        refine ⟨w', zB_mono y1 (zBn_1 n) (zBn_2 hn), ?_, ?_⟩
        · rw [ex]
          exact zSC_f y2 (fun a i p q => A a i (by omega) (by omega) (by omega) (by omega))
        · rw [ey]
          exact zRO_f y3 (fun k hk => A _ _ (by omega) (by omega) (by omega) (by omega))
    · unfold zSlG at t; omega
    · unfold zSlG at t; omega
    · unfold zSlG at t; omega
    · unfold zSlG at t; omega
    · unfold zToG at t; omega
    · unfold zToG at t; omega
    · unfold zToG at t; omega
    · unfold zToG at t; omega
    · rw [f3.1 201 4 (by omega), f2.1 201 4 (by omega), f1.1 201 4 (by omega), m_ne (by omega), m_ne (by omega), m_eq]
    · unfold zKy
      rw [f3.2, f2.2, f1.2, f0.2]
      exact h12
theorem z_nar1 : vp_nar .boolean 1 = zb true := by decide
theorem o_hold : mz_o_hold zI := by
  intro n m a0 hn hI
  obtain ⟨T, lv, v, h⟩ := id hI
  obtain ⟨h1, h2, h3, h4, h5, h6, h7, h8, h9, h10, h11, h12⟩ := h
  have x1 := R_X11_hold_eq 8 a0 m
  have x2 := fun mm => R_X12_hold_eq 8 a0 mm
  cases c : zIsP 3 a0 with
  | false =>
    rw [c_isL, c, Option.bind_some] at x1
    have x3 := x2 m
    rw [r_in (n := 3) (by omega) (by decide), c, Option.bind_some] at x3
    exact ⟨_, _, _, x1, x3, zI_q hn hI zFr_r zFr_r⟩
  | true =>
    obtain ⟨s, hs, rfl⟩ := zIsP_t c (by omega)
    rw [c_isL, c, Option.bind_some] at x1
    dsimp only at x1
    obtain ⟨m1, e1, f1, g1⟩ := c_copy (d := 8) (isS_slots s hs) z_s29 (by omega) h3
    rw [zb_t1, n_ok (by omega), n_gd hs, nI_clamp (by omega), e1, Option.bind_some, n_gd hs, z_nar1] at x1
    have f2 : zFr (fun a i => (227 + 4 * s ≤ a ∧ a ≤ 227 + 4 * s + 3) ∨ (a = 200 ∧ i = s)) m (mz_wr m1 200 s (zb true)) := zFr_w2 (zFr_m f1 (fun a i z => Or.inl z)) (Or.inr ⟨rfl, rfl⟩)
    have N : zRA (tN T) (mz_wr m1 200 s (zb true)) 270 v := zRA_f h4 (fun i => f2.1 270 i (by omega))
    have key : ∃ r, H_X12_hold_20 8 (nI s) (nI 0) (mz_wr (mz_wr m1 200 s (zb true)) 282 s (zb true)) = some r ∧ r.1 = 1 ∧ zFr (fun a i => (a = 282 ∧ i = s) ∨ (a = 283 ∧ 39 * s ≤ i ∧ i < 39 * s + 39)) (mz_wr m1 200 s (zb true)) r.2 ∧ mz_rd r.2 282 s = zb true ∧ zRO (tN T) r.2 283 (39 * s) v := by
      refine zlp (fun j x => H_X12_hold_20 8 (nI s) (nI j) x) (fun r => r.1 = 1 ∧ zFr (fun a i => (a = 282 ∧ i = s) ∨ (a = 283 ∧ 39 * s ≤ i ∧ i < 39 * s + 39)) (mz_wr m1 200 s (zb true)) r.2 ∧ mz_rd r.2 282 s = zb true ∧ zRO (tN T) r.2 283 (39 * s) v) (fun j x => zFr (fun a i => (a = 282 ∧ i = s) ∨ (a = 283 ∧ 39 * s ≤ i ∧ i < 39 * s + 39)) (mz_wr m1 200 s (zb true)) x ∧ mz_rd x 282 s = zb true ∧ ∀ i, i < j → mz_rd x 283 (39 * s + i) = mz_rd (mz_wr m1 200 s (zb true)) 270 i) 39 ?_ ?_ 0 _ (by omega) ⟨zFr_w (Or.inl ⟨rfl, rfl⟩), m_eq, fun i hi => by omega⟩
      · rintro j x hj ⟨F, S, P⟩
        left
        have g39 : ¬ (39 : Int32) ≤ nI j := nI_ge (b := 39) hj (by omega)
        show ∃ y, (zFr (fun a i => (a = 282 ∧ i = s) ∨ (a = 283 ∧ 39 * s ≤ i ∧ i < 39 * s + 39)) (mz_wr m1 200 s (zb true)) y ∧ mz_rd y 282 s = zb true ∧ ∀ i, i < j + 1 → mz_rd y 283 (39 * s + i) = mz_rd (mz_wr m1 200 s (zb true)) 270 i) ∧ H_X12_hold_20 8 (nI s) (nI j) x = H_X12_hold_20 8 (nI s) (nI (j + 1)) y
        rw [H_X12_hold_20_eq, if_neg g39, z_mul39, nI_add, n_ok (by omega), n_ok (by omega), n_gd (by omega), n_gd (by omega), nI_clamp (by omega), nI_clamp (by omega), nI_1]
        refine ⟨_, ⟨zFr_w2 F (Or.inr ⟨rfl, by omega, by omega⟩), by rw [m_ne (by omega)]; exact S, fun i hi => ?_⟩, rfl⟩
        by_cases q : i = j
        · subst q
          rw [m_eq, F.1 270 i (by omega)]
        · rw [m_ni (by omega)]
          exact P i (by omega)
      · rintro x ⟨F, S, P⟩
        have g39 : (39 : Int32) ≤ nI 39 := by decide
        show ∃ r, H_X12_hold_20 8 (nI s) (nI 39) x = some r ∧ _
        rw [H_X12_hold_20_eq, if_pos g39]
        exact ⟨_, rfl, rfl, F, S, fun k k1 k2 => (P k k1).trans (N k k1 k2)⟩
    obtain ⟨⟨r1, m3⟩, e3, rfl, f3, s3, o3⟩ := key
    have e3' : H_X12_hold_20 8 (nI s) 0 (mz_wr (mz_wr m1 200 s (zb true)) 282 s (zb true)) = some (1, m3) := e3
    have x3 := x2 (mz_wr m1 200 s (zb true))
    rw [r_in (n := 3) (by omega) (by decide), c, Option.bind_some] at x3
    dsimp only at x3
    rw [zb_t1, n_ok (by omega), n_gd hs, nI_clamp (by omega), z_nar1, e3'] at x3
    have A : ∀ a i, ¬ ((227 + 4 * s ≤ a ∧ a ≤ 227 + 4 * s + 3) ∨ (a = 200 ∧ i = s)) → ¬ ((a = 282 ∧ i = s) ∨ (a = 283 ∧ 39 * s ≤ i ∧ i < 39 * s + 39)) → mz_rd m3 a i = mz_rd m a i := fun a i k1 k2 => (f3.1 a i k2).trans (f2.1 a i k1)
    refine ⟨_, _, _, x1, x3, T, lv, v, zTC_f h1 (fun a i t => A a i ?_ ?_), zTR_f h2 (fun a i t => A a i ?_ ?_), zSC_f h3 (fun a i p q => A a i ?_ ?_), zRA_f h4 (fun i => A _ i ?_ ?_), zB_mono h5 (zBn_1 n) (zBn_2 hn), zTape_f h6 (fun a i t => A a i ?_ ?_), ?_, zHi_f h8 (zBn_1 n) (zBn_2 hn) (fun a i t => A a i ?_ ?_), ?_, zTo_f h10 (fun a i t => A a i ?_ ?_), zRo_f h11 (fun a i t => A a i ?_ ?_), ?_⟩
    · unfold zTx at t; omega
    · unfold zTx at t; omega
    · unfold zRx at t; omega
    · unfold zRx at t; omega
    · omega
    · omega
    · omega
    · omega
    · unfold zTapeG at t; omega
    · unfold zTapeG at t; omega
    · rw [A 1 13 (by omega) (by omega), A 239 17 (by omega) (by omega)]; exact h7
    · unfold zHiG at t; omega
    · unfold zHiG at t; omega
    · intro j hj
      by_cases q : j = s
      · subst q
        refine ⟨true, ?_, s3, fun _ => ⟨v, zB_mono h5 (zBn_1 n) (zBn_2 hn), ?_, o3⟩⟩
        · rw [f3.1 200 j (by omega), m_eq]
        · exact zSC_f g1 (fun a i p q => by rw [f3.1 a i (by omega), m_ne (by omega)])
      · obtain ⟨b, k1, k2, k3⟩ := h9 j hj
        refine ⟨b, (A 200 j (by omega) (by omega)).trans k1, (A 282 j (by omega) (by omega)).trans k2, fun hb => ?_⟩
        obtain ⟨w, w1, w2, w3⟩ := k3 hb
        exact ⟨w, zB_mono w1 (zBn_1 n) (zBn_2 hn), zSC_f w2 (fun a i p q => A a i (by omega) (by omega)), zRO_f w3 (fun k hk => A _ _ (by omega) (by omega))⟩
    · unfold zToG at t; omega
    · unfold zToG at t; omega
    · unfold zRoG at t; omega
    · unfold zRoG at t; omega
    · unfold zKy
      rw [f3.2, f2.2]
      exact h12
theorem o_restore : mz_o_restore zI := by
  intro n m a0 hn hI
  obtain ⟨T, lv, v, h⟩ := id hI
  obtain ⟨h1, h2, h3, h4, h5, h6, h7, h8, h9, h10, h11, h12⟩ := h
  have x1 := R_X11_restore_eq 8 a0 m
  have x2 := fun mm => R_X12_restore_eq 8 a0 mm
  cases c : zIsP 3 a0 with
  | false =>
    rw [c_isL, c, Option.bind_some] at x1
    have x3 := x2 m
    rw [r_in (n := 3) (by omega) (by decide), c, Option.bind_some] at x3
    exact ⟨_, _, _, x1, x3, zI_q hn hI zFr_r zFr_r⟩
  | true =>
    obtain ⟨s, hs, rfl⟩ := zIsP_t c (by omega)
    obtain ⟨b, k1, k2, k3⟩ := h9 s hs
    rw [c_isL, c, Option.bind_some] at x1
    dsimp only at x1
    rw [zb_t0, n_ok (by omega), n_gd hs, nI_clamp (by omega), k1] at x1
    cases b with
    | false =>
      rw [zb_f1] at x1
      have x3 := x2 m
      rw [r_in (n := 3) (by omega) (by decide), c, Option.bind_some] at x3
      dsimp only at x3
      rw [zb_t0, n_ok (by omega), n_gd hs, nI_clamp (by omega), k2, zb_f1] at x3
      exact ⟨_, _, _, x1, x3, zI_q hn hI zFr_r zFr_r⟩
    | true =>
      obtain ⟨w, w1, w2, w3⟩ := k3 rfl
      obtain ⟨m1, e1, f1, g1⟩ := c_copy (d := 8) z_s29 (isS_slots s hs) (by omega) w2
      rw [zb_t1, n_gd hs, e1, Option.bind_some, R_X1_clear_eq, Option.bind_some, R_X5_forgetFound_eq, Option.bind_some] at x1
      have f2 : zFr (fun a i => (29 ≤ a ∧ a ≤ 29 + 3) ∨ (a = 37 ∧ i = 2) ∨ (a = 201 ∧ i = 4)) m (mz_wr (mz_wr m1 37 2 0) 201 4 0) := zFr_w2 (zFr_w2 (zFr_m f1 (fun a i z => Or.inl z)) (Or.inr (Or.inl ⟨rfl, rfl⟩))) (Or.inr (Or.inr ⟨rfl, rfl⟩))
      have w4 : zRO (tN T) (mz_wr (mz_wr m1 37 2 0) 201 4 0) 283 (39 * s) w := zRO_f w3 (fun k hk => f2.1 _ _ (by omega))
      have key : ∃ r, H_X12_restore_22 8 (nI s) (nI 0) (mz_wr (mz_wr m1 37 2 0) 201 4 0) = some r ∧ r.1 = 1 ∧ zFr (fun a i => a = 270 ∨ (a = 239 ∧ i = 52)) (mz_wr (mz_wr m1 37 2 0) 201 4 0) r.2 ∧ mz_rd r.2 239 52 = 0 ∧ zRA (tN T) r.2 270 w := by
        refine zlp (fun j x => H_X12_restore_22 8 (nI s) (nI j) x) (fun r => r.1 = 1 ∧ zFr (fun a i => a = 270 ∨ (a = 239 ∧ i = 52)) (mz_wr (mz_wr m1 37 2 0) 201 4 0) r.2 ∧ mz_rd r.2 239 52 = 0 ∧ zRA (tN T) r.2 270 w) (fun j x => zFr (fun a i => a = 270 ∨ (a = 239 ∧ i = 52)) (mz_wr (mz_wr m1 37 2 0) 201 4 0) x ∧ ∀ i, i < j → mz_rd x 270 i = mz_rd (mz_wr (mz_wr m1 37 2 0) 201 4 0) 283 (39 * s + i)) 39 ?_ ?_ 0 _ (by omega) ⟨zFr_r, fun i hi => by omega⟩
        · rintro j x hj ⟨F, P⟩
          left
          have g39 : ¬ (39 : Int32) ≤ nI j := nI_ge (b := 39) hj (by omega)
          show ∃ y, (zFr (fun a i => a = 270 ∨ (a = 239 ∧ i = 52)) (mz_wr (mz_wr m1 37 2 0) 201 4 0) y ∧ ∀ i, i < j + 1 → mz_rd y 270 i = mz_rd (mz_wr (mz_wr m1 37 2 0) 201 4 0) 283 (39 * s + i)) ∧ H_X12_restore_22 8 (nI s) (nI j) x = H_X12_restore_22 8 (nI s) (nI (j + 1)) y
          rw [H_X12_restore_22_eq, if_neg g39, z_mul39, nI_add, n_ok (by omega), n_ok (by omega), n_gd (by omega), n_gd (by omega), nI_clamp (by omega), nI_clamp (by omega), nI_1]
          refine ⟨_, ⟨zFr_w2 F (Or.inl rfl), fun i hi => ?_⟩, rfl⟩
          by_cases q : i = j
          · subst q
            rw [m_eq, F.1 283 _ (by omega)]
          · rw [m_ni (by omega)]
            exact P i (by omega)
        · rintro x ⟨F, P⟩
          have g39 : (39 : Int32) ≤ nI 39 := by decide
          show ∃ r, H_X12_restore_22 8 (nI s) (nI 39) x = some r ∧ _
          rw [H_X12_restore_22_eq, if_pos g39]
          exact ⟨_, rfl, rfl, zFr_w2 F (Or.inr ⟨rfl, rfl⟩), m_eq, fun k q1 q2 => by rw [m_ne (by omega)]; exact (P k q1).trans (w4 k q1 q2)⟩
      obtain ⟨⟨r1, m3⟩, e3, rfl, f3, s3, o3⟩ := key
      have e3' : H_X12_restore_22 8 (nI s) 0 (mz_wr (mz_wr m1 37 2 0) 201 4 0) = some (1, m3) := e3
      have x3 := x2 (mz_wr (mz_wr m1 37 2 0) 201 4 0)
      rw [r_in (n := 3) (by omega) (by decide), c, Option.bind_some] at x3
      dsimp only at x3
      rw [zb_t0, n_ok (by omega), n_gd hs, nI_clamp (by omega), f2.1 282 s (by omega), k2, zb_t1, e3'] at x3
      have A : ∀ a i, ¬ ((29 ≤ a ∧ a ≤ 29 + 3) ∨ (a = 37 ∧ i = 2) ∨ (a = 201 ∧ i = 4)) → ¬ (a = 270 ∨ (a = 239 ∧ i = 52)) → mz_rd m3 a i = mz_rd m a i := fun a i k1 k2 => (f3.1 a i k2).trans (f2.1 a i k1)
      obtain ⟨u, y, u1, u2, u3, u4, u5, u6⟩ := id h8
      refine ⟨_, _, _, x1, x3, T, lv, w, zTC_f h1 (fun a i t => A a i ?_ ?_), zTR_f h2 (fun a i t => A a i ?_ ?_), zSC_f g1 (fun a i p q => (f3.1 a i ?_).trans ?_), o3, zB_mono w1 (zBn_1 n) (zBn_2 hn), zTape_f h6 (fun a i t => A a i ?_ ?_), ?_, ⟨0, y, by omega, u2, ?_, ?_, s3, fun j hj => by omega⟩, zSl_f h9 (zBn_1 n) (zBn_2 hn) (fun a i t => A a i ?_ ?_), zTo_f h10 (fun a i t => A a i ?_ ?_), Or.inl ?_, ?_⟩
      · unfold zTx at t; omega
      · unfold zTx at t; omega
      · unfold zRx at t; omega
      · unfold zRx at t; omega
      · omega
      · rw [m_ne (by omega), m_ne (by omega)]
      · unfold zTapeG at t; omega
      · unfold zTapeG at t; omega
      · rw [A 1 13 (by omega) (by omega), A 239 17 (by omega) (by omega)]; exact h7
      · rw [f3.1 37 2 (by omega), m_ne (by omega), m_eq]; rfl
      · rw [A 37 1 (by omega) (by omega)]; exact u4
      · unfold zSlG at t; omega
      · unfold zSlG at t; omega
      · unfold zToG at t; omega
      · unfold zToG at t; omega
      · rw [f3.1 201 4 (by omega), m_eq]
      · unfold zKy
        rw [f3.2, f2.2]
        exact h12
