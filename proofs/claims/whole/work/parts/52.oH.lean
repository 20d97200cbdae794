/-! obligations: put, bread, plate, wash, days, undo, hold, restore -/
section ZRm
variable {T : ZT} {lv x n : Nat} {v : Nat → Nat} {m m1 mc : MzM}
theorem zTC_rm (h : zTC T m) (f : zFr (zRmF x) m m1) : zTC T m1 := zTC_f h (fun a i t => f.1 a i (by unfold zRmF; unfold zTx at t; omega))
theorem zSC_rm {np : Nat} (h : zSC np m 29 v) (f : zFr (zRmF x) m m1) : zSC np m1 29 v := zSC_f h (fun a i p q => f.1 a i (by unfold zRmF; omega))
theorem zTR_rm (hx : x < 40) (h : zTR T lv m) (f : zFr (zRmF x) m m1) (g : zFr (zES 29) m1 mc) : zTR T lv mc := zTR_f h (fun a i t => (g.1 a i (by unfold zES zE; unfold zRx at t; omega)).trans (f.1 a i (by unfold zRmF; unfold zRx at t; omega)))
theorem zRA_rm {np : Nat} (hx : x < 40) (h : zRA np m 270 v) (f : zFr (zRmF x) m m1) (g : zFr (zES 29) m1 mc) : zRA np mc 270 v := zRA_f h (fun i => (g.1 270 i (by unfold zES zE; omega)).trans (f.1 270 i (by unfold zRmF; omega)))
theorem z52_rm {u : Nat} (hx : x < 40) (h : mz_rd m 239 52 = nI u) (f : zFr (zRmF x) m m1) (g : zFr (zES 29) m1 mc) {mx : MzM} (k : zFr zRQ mc mx) : mz_rd mx 239 52 = nI u := (k.1 239 52 (by unfold zRQ; omega)).trans ((g.1 239 52 (by unfold zES zE; omega)).trans ((f.1 239 52 (by unfold zRmF; omega)).trans h))
end ZRm
theorem o_put : mz_o_put zI := by
  intro n m a0 a1 hn hI
  obtain ⟨T, lv, v, h⟩ := id hI
  obtain ⟨h1, h2, h3, h4, h5, h6, h7, h8, -⟩ := id h
  have hn6 := h1.1.1
  have x1 := R_X11_put_eq 8 a0 a1 m
  have x2 := fun mm => R_X12_put_eq 8 a0 a1 mm
  cases c : zIs2 (tN T) a0 a1 with
  | false =>
    rw [c_is2 h1, c, Option.bind_some] at x1
    have x3 := x2 m
    rw [r_is2 h2, c, Option.bind_some] at x3
    exact ⟨_, _, _, x1, x3, zI_q hn hI zFr_r zFr_r⟩
  | true =>
    rw [c_is2 h1, c, Option.bind_some] at x1
    dsimp only at x1
    obtain ⟨p, q, hp, hq, hpq, rfl, rfl⟩ := zIs2_t c (by omega)
    obtain ⟨u, x, u1, u2, u3, u4, u5, u6⟩ := h8
    obtain ⟨m1, e1, f1, q1, q2, q3, q4⟩ := c_rem (d := 8) u1 u2 u3 u4 h3
    obtain ⟨mc, e2, f2, g2⟩ := c_putThrough (d := 8) (zTC_rm h1 f1) z_s29 (zSC_rm h3 f1) h5 hp hq hpq
    rw [zb_t1, e1, Option.bind_some, e2, Option.bind_some, zSC_4 g2] at x1
    have tc := zTR_rm u2 h2 f1 f2
    obtain ⟨m3, e3, f3, g3, -, -⟩ := r_copies (d := 8) tc (zRA_rm u2 h4 f1 f2)
    obtain ⟨m4, e4, f4, g4⟩ := r_turn (d := 8) (zTR_C tc f3) g3 h5 hp hq hpq
    have F4 := zFr_t (zRC_Q f3) (zR_Q f4)
    obtain ⟨m5, e5, f5, r1, r2, r3, r4⟩ := r_records (d := 8) u1 (z52_rm u2 u5 f1 f2 F4) (zRA_Q (zRA_rm u2 h4 f1 f2) F4) g4
    have x3 := x2 mc
    rw [r_is2 tc, c, Option.bind_some] at x3
    dsimp only at x3
    rw [zb_t1, e3, Option.bind_some, e4, Option.bind_some, e5, Option.bind_some, r2 36 (by omega) (by omega)] at x3
    exact ⟨_, _, _, x1, x3, zI_mut hn h u1 u2 f1 q1 q2 q3 q4 f2 g2 (zB_mono (zturn_B h5 hn6 hp hq hpq) (zBn_1 n) (zBn_2 hn)) F4 f5 r1 r2 r3 r4 u6⟩
theorem o_bread : mz_o_bread zI := by
  intro n m a0 a1 hn hI
  obtain ⟨T, lv, v, h⟩ := id hI
  obtain ⟨h1, h2, h3, h4, h5, h6, h7, h8, -⟩ := id h
  have hn6 := h1.1.1
  have hb := zBn_3 hn
  have hbs := zBn_s n
  have x1 := R_X11_bread_eq 8 a0 a1 m
  have x2 := fun mm => R_X12_bread_eq 8 a0 a1 mm
  cases c : zIsP 4 a0 with
  | false =>
    rw [c_isS, c, Option.bind_some] at x1
    have x3 := x2 m
    rw [r_isS, c, Option.bind_some] at x3
    exact ⟨_, _, _, x1, x3, zI_q hn hI zFr_r zFr_r⟩
  | true =>
    rw [c_isS, c, Option.bind_some] at x1
    dsimp only at x1
    rw [zb_t0] at x1
    obtain ⟨t, ht, rfl⟩ := zIsP_t c (by omega)
    rcases zIsP1 (k := 99) (x := a1) (by omega) m (d := 8) (y := 99) rfl with ⟨e, w⟩ | ⟨j, j1, j2, rfl, -⟩
    · have x3 := x2 m
      rw [r_isS, c, Option.bind_some] at x3
      dsimp only at x3
      rw [zb_t0, e, Option.bind_some] at x3
      have x4 : R_X11_bread 8 (nI t) a1 m = some (0, m) := by
        rw [x1]
        by_cases w1 : a1 < 1
        · rw [if_pos w1]
        · rw [if_neg w1, if_neg (w.resolve_left w1)]
      exact ⟨_, _, _, x4, x3, zI_q hn hI zFr_r zFr_r⟩
    · rw [if_neg (show ¬ nI j < (1 : Int32) from nI_nlt (b := 1) (by omega) (by omega)), if_pos (show nI j ≤ (99 : Int32) from nI_le (b := 99) (by omega) (by omega))] at x1
      obtain ⟨u, x, u1, u2, u3, u4, u5, u6⟩ := h8
      obtain ⟨m1, e1, f1, q1, q2, q3, q4⟩ := c_rem (d := 8) u1 u2 u3 u4 h3
      have z1 : mz_rd m1 31 t = nI (v (30 + t)) := zSC_w (zSC_rm h3 f1) ht
      rw [e1, Option.bind_some, n_ok (by omega), n_gd ht, n_gd ht, nI_clamp (by omega), z1, nI_add] at x1
      have f2 : zFr (zES 29) m1 (mz_wr m1 31 t (nI (v (30 + t) + j))) := zFr_w (Or.inr (by omega))
      have g2 : zSC (tN T) (mz_wr m1 31 t (nI (v (30 + t) + j))) 29 (zUpd v (30 + t) (v (30 + t) + j)) := zSC_uw (zSC_rm h3 f1) _ ht
      have tc := zTR_rm u2 h2 f1 f2
      obtain ⟨m3, e3, f3, g3, -, -⟩ := r_copies (d := 8) tc (zRA_rm u2 h4 f1 f2)
      have f4 : zFr zRC _ (mz_wr m3 271 (30 + t) (nI (v (30 + t) + j))) := zFr_w2 f3 (Or.inl rfl)
      have g4 := zRA_u g3 (30 + t) (v (30 + t) + j)
      have F4 := zRC_Q f4
      obtain ⟨m5, e5, f5, r1, r2, r3, r4⟩ := r_records (d := 8) u1 (z52_rm u2 u5 f1 f2 F4) (zRA_Q (zRA_rm u2 h4 f1 f2) F4) g4
      have ein : R_X12_in 8 (nI j) 1 99 (mz_wr m1 31 t (nI (v (30 + t) + j))) = some (1, mz_wr m1 31 t (nI (v (30 + t) + j))) := by
        rw [R_X12_in_eq, if_neg (show ¬ nI j < (1 : Int32) from nI_nlt (b := 1) (by omega) (by omega)), if_neg (show ¬ (99 : Int32) < nI j from nI_nlt (a := 99) (by omega) (by omega))]
      have x3 := x2 (mz_wr m1 31 t (nI (v (30 + t) + j)))
      rw [r_isS, c, Option.bind_some] at x3
      dsimp only at x3
      rw [zb_t0, ein, Option.bind_some] at x3
      dsimp only at x3
      rw [if_pos (by decide), e3, Option.bind_some, z_add30, n_ok (by omega), n_gd (by omega), n_gd (by omega), nI_clamp (by omega), g3 _ (by omega) (by omega), nI_add, e5, Option.bind_some] at x3
      exact ⟨_, _, _, x1, x3, zI_mut hn h u1 u2 f1 q1 q2 q3 q4 f2 g2 (zB_mono (zB_in h5 hn6 ht (show zBn n + j < 2 ^ 20 by omega)) (by omega) (zBn_2 hn)) F4 f5 r1 r2 r3 r4 u6⟩
theorem o_plate : mz_o_plate zI := by
  intro n m a0 hn hI
  obtain ⟨T, lv, v, h⟩ := id hI
  obtain ⟨h1, h2, h3, h4, h5, h6, h7, h8, -⟩ := id h
  have hn6 := h1.1.1
  have x1 := R_X11_plate_eq 8 a0 m
  have x2 := fun mm => R_X12_plate_eq 8 a0 mm
  rcases zIsP1 (k := 9) (x := a0) (by omega) m (d := 8) (y := 9) rfl with ⟨e, w⟩ | ⟨j, j1, j2, rfl, ein⟩
  · have x3 := x2 m
    rw [e, Option.bind_some] at x3
    have x4 : R_X11_plate 8 a0 m = some (0, m) := by
      rw [x1]
      by_cases w1 : a0 < 1
      · rw [if_pos w1]
      · rw [if_neg w1, if_pos (Int32.not_le.mp (w.resolve_left w1))]
    exact ⟨_, _, _, x4, x3, zI_q hn hI zFr_r zFr_r⟩
  · rw [if_neg (show ¬ nI j < (1 : Int32) from nI_nlt (b := 1) (by omega) (by omega)), if_neg (show ¬ (9 : Int32) < nI j from nI_nlt (a := 9) (by omega) (by omega)), zSC_5 h3, zSC_6 h3] at x1
    have ein : ∀ mm, R_X12_in 8 (nI j) 1 9 mm = some (1, mm) := fun mm => by
      rw [R_X12_in_eq, if_neg (show ¬ nI j < (1 : Int32) from nI_nlt (b := 1) (by omega) (by omega)), if_neg (show ¬ (9 : Int32) < nI j from nI_nlt (a := 9) (by omega) (by omega))]
    by_cases same : nI j = nI (v 34) ∧ nI (v 35) = 0
    · rw [if_neg (fun z => z same.1), if_neg (fun z => z same.2)] at x1
      have x3 := x2 m
      rw [ein, Option.bind_some] at x3
      dsimp only at x3
      rw [if_neg (by decide), h4 34 (by omega) (by omega), h4 35 (by omega) (by omega), if_neg (fun z => z same.1.symm), if_neg (fun z => z same.2)] at x3
      exact ⟨_, _, _, x1, x3, zI_q hn hI zFr_r zFr_r⟩
    · obtain ⟨u, x, u1, u2, u3, u4, u5, u6⟩ := h8
      obtain ⟨m1, e1, f1, q1, q2, q3, q4⟩ := c_rem (d := 8) u1 u2 u3 u4 h3
      have f2 : zFr (zES 29) m1 (mz_wr (mz_wr m1 29 5 (nI j)) 29 6 0) := zFr_w2 (zFr_w (Or.inr (by omega))) (Or.inr (by omega))
      have g2 : zSC (tN T) (mz_wr (mz_wr m1 29 5 (nI j)) 29 6 0) 29 (zpla v j) := zSC_u6 (zSC_u5 (zSC_rm h3 f1) j) 0
      have x4 : R_X11_plate 8 (nI j) m = some (1, mz_wr (mz_wr m1 29 5 (nI j)) 29 6 0) := by
        rw [x1, e1, Option.bind_some, R_X6_changePlate_eq 8 29 _ m1 z_s29, Option.bind_some]
        by_cases s1 : nI j = nI (v 34)
        · rw [if_neg (fun z => z s1), if_pos (fun z => same ⟨s1, z⟩)]
        · rw [if_pos s1]
      have tc := zTR_rm u2 h2 f1 f2
      obtain ⟨m3, e3, f3, g3, -, -⟩ := r_copies (d := 8) tc (zRA_rm u2 h4 f1 f2)
      have f4 : zFr zRC _ (mz_wr (mz_wr m3 271 34 (nI j)) 271 35 0) := zFr_w2 (zFr_w2 f3 (Or.inl rfl)) (Or.inl rfl)
      have g4 : zRA (tN T) (mz_wr (mz_wr m3 271 34 (nI j)) 271 35 0) 271 (zpla v j) := zRA_u (zRA_u g3 34 j) 35 0
      have F4 := zRC_Q f4
      have N := zRA_rm u2 h4 f1 f2
      obtain ⟨m5, e5, f5, r1, r2, r3, r4⟩ := r_records (d := 8) u1 (z52_rm u2 u5 f1 f2 F4) (zRA_Q N F4) g4
      have x3 : R_X12_plate 8 (nI j) (mz_wr (mz_wr m1 29 5 (nI j)) 29 6 0) = some (1, m5) := by
        rw [x2, ein, Option.bind_some]
        dsimp only
        rw [if_neg (by decide), N 34 (by omega) (by omega), N 35 (by omega) (by omega), e3, Option.bind_some, e5, Option.bind_some]
        by_cases s1 : nI (v 34) = nI j
        · rw [if_neg (fun z => z s1), if_pos (fun z => same ⟨s1.symm, z⟩)]
        · rw [if_pos s1]
      exact ⟨_, _, _, x4, x3, zI_mut hn h u1 u2 f1 q1 q2 q3 q4 f2 g2 (zB_mono (zpla_B h5 hn6) (zBn_1 n) (zBn_2 hn)) F4 f5 r1 r2 r3 r4 u6⟩
def zwa (v : Nat → Nat) : Nat → Nat := zUpd (zUpd (zUpd (zUpd v 30 0) 31 0) 32 0) 33 0
theorem zwa_B {np B : Nat} {v : Nat → Nat} (h : zB np B v) (hn : np ≤ 6) : zB np B (zwa v) := by
  refine ⟨fun t ht => ?_, ?_, ?_, h.2.2.2⟩
  · have e1 := h.1 t ht
    have e2 : (zSum np fun p => zwa v (4 * p + t)) = zSum np fun p => v (4 * p + t) := zSum_e (fun p hp => by unfold zwa; rw [zUpd_n (by omega), zUpd_n (by omega), zUpd_n (by omega), zUpd_n (by omega)])
    have e3 : zwa v (30 + t) = 0 := by
      rcases (show t = 0 ∨ t = 1 ∨ t = 2 ∨ t = 3 by omega) with rfl | rfl | rfl | rfl <;> rfl
    unfold zTot at e1 ⊢
    rw [e2, e3]
    omega
  · unfold zwa
    rw [zUpd_n (by omega), zUpd_n (by omega), zUpd_n (by omega), zUpd_n (by omega)]
    exact h.2.1
  · unfold zwa
    rw [zUpd_n (by omega), zUpd_n (by omega), zUpd_n (by omega), zUpd_n (by omega)]
    exact h.2.2.1
theorem o_wash : mz_o_wash zI := by
  intro n m hn hI
  obtain ⟨T, lv, v, h⟩ := id hI
  obtain ⟨h1, h2, h3, h4, h5, h6, h7, h8, -⟩ := id h
  have hn6 := h1.1.1
  have x1 := R_X11_wash_eq 8 m
  obtain ⟨u, x, u1, u2, u3, u4, u5, u6⟩ := h8
  obtain ⟨m1, e1, f1, q1, q2, q3, q4⟩ := c_rem (d := 8) u1 u2 u3 u4 h3
  have k3 := zSC_rm h3 f1
  rw [e1, Option.bind_some, c_inScrew z_s29 k3, Option.bind_some] at x1
  dsimp only at x1
  rw [s_emptyScrew 8 29 m1 z_s29, Option.bind_some] at x1
  have f2 : zFr (zES 29) m1 (mz_wr (mz_wr (mz_wr (mz_wr m1 (29 + 2) 0 0) (29 + 2) 1 0) (29 + 2) 2 0) (29 + 2) 3 0) := zFr_w2 (zFr_w2 (zFr_w2 (zFr_w (Or.inr (by omega))) (Or.inr (by omega))) (Or.inr (by omega))) (Or.inr (by omega))
  have g2 : zSC (tN T) (mz_wr (mz_wr (mz_wr (mz_wr m1 (29 + 2) 0 0) (29 + 2) 1 0) (29 + 2) 2 0) (29 + 2) 3 0) 29 (zwa v) := zSC_uw (t := 3) (zSC_uw (t := 2) (zSC_uw (t := 1) (zSC_uw (t := 0) k3 0 (by omega)) 0 (by omega)) 0 (by omega)) 0 (by omega)
  have tc := zTR_rm u2 h2 f1 f2
  obtain ⟨m3, e3, f3, g3, -, -⟩ := r_copies (d := 8) tc (zRA_rm u2 h4 f1 f2)
  have f4 : zFr zRC _ (mz_wr (mz_wr (mz_wr (mz_wr m3 271 30 0) 271 31 0) 271 32 0) 271 33 0) := zFr_w2 (zFr_w2 (zFr_w2 (zFr_w2 f3 (Or.inl rfl)) (Or.inl rfl)) (Or.inl rfl)) (Or.inl rfl)
  have g4 : zRA (tN T) (mz_wr (mz_wr (mz_wr (mz_wr m3 271 30 0) 271 31 0) 271 32 0) 271 33 0) 271 (zwa v) := zRA_u (zRA_u (zRA_u (zRA_u g3 30 0) 31 0) 32 0) 33 0
  have F4 := zRC_Q f4
  have N := zRA_rm u2 h4 f1 f2
  obtain ⟨m5, e5, f5, r1, r2, r3, r4⟩ := r_records (d := 8) u1 (z52_rm u2 u5 f1 f2 F4) (zRA_Q N F4) g4
  have st : ∀ (mm : MzM) (t : Nat), t < 4 → H_X12_wash_13 8 (nI (zsc v)) (nI t) mm = H_X12_wash_13 8 (nI (zsc v)) (nI (t + 1)) (mz_wr mm 271 (30 + t) 0) := fun mm t ht => by
    rw [H_X12_wash_13_eq, if_neg (n_le4 ht), z_add30, n_ok (by omega), n_gd (by omega), nI_clamp (by omega), nI_1]
  have x3 := R_X12_wash_eq 8 (mz_wr (mz_wr (mz_wr (mz_wr m1 (29 + 2) 0 0) (29 + 2) 1 0) (29 + 2) 2 0) (29 + 2) 3 0)
  have s0 : H_X12_wash_13 8 (nI (zsc v)) 0 m3 = _ := st m3 0 (by omega)
  rw [e3, Option.bind_some, r_sc g3, Option.bind_some] at x3
  dsimp only at x3
  rw [s0, st _ 1 (by omega), st _ 2 (by omega), st _ 3 (by omega), H_X12_wash_13_eq] at x3
  have n4 : (4 : Int32) ≤ nI (3 + 1) := by decide
  have e5' : R_X12_records 8 (mz_wr (mz_wr (mz_wr (mz_wr m3 271 (30 + 0) 0) 271 (30 + 1) 0) 271 (30 + 2) 0) 271 (30 + 3) 0) = some m5 := e5
  rw [if_pos n4, e5', Option.bind_some] at x3
  exact ⟨_, _, _, x1, x3, zI_mut hn h u1 u2 f1 q1 q2 q3 q4 f2 g2 (zB_mono (zwa_B h5 hn6) (zBn_1 n) (zBn_2 hn)) F4 f5 r1 r2 r3 r4 u6⟩
theorem o_days : mz_o_days zI := by
  intro n m a0 hn hI
  obtain ⟨T, lv, v, h⟩ := id hI
  obtain ⟨h1, h2, h3, h4, h5, h6, h7, h8, -⟩ := id h
  have hb := zBn_3 hn
  have hbs := zBn_s n
  have x1 := R_X11_days_eq 8 a0 m
  have x2 := fun mm => R_X12_days_eq 8 a0 mm
  rw [c_isD, Option.bind_some] at x1
  dsimp only at x1
  cases c : zIsP 61 a0 with
  | false =>
    rw [c, zb_f1] at x1
    have x3 := x2 m
    rw [r_isD, c, Option.bind_some] at x3
    exact ⟨_, _, _, x1, x3, zI_q hn hI zFr_r zFr_r⟩
  | true =>
    obtain ⟨k, hk, rfl⟩ := zIsP_t c (by omega)
    rw [c, zb_t1] at x1
    by_cases k0 : k = 0
    · subst k0
      rw [if_pos (by decide), zSC_3 h3] at x1
      have x3 := x2 m
      rw [r_isD, c, Option.bind_some] at x3
      dsimp only at x3
      rw [zb_t1, if_neg (by decide), h4 37 (by omega) (by omega)] at x3
      exact ⟨_, _, _, x1, x3, zI_q hn hI zFr_r zFr_r⟩
    · rw [if_neg (nI_nle (by omega) (by omega))] at x1
      obtain ⟨u, x, u1, u2, u3, u4, u5, u6⟩ := h8
      obtain ⟨m1, e1, f1, q1, q2, q3, q4⟩ := c_rem (d := 8) u1 u2 u3 u4 h3
      have T1 := zTC_rm h1 f1
      obtain ⟨mc, e2, f2, g2⟩ := c_goDays (d := 8) (sd := tD T) T1 z_s29 (zSC_rm h3 f1) h5 (n := k) (by omega)
      rw [e1, Option.bind_some, T1.2.2.2.2.2.1, e2, Option.bind_some, zSC_3 g2] at x1
      have tc := zTR_rm u2 h2 f1 f2
      have N := zRA_rm u2 h4 f1 f2
      obtain ⟨m3, m4, e3, e4, F4, g4, -⟩ := r_ahead (d := 8) tc N h5 (k := k) (by omega)
      obtain ⟨m5, e5, f5, r1, r2, r3, r4⟩ := r_records (d := 8) u1 (z52_rm u2 u5 f1 f2 F4) (zRA_Q N F4) g4
      have x3 := x2 mc
      rw [r_isD, c, Option.bind_some] at x3
      dsimp only at x3
      rw [zb_t1, if_pos (nI_ne0 (by omega) (by omega)), e3, Option.bind_some, e4, Option.bind_some, e5, Option.bind_some, r2 37 (by omega) (by omega)] at x3
      exact ⟨_, _, _, x1, x3, zI_mut hn h u1 u2 f1 q1 q2 q3 q4 f2 g2 (zB_mono (zgoT_B h1.1 h5 k (by omega)) (by omega) (zBn_2 hn)) F4 f5 r1 r2 r3 r4 u6⟩
