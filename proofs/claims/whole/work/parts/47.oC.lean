/-! obligations: bill, ends, year, fair, most, poorest, plates, crumbs -/
def zen (T : ZT) (v : Nat → Nat) : Nat → Nat → Int32
  | 0, _ => -2
  | f + 1, k => if zany T (zgoS T v k) (tS T) = true then zen T v f (k + 1) else nI k
theorem o_ends : mz_o_ends zI := by
  intro n m hn hI
  obtain ⟨T, lv, v, h⟩ := id hI
  obtain ⟨h1, h2, h3, h4, h5, -⟩ := h
  have hb := zBn_3 hn
  obtain ⟨m0, e0, f0, g0⟩ := c_copy (d := 8) z_s33 z_s29 (by omega) h3
  have F0 := zS_Q f0
  have cl : ∃ r, H_X11_ends_13 8 (nI 0) m0 = some r ∧ r.1 = zen T v 201 0 ∧ zFr (zES 33) m r.2 := by
    refine zlp (fun k x => H_X11_ends_13 8 (nI k) x) (fun r => r.1 = zen T v 201 0 ∧ zFr (zES 33) m r.2) (fun k x => zen T v 201 0 = zen T v (201 - k) k ∧ zFr (zES 33) m x ∧ zSC (tN T) x 33 (zgoS T v k)) 201 ?_ ?_ 0 m0 (by omega) ⟨rfl, F0, g0⟩
    · rintro k x hk ⟨P, F, S⟩
      have Tx := zTC_S h1 z_s33 F
      have b1 := zgoS_B h1.1 h5 k (by omega)
      obtain ⟨m1, e1, f1⟩ := c_any (d := 8) Tx z_s33 S b1
      have uf : zen T v (201 - k) k = if zany T (zgoS T v k) (tS T) = true then zen T v (201 - (k + 1)) (k + 1) else nI k := by
        rw [show 201 - k = (201 - (k + 1)) + 1 by omega]
        rfl
      show (∃ y, (zen T v 201 0 = zen T v (201 - (k + 1)) (k + 1) ∧ zFr (zES 33) m y ∧ zSC (tN T) y 33 (zgoS T v (k + 1))) ∧ H_X11_ends_13 8 (nI k) x = H_X11_ends_13 8 (nI (k + 1)) y) ∨ (∃ r, H_X11_ends_13 8 (nI k) x = some r ∧ _)
      rw [H_X11_ends_13_eq, if_neg (show ¬ (200 : Int32) < nI k from nI_nlt (a := 200) (by omega) (by omega)), e1, Option.bind_some]
      dsimp only
      rw [P, uf]
      cases c : zany T (zgoS T v k) (tS T) with
      | true =>
        obtain ⟨m2, e2, f2, g2⟩ := c_goSuits (d := 8) (zTC_E Tx f1) z_s33 (zSC_E S z_s33 f1) b1
        rw [zb_t1, e2, Option.bind_some, nI_1]
        exact Or.inl ⟨m2, ⟨rfl, zFr_t F (zFr_t (zE_S f1) f2), g2⟩, rfl⟩
      | false =>
        rw [zb_f1]
        exact Or.inr ⟨_, rfl, rfl, zFr_t F (zE_S f1)⟩
    · rintro x ⟨P, F, S⟩
      show ∃ r, H_X11_ends_13 8 (nI 201) x = some r ∧ _
      rw [H_X11_ends_13_eq, if_pos (by decide), P]
      exact ⟨_, rfl, rfl, F⟩
  obtain ⟨⟨r1, m1⟩, e1, rfl, f1⟩ := cl
  have x1 : R_X11_ends 8 m = some (zen T v 201 0, m1) := by
    rw [R_X11_ends_eq, e0, Option.bind_some]
    exact e1
  have f1 := zT_Q f1
  obtain ⟨m2, e2, f2, g2, l2, s2, t2⟩ := r_still (d := 8) (zTR_q h2 f1) (zRA_q h4 f1)
  have rl : ∃ r, H_X12_ends_6 8 (nI 0) m2 = some r ∧ r.1 = zen T v 201 0 ∧ zFr zRT m2 r.2 := by
    refine zlp (fun k x => H_X12_ends_6 8 (nI k) x) (fun r => r.1 = zen T v 201 0 ∧ zFr zRT m2 r.2) (fun k x => zen T v 201 0 = zen T v (201 - k) k ∧ zFr zRT m2 x ∧ zRA (tN T) x 271 (zgoS T v k)) 201 ?_ ?_ 0 m2 (by omega) ⟨rfl, zFr_r, g2⟩
    · rintro k x hk ⟨P, F, S⟩
      have Tx := zTR_T t2 F
      have b1 := zgoS_B h1.1 h5 k (by omega)
      obtain ⟨m3, e3, f3⟩ := r_ended (d := 8) Tx S b1
      have uf : zen T v (201 - k) k = if zany T (zgoS T v k) (tS T) = true then zen T v (201 - (k + 1)) (k + 1) else nI k := by
        rw [show 201 - k = (201 - (k + 1)) + 1 by omega]
        rfl
      show (∃ y, (zen T v 201 0 = zen T v (201 - (k + 1)) (k + 1) ∧ zFr zRT m2 y ∧ zRA (tN T) y 271 (zgoS T v (k + 1))) ∧ H_X12_ends_6 8 (nI k) x = H_X12_ends_6 8 (nI (k + 1)) y) ∨ (∃ r, H_X12_ends_6 8 (nI k) x = some r ∧ _)
      rw [H_X12_ends_6_eq, if_neg (show ¬ (200 : Int32) < nI k from nI_nlt (a := 200) (by omega) (by omega)), e3, Option.bind_some]
      dsimp only
      rw [P, uf]
      cases c : zany T (zgoS T v k) (tS T) with
      | true =>
        have F3 := zFr_t F (zRE_T f3)
        obtain ⟨m4, e4, f4, g4⟩ := r_day (d := 8) (still := true) (sd := tD T) (zTR_E Tx f3) (zRA_E S f3) b1 ((F3.1 239 50 (by unfold zRT; omega)).trans s2) ((F3.1 239 49 (by unfold zRT; omega)).trans l2)
        rw [Bool.not_true, zb_f0, e4, Option.bind_some, nI_1]
        exact Or.inl ⟨m4, ⟨rfl, zFr_t F3 f4, g4⟩, rfl⟩
      | false =>
        rw [Bool.not_false, zb_t0]
        exact Or.inr ⟨_, rfl, rfl, zFr_t F (zRE_T f3)⟩
    · rintro x ⟨P, F, S⟩
      show ∃ r, H_X12_ends_6 8 (nI 201) x = some r ∧ _
      rw [H_X12_ends_6_eq, if_pos (by decide), P]
      exact ⟨_, rfl, rfl, F⟩
  obtain ⟨⟨r2, m3⟩, e3, rfl, f3⟩ := rl
  have x2 : R_X12_ends 8 m1 = some (zen T v 201 0, m3) := by
    rw [R_X12_ends_eq, e2, Option.bind_some]
    exact e3
  exact ⟨_, _, _, x1, x2, zI_q hn hI f1 (zFr_t f2 (zR_Q f3))⟩
theorem o_bill : mz_o_bill zI := by
  intro n m a0 hn hI
  obtain ⟨T, lv, v, h⟩ := id hI
  obtain ⟨h1, h2, h3, h4, h5, -⟩ := h
  have hb := zBn_3 hn
  have x1 := R_X11_bill_eq 8 a0 m
  have x2 := fun mm => R_X12_bill_eq 8 a0 mm
  rw [c_isD, Option.bind_some] at x1
  dsimp only at x1
  cases c : zIsP 61 a0 with
  | false =>
    rw [c, zb_f1] at x1
    have x3 := x2 m
    rw [r_isD, c, Option.bind_some] at x3
    exact ⟨_, _, _, x1, x3, zI_q hn hI zFr_r zFr_r⟩
  | true =>
    obtain ⟨k, hk, rfl⟩ := zIsP_t c (by omega)
    obtain ⟨m0, e0, f0, g0⟩ := c_copy (d := 8) z_s33 z_s29 (by omega) h3
    have F0 := zS_Q f0
    have cl : ∃ r, H_X11_bill_22 8 (nI k) (nI 0) m0 = some r ∧ r.1 = nI (zgoS T v k 38) - nI (v 38) ∧ zFr (zES 33) m r.2 := by
      refine zlp (fun j x => H_X11_bill_22 8 (nI k) (nI j) x) (fun r => r.1 = nI (zgoS T v k 38) - nI (v 38) ∧ zFr (zES 33) m r.2) (fun j x => zFr (zES 33) m x ∧ zSC (tN T) x 33 (zgoS T v j)) k ?_ ?_ 0 m0 (by omega) ⟨F0, g0⟩
      · rintro j x hj ⟨F, S⟩
        have b1 := zgoS_B h1.1 h5 j (by omega)
        obtain ⟨m2, e2, f2, g2⟩ := c_goSuits (d := 8) (zTC_S h1 z_s33 F) z_s33 S b1
        left
        show ∃ y, (zFr (zES 33) m y ∧ zSC (tN T) y 33 (zgoS T v (j + 1))) ∧ H_X11_bill_22 8 (nI k) (nI j) x = H_X11_bill_22 8 (nI k) (nI (j + 1)) y
        rw [H_X11_bill_22_eq, if_neg (nI_ge hj (by omega)), e2, Option.bind_some, nI_1]
        exact ⟨m2, ⟨zFr_t F f2, g2⟩, rfl⟩
      · rintro x ⟨F, S⟩
        show ∃ r, H_X11_bill_22 8 (nI k) (nI k) x = some r ∧ _
        have z1 : mz_rd x 33 7 = _ := zSC_7 S
        have z2 : mz_rd x 29 7 = _ := zSC_7 (zSC_S h3 z_s29 z_s33 (by omega) F)
        rw [H_X11_bill_22_eq, if_pos (nI_le (Nat.le_refl _) (by omega)), z1, z2]
        exact ⟨_, rfl, rfl, F⟩
    obtain ⟨⟨r1, m1⟩, e1, rfl, f1⟩ := cl
    have e1' : H_X11_bill_22 8 (nI k) 0 m0 = _ := e1
    rw [c, zb_t1, e0, Option.bind_some, e1'] at x1
    have f1 := zT_Q f1
    obtain ⟨m2, e2, f2, g2, l2, s2, t2⟩ := r_still (d := 8) (zTR_q h2 f1) (zRA_q h4 f1)
    obtain ⟨m3, e3, f3, g3⟩ := r_goes (d := 8) (still := true) (sd := tD T) t2 g2 h5 s2 l2 (n := k) (by omega)
    have F3 := zFr_t f2 (zR_Q f3)
    have x3 := x2 m1
    rw [r_isD, c, Option.bind_some] at x3
    dsimp only at x3
    rw [zb_t1, e2, Option.bind_some, e3, Option.bind_some, g3 38 (by omega) (by omega), zRA_Q (zRA_q h4 f1) F3 38 (by omega) (by omega)] at x3
    exact ⟨_, _, _, x1, x3, zI_q hn hI f1 F3⟩
def zyr (T : ZT) (v : Nat → Nat) (a b n : Nat) : Nat → Nat
  | 0 => 0
  | k + 1 => if zq T (zgoT T (tD T + k) v n) a b = true then zyr T v a b n k + 1 else zyr T v a b n k
theorem zIsP1 {k : Nat} {x : Int32} (hk : k < 2 ^ 30) (m : MzM) {d : Nat} {y : Int32} (hy : y = nI k) : (R_X12_in d x 1 y m = some (0, m) ∧ (x < 1 ∨ ¬ x ≤ y)) ∨ ∃ j, 1 ≤ j ∧ j ≤ k ∧ x = nI j ∧ R_X12_in d x 1 y m = some (1, m) := by
  subst hy
  rcases pk_ix x (n := k + 1) (by omega) with c | c | ⟨j, hj, rfl⟩
  · left
    have : x < 1 := Int32.lt_of_lt_of_le (b := 0) c (by decide)
    exact ⟨by rw [R_X12_in_eq, if_pos this], Or.inl this⟩
  · left
    have c1 : ¬ x < 1 := Int32.not_lt.mpr (Int32.le_trans (show (1 : Int32) ≤ nI (k + 1) from nI_le (a := 1) (by omega) (by omega)) c)
    have c2 : nI k < x := Int32.lt_of_lt_of_le (nI_lt (show k < k + 1 by omega) (by omega)) c
    exact ⟨by rw [R_X12_in_eq, if_neg c1, if_pos c2], Or.inr (Int32.not_le.mpr c2)⟩
  · by_cases j0 : j = 0
    · subst j0
      left
      exact ⟨by rw [R_X12_in_eq, if_pos (by decide)], Or.inl (by decide)⟩
    · right
      refine ⟨j, by omega, by omega, rfl, ?_⟩
      rw [R_X12_in_eq, if_neg (show ¬ nI j < (1 : Int32) from nI_nlt (b := 1) (by omega) (by omega)), if_neg (nI_nlt (by omega) (by omega))]
theorem o_year : mz_o_year zI := by
  intro n m a0 a1 a2 a3 hn hI
  obtain ⟨T, lv, v, h⟩ := id hI
  obtain ⟨h1, h2, h3, h4, h5, -⟩ := h
  have hb := zBn_3 hn
  have h6 := h1.1.1
  have x1 := R_X11_year_eq 8 a0 a1 a2 a3 m
  have x2 := fun mm => R_X12_year_eq 8 a0 a1 a2 a3 mm
  cases c : zIs2 (tN T) a0 a1 with
  | false =>
    rw [c_is2 h1, c, Option.bind_some] at x1
    have x3 := x2 m
    rw [r_is2 h2, c, Option.bind_some] at x3
    exact ⟨_, _, _, x1, x3, zI_q hn hI zFr_r zFr_r⟩
  | true =>
    rw [c_is2 h1, c, Option.bind_some] at x1
    dsimp only at x1
    rw [zb_t0] at x1
    obtain ⟨p, q, hp, hq, hpq, rfl, rfl⟩ := zIs2_t c (by omega)
    cases cd : zIsP 61 a2 with
    | false =>
      rw [c_isD, cd, Option.bind_some] at x1
      have x3 := x2 m
      rw [r_is2 h2, c, Option.bind_some] at x3
      dsimp only at x3
      rw [zb_t0, r_isD, cd, Option.bind_some] at x3
      exact ⟨_, _, _, x1, x3, zI_q hn hI zFr_r zFr_r⟩
    | true =>
      rw [c_isD, cd, Option.bind_some] at x1
      dsimp only at x1
      rw [zb_t0] at x1
      obtain ⟨k, hk, rfl⟩ := zIsP_t cd (by omega)
      rcases zIsP1 (k := 20) (x := a3) (by omega) m (d := 8) (y := 20) rfl with ⟨e, w⟩ | ⟨j, j1, j2, rfl, -⟩
      · have x3 := x2 m
        rw [r_is2 h2, c, Option.bind_some] at x3
        dsimp only at x3
        rw [zb_t0, r_isD, cd, Option.bind_some] at x3
        dsimp only at x3
        rw [zb_t0, e, Option.bind_some] at x3
        have x4 : R_X11_year 8 (nI p) (nI q) (nI k) a3 m = some (-1, m) := by
          rw [x1]
          by_cases w1 : a3 < 1
          · rw [if_pos w1]
          · rw [if_neg w1, if_neg (w.resolve_left w1)]
        exact ⟨_, _, _, x4, x3, zI_q hn hI zFr_r zFr_r⟩
      · rw [if_neg (show ¬ nI j < (1 : Int32) from nI_nlt (b := 1) (by omega) (by omega)), if_pos (show nI j ≤ (20 : Int32) from nI_le (b := 20) (by omega) (by omega))] at x1
        have cl : ∃ r, H_X11_year_37 8 (nI p) (nI q) (nI k) (nI j) (nI 0) (nI 0) m = some r ∧ r.1 = nI (zyr T v p q k j) ∧ zFr (zES 33) m r.2 := by
          refine zlp (fun i (x : Nat × MzM) => H_X11_year_37 8 (nI p) (nI q) (nI k) (nI j) (nI x.1) (nI i) x.2) (fun r => r.1 = nI (zyr T v p q k j) ∧ zFr (zES 33) m r.2) (fun i x => x.1 = zyr T v p q k i ∧ zFr (zES 33) m x.2) j ?_ ?_ 0 (0, m) (by omega) ⟨rfl, zFr_r⟩
          · rintro i ⟨y, x⟩ hi ⟨rfl, F⟩
            left
            have Tx := zTC_S h1 z_s33 F
            obtain ⟨m1, e1, f1, g1⟩ := c_ahead (d := 8) (sd := tD T + i) Tx (zSC_S h3 z_s29 z_s33 (by omega) F) h5 (k := k) (by omega)
            obtain ⟨m2, e2, f2⟩ := c_quarrel (d := 8) (zTC_S Tx z_s33 f1) z_s33 g1 (zgoT_B h1.1 h5 k (by omega)) hp hq
            show ∃ z : Nat × MzM, (z.1 = zyr T v p q k (i + 1) ∧ zFr (zES 33) m z.2) ∧ H_X11_year_37 8 (nI p) (nI q) (nI k) (nI j) (nI (zyr T v p q k i)) (nI i) x = H_X11_year_37 8 (nI p) (nI q) (nI k) (nI j) (nI z.1) (nI (i + 1)) z.2
            rw [H_X11_year_37_eq, if_neg (nI_ge hi (by omega)), Tx.2.2.2.2.2.1, nI_add, e1, Option.bind_some, e2, Option.bind_some]
            dsimp only
            have uf : zyr T v p q k (i + 1) = if zq T (zgoT T (tD T + i) v k) p q = true then zyr T v p q k i + 1 else zyr T v p q k i := rfl
            rw [zb_if, uf, nI_1, nI_1, Int32.add_zero]
            cases zq T (zgoT T (tD T + i) v k) p q with
            | false => exact ⟨(_, m2), ⟨rfl, zFr_t F (zFr_t f1 (zE_S f2))⟩, rfl⟩
            | true => exact ⟨(_, m2), ⟨rfl, zFr_t F (zFr_t f1 (zE_S f2))⟩, rfl⟩
          · rintro ⟨y, x⟩ ⟨rfl, F⟩
            show ∃ r, H_X11_year_37 8 (nI p) (nI q) (nI k) (nI j) (nI (zyr T v p q k j)) (nI j) x = some r ∧ _
            rw [H_X11_year_37_eq, if_pos (nI_le (Nat.le_refl _) (by omega))]
            exact ⟨_, rfl, rfl, F⟩
        obtain ⟨⟨r1, m1⟩, e1, rfl, f1⟩ := cl
        have e1' : H_X11_year_37 8 (nI p) (nI q) (nI k) (nI j) 0 0 m = _ := e1
        rw [e1'] at x1
        have f1 := zT_Q f1
        have t1 := zTR_q h2 f1
        have rl : ∃ r, H_X12_year_35 8 (nI p) (nI q) (nI k) (nI j) (nI 0) (nI 0) m1 = some r ∧ r.1 = nI (zyr T v p q k j) ∧ zFr zRQ m1 r.2 := by
          refine zlp (fun i (x : Nat × MzM) => H_X12_year_35 8 (nI p) (nI q) (nI k) (nI j) (nI x.1) (nI i) x.2) (fun r => r.1 = nI (zyr T v p q k j) ∧ zFr zRQ m1 r.2) (fun i x => x.1 = zyr T v p q k i ∧ zFr zRQ m1 x.2) j ?_ ?_ 0 (0, m1) (by omega) ⟨rfl, zFr_r⟩
          · rintro i ⟨y, x⟩ hi ⟨rfl, F⟩
            left
            have Tx := zTR_Q t1 F
            obtain ⟨m2, e2, f2, g2, l2, s2⟩ := r_copies (d := 8) Tx (zRA_Q (zRA_q h4 f1) F)
            have fw : zFr zRC x (mz_wr m2 239 49 (nI (tD T + i))) := zFr_w2 f2 (by unfold zRC; omega)
            obtain ⟨m3, e3, f3, g3⟩ := r_goes (d := 8) (still := false) (sd := tD T + i) (zTR_C Tx fw) (zRA_f g2 (fun i => m_ne (by omega))) h5 (by rw [m_ni (by omega)]; exact s2) m_eq (n := k) (by omega)
            obtain ⟨m4, e4, f4⟩ := r_quarrel (d := 8) (zTR_T (zTR_C Tx fw) f3) g3 (zgoT_B h1.1 h5 k (by omega)) hp hq
            have FF := zFr_t F (zFr_t (zRC_Q fw) (zFr_t (zR_Q f3) (zR_QE f4)))
            show ∃ z : Nat × MzM, (z.1 = zyr T v p q k (i + 1) ∧ zFr zRQ m1 z.2) ∧ H_X12_year_35 8 (nI p) (nI q) (nI k) (nI j) (nI (zyr T v p q k i)) (nI i) x = H_X12_year_35 8 (nI p) (nI q) (nI k) (nI j) (nI z.1) (nI (i + 1)) z.2
            rw [H_X12_year_35_eq, if_neg (nI_ge hi (by omega)), e2, Option.bind_some, l2, nI_add, e3, Option.bind_some, e4, Option.bind_some]
            dsimp only
            have uf : zyr T v p q k (i + 1) = if zq T (zgoT T (tD T + i) v k) p q = true then zyr T v p q k i + 1 else zyr T v p q k i := rfl
            rw [zb_if, uf, nI_1, nI_1]
            have ez : zgX T (tD T + i) false v k = zgoT T (tD T + i) v k := rfl
            rw [ez]
            cases zq T (zgoT T (tD T + i) v k) p q with
            | false => exact ⟨(_, m4), ⟨rfl, FF⟩, rfl⟩
            | true => exact ⟨(_, m4), ⟨rfl, FF⟩, rfl⟩
          · rintro ⟨y, x⟩ ⟨rfl, F⟩
            show ∃ r, H_X12_year_35 8 (nI p) (nI q) (nI k) (nI j) (nI (zyr T v p q k j)) (nI j) x = some r ∧ _
            rw [H_X12_year_35_eq, if_pos (nI_le (Nat.le_refl _) (by omega))]
            exact ⟨_, rfl, rfl, F⟩
        obtain ⟨⟨r2, m2⟩, e2, rfl, f2⟩ := rl
        have e2' : H_X12_year_35 8 (nI p) (nI q) (nI k) (nI j) 0 0 m1 = _ := e2
        have ein : R_X12_in 8 (nI j) 1 20 m1 = some (1, m1) := by
          rw [R_X12_in_eq, if_neg (show ¬ nI j < (1 : Int32) from nI_nlt (b := 1) (by omega) (by omega)), if_neg (show ¬ (20 : Int32) < nI j from nI_nlt (a := 20) (by omega) (by omega))]
        have x3 := x2 m1
        rw [r_is2 t1, c, Option.bind_some] at x3
        dsimp only at x3
        rw [zb_t0, r_isD, cd, Option.bind_some] at x3
        dsimp only at x3
        rw [zb_t0, ein, Option.bind_some] at x3
        dsimp only at x3
        rw [if_pos (by decide), e2'] at x3
        exact ⟨_, _, _, x1, x3, zI_q hn hI f1 f2⟩
