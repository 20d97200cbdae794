/-! suits, days, who quarrels: both sides over rows -/
def zdX (T : ZT) (sd : Nat) (still : Bool) (v : Nat → Nat) : Nat → Nat := match still with
  | true => zdayS T v
  | false => zdayT T sd v
def zgX (T : ZT) (sd : Nat) (still : Bool) (v : Nat → Nat) (n : Nat) : Nat → Nat := match still with
  | true => zgoS T v n
  | false => zgoT T sd v n
theorem z_t4 : mz_isT 4 = true := by decide +kernel
section ZDy
variable {T : ZT} {np s d a b B lv sd : Nat} {m : MzM} {v : Nat → Nat}

theorem c_suitPart (hT : zTC T m) {i j : Nat} (hi : i < tS T) (hj : j < 4) : R_X8_suitPart d 4 (nI i) (nI j) m = some (nI (tU T i j), m) := by
  have h8 := hT.1.2.1
  rw [R_X8_suitPart_eq d 4 _ _ m z_t4, n_4, n_mul, nI_add, n_ok (by omega), n_gd (by omega), nI_clamp (by omega), Nat.mul_comm i 4, hT.2.2.2.1 i j hi hj]
theorem z_due {x f e : Nat} {m : MzM} (hx : x < 2 ^ 30) (hf : f ≤ 29) (he : 1 ≤ e) (he2 : e ≤ 30) : (mz_g (decide (nI e ≠ 0)) (if ¬ ((nI x - nI f) - (nI x - nI f) / nI e * nI e) = 0 then (some ((0 : Int32), m)) else (some (1, m)))) = if f ≤ x then some (zb (decide ((x - f) % e = 0)), m) else (mz_g (decide (nI e ≠ 0)) (if ¬ ((nI x - nI f) - (nI x - nI f) / nI e * nI e) = 0 then (some ((0 : Int32), m)) else (some (1, m)))) := by
  by_cases c : f ≤ x
  · have hm := Nat.mod_lt (x - f) (show e > 0 by omega)
    rw [if_pos c, n_gd (nI_ne0 (by omega) (by omega)), pk_sub c, pk_rem (by omega) (by omega) (by omega)]
    by_cases c2 : (x - f) % e = 0
    · rw [c2, if_neg (by simp [nI_0])]
      rfl
    · rw [if_pos (nI_ne0 (by omega) (by omega)), decide_eq_false c2]
      rfl
  · rw [if_neg c]
theorem c_isDue (hT : zTC T m) {i day : Nat} (hi : i < tS T) (hd : day < 2 ^ 30) : R_X8_isDue d 4 (nI i) (nI day) m = some (zb (zdue T i day), m) := by
  obtain ⟨-, -, -, w1, w2, w3⟩ := hT.1.2.2.1 i hi
  have e3 : R_X8_suitPart d 4 (nI i) 3 m = _ := c_suitPart (j := 3) hT hi (by omega)
  have e2 : R_X8_suitPart d 4 (nI i) 2 m = _ := c_suitPart (j := 2) hT hi (by omega)
  rw [R_X8_isDue_eq d 4 _ _ m z_t4, e3, Option.bind_some]
  dsimp only
  rw [e2, Option.bind_some]
  dsimp only
  unfold zdue
  by_cases c : tU T i 3 ≤ day
  · rw [if_neg (by rw [pk_sub c]; exact nI_pos (by omega)), if_neg (nI_nle (by omega) (by omega)), z_due hd w3 w1 w2, if_pos c]
    simp [c]
  · rw [if_pos (pk_sneg (by omega) (by omega))]
    simp [c]
    rfl
theorem r_isDue (hT : zTR T lv m) {i day : Nat} (hi : i < tS T) (hd : day < 2 ^ 30) : R_X12_isDue d (nI i) (nI day) m = some (zb (zdue T i day), m) := by
  obtain ⟨-, -, -, w1, w2, w3⟩ := hT.1.2.2.1 i hi
  have h8 := hT.1.2.1
  obtain ⟨-, l2, l3, -, -, l6, -⟩ := hT
  obtain ⟨-, -, s2, s3⟩ := l6 i hi
  rw [R_X12_isDue_eq, l3, z_mul8, nI_add, n_ok (by omega), n_gd (by omega), n_gd (by omega), nI_clamp (by omega), s2, s3]
  unfold zdue
  by_cases c : tU T i 3 ≤ day
  · rw [if_neg (nI_nlt c (by omega)), z_due hd w3 w1 w2, if_pos c]
    simp [c]
  · rw [if_pos (nI_lt (by omega) (by omega))]
    simp [c]
    rfl
theorem c_lot {n w : Nat} (h0 : 0 < n) (hn : n < 2 ^ 31) : R_X8_lot d (nI n) (nI sd) (nI w) m = some (nI (zlot (nI sd) (nI w) n), m) := by
  rw [R_X8_lot_eq, R_X8_stirred_eq, Option.bind_some]
  dsimp only
  rw [R_X8_stirred_eq, Option.bind_some]
  dsimp only
  rw [if_neg (nI_nle h0 hn), n_gd (nI_ne0 h0 hn)]
  show some (zl1 (zmx (zmx (nI sd) 161) (nI w)) - zl1 (zmx (zmx (nI sd) 161) (nI w)) / nI n * nI n, m) = _
  rw [zlot_e _ _ h0 hn]
theorem r_lot {n w : Nat} (h0 : 0 < n) (hn : n < 2 ^ 31) (hl : mz_rd m 239 49 = nI sd) : R_X12_lotOf d (nI w) (nI n) m = some (nI (zlot (nI sd) (nI w) n), m) := by
  rw [R_X12_lotOf_eq, R_X12_mixed_eq, Option.bind_some]
  dsimp only
  rw [R_X12_mixed_eq, Option.bind_some]
  dsimp only
  rw [n_gd (nI_ne0 h0 hn), hl]
  show some (zl1 (zmx (zmx (nI sd) 161) (nI w)) - zl1 (zmx (zmx (nI sd) 161) (nI w)) / nI n * nI n, m) = _
  rw [zlot_e _ _ h0 hn]
theorem c_isThumb (hT : zTC T m) {day : Nat} : R_X8_isThumb d 4 (nI sd) (nI day) m = some (zb (zthb T sd day), m) := by
  have e : R_X8_lot d 100 (nI sd) (nI (4 * day)) m = _ := c_lot (n := 100) (by omega) (by omega)
  have hl := zlot_lt (nI sd) (nI (4 * day)) (n := 100) (by omega)
  have hh := hT.1.2.2.2.1
  rw [R_X8_isThumb_eq d 4 _ _ m z_t4, z_mul4, e, Option.bind_some]
  dsimp only
  rw [hT.2.2.2.2.1]
  unfold zthb
  by_cases c : zlot (nI sd) (nI (4 * day)) 100 < tH T
  · rw [if_neg (nI_ge c (by omega)), decide_eq_true c]; rfl
  · rw [if_pos (nI_le (by omega) (by omega)), decide_eq_false c]; rfl
theorem r_isThumb (hT : zTR T lv m) {day : Nat} (h37 : mz_rd m 271 37 = nI day) (hl : mz_rd m 239 49 = nI sd) : R_X12_isThumb d m = some (zb (zthb T sd day), m) := by
  have e : R_X12_lotOf d (nI (4 * day)) 100 m = _ := r_lot (n := 100) (by omega) (by omega) hl
  have hlt := zlot_lt (nI sd) (nI (4 * day)) (n := 100) (by omega)
  have hh := hT.1.2.2.2.1
  obtain ⟨-, l2, l3, -, -, -, l7, -⟩ := hT
  rw [R_X12_isThumb_eq, h37, z_mul4, e, Option.bind_some]
  dsimp only
  rw [l3, n_ok (by omega), n_gd (by omega), nI_clamp (by omega), l7]
  unfold zthb
  by_cases c : zlot (nI sd) (nI (4 * day)) 100 < tH T
  · rw [if_neg (nI_ge c (by omega)), decide_eq_true c]; rfl
  · rw [if_pos (nI_le (by omega) (by omega)), decide_eq_false c]; rfl
theorem c_goSuits (hT : zTC T m) (hs : mz_isS s = true) (h : zSC (tN T) m s v) (hB : zB (tN T) B v) : ∃ m', R_X3_goSuits d s m = some m' ∧ zFr (zES s) m m' ∧ zSC (tN T) m' s (zdayS T v) := by
  have hB2 := hB.2.2.2
  have h8 := hT.1.2.1
  rw [R_X3_goSuits_eq d s m hs]
  refine zlp (fun k x => H_X3_goSuits_2 d s (nI k) x) (fun r => zFr (zES s) m r ∧ zSC (tN T) r s (zdayS T v)) (fun k x => zFr (zES s) m x ∧ zSC (tN T) x s (zsuits T v k)) (tS T) ?_ ?_ 0 m (Nat.zero_le _) ⟨zFr_r, h⟩
  · rintro k x hk ⟨F, S⟩
    obtain ⟨b1, b2⟩ := zsuits_B hT.1 hB k (by omega)
    have Tx := zTC_S hT hs F
    obtain ⟨w1, w2, w3, -⟩ := hT.1.2.2.1 k hk
    have hd : v 37 < 2 ^ 30 := by have := hB.2.2.1; omega
    have e0 : R_X8_suitPart d 4 (nI k) 0 x = _ := c_suitPart (j := 0) Tx hk (by omega)
    have e1 : R_X8_suitPart d 4 (nI k) 1 x = _ := c_suitPart (j := 1) Tx hk (by omega)
    have uf : zsuits T v (k + 1) = zsuitF T (zsuits T v k) k := rfl
    left
    show ∃ y, (zFr (zES s) m y ∧ zSC (tN T) y s (zsuits T v (k + 1))) ∧ H_X3_goSuits_2 d s (nI k) x = H_X3_goSuits_2 d s (nI (k + 1)) y
    rw [H_X3_goSuits_2_eq d s _ x hs, Tx.2.2.1, if_neg (nI_ge hk (by omega)), e0, Option.bind_some]
    dsimp only
    rw [e1, Option.bind_some]
    dsimp only
    rw [zSC_3 S, b2, c_isDue Tx hk hd, Option.bind_some]
    dsimp only
    rw [zb_if, nI_1, uf]
    unfold zsuitF
    rw [b2]
    cases hdu : zdue T k (v 37) with
    | false => exact ⟨x, ⟨F, S⟩, rfl⟩
    | true =>
      dsimp only
      obtain ⟨m1, e3, f3⟩ := c_quarrel (d := d) Tx hs S b1 w1 w2
      rw [e3, Option.bind_some]
      dsimp only
      rw [zb_if]
      cases hq : zq T (zsuits T v k) (tU T k 0) (tU T k 1) with
      | false => exact ⟨m1, ⟨zFr_t F (zE_S f3), zSC_E S hs f3⟩, rfl⟩
      | true =>
        dsimp only
        obtain ⟨m2, e4, f4, S4⟩ := c_putThrough (d := d) (zTC_E Tx f3) hs (zSC_E S hs f3) b1 w1 w2 w3
        rw [e4, Option.bind_some]
        exact ⟨m2, ⟨zFr_t F (zFr_t (zE_S f3) f4), S4⟩, rfl⟩
  · rintro x ⟨F, S⟩
    obtain ⟨b1, b2⟩ := zsuits_B hT.1 hB (tS T) (Nat.le_refl _)
    have Tx := zTC_S hT hs F
    show ∃ r, H_X3_goSuits_2 d s (nI (tS T)) x = some r ∧ _
    rw [H_X3_goSuits_2_eq d s _ x hs, Tx.2.2.1, if_pos (nI_le (Nat.le_refl _) (by omega)), zSC_3 S, b2, nI_1]
    exact ⟨_, rfl, zFr_w2 F (Or.inr (by omega)), zSC_u3 S _⟩
theorem c_goDays (hT : zTC T m) (hs : mz_isS s = true) (h : zSC (tN T) m s v) (hB : zB (tN T) B v) {n : Nat} (hn : B + 2 * n < 2 ^ 20) : ∃ m', R_X3_goDays d s (nI n) (nI sd) m = some m' ∧ zFr (zES s) m m' ∧ zSC (tN T) m' s (zgoT T sd v n) := by
  rw [R_X3_goDays_eq d s _ _ m hs]
  refine zlp (fun k x => H_X3_goDays_3 d s (nI n) (nI sd) (nI k) x) (fun r => zFr (zES s) m r ∧ zSC (tN T) r s (zgoT T sd v n)) (fun k x => zFr (zES s) m x ∧ zSC (tN T) x s (zgoT T sd v k)) n ?_ ?_ 0 m (Nat.zero_le _) ⟨zFr_r, h⟩
  · rintro k x hk ⟨F, S⟩
    have b1 := zgoT_B (sd := sd) hT.1 hB k (by omega)
    have Tx := zTC_S hT hs F
    left
    show ∃ y, (zFr (zES s) m y ∧ zSC (tN T) y s (zdayT T sd (zgoT T sd v k))) ∧ H_X3_goDays_3 d s (nI n) (nI sd) (nI k) x = H_X3_goDays_3 d s (nI n) (nI sd) (nI (k + 1)) y
    obtain ⟨m1, e1, f1, S1⟩ := c_goSuits (d := d) Tx hs S b1
    rw [H_X3_goDays_3_eq d s _ _ _ x hs, if_neg (nI_ge hk (by omega)), e1, Option.bind_some, zSC_3 S, c_isThumb (zTC_S Tx hs f1), Option.bind_some]
    dsimp only
    rw [zb_if, nI_1]
    unfold zdayT
    cases hth : zthb T sd (zgoT T sd v k 37) with
    | false => exact ⟨m1, ⟨zFr_t F f1, S1⟩, rfl⟩
    | true =>
      dsimp only
      have hl := zlot_lt (nI sd) (nI (4 * zgoT T sd v k 37 + 1)) (n := 4) (by omega)
      have e2 : R_X8_lot d 4 (nI sd) (nI (4 * zgoT T sd v k 37 + 1)) m1 = _ := c_lot (n := 4) (by omega) (by omega)
      rw [R_X8_thumbStuff_eq, z_mul4, nI_1, e2, Option.bind_some, Option.bind_some]
      dsimp only
      rw [n_ok (by omega), n_gd hl, n_gd hl, nI_clamp (by omega), zSC_w S1 hl, nI_1]
      refine ⟨_, ⟨zFr_w2 (zFr_t F f1) (Or.inr (by omega)), ?_⟩, rfl⟩
      exact zSC_uw S1 _ hl
  · rintro x ⟨F, S⟩
    show ∃ r, H_X3_goDays_3 d s (nI n) (nI sd) (nI n) x = some r ∧ _
    rw [H_X3_goDays_3_eq d s _ _ _ x hs, if_pos (nI_le (Nat.le_refl _) (by omega))]
    exact ⟨_, rfl, F, S⟩
theorem r_day {still : Bool} (hT : zTR T lv m) (h : zRA (tN T) m 271 v) (hB : zB (tN T) B v) (hst : mz_rd m 239 50 = zb still) (hl : mz_rd m 239 49 = nI sd) : ∃ m', R_X12_dayGoes d m = some m' ∧ zFr zRT m m' ∧ zRA (tN T) m' 271 (zdX T sd still v) := by
  have hB2 := hB.2.2.2
  have h8 := hT.1.2.1
  rw [R_X12_dayGoes_eq]
  refine zlp (fun k x => H_X12_dayGoes_2 d (nI k) x) (fun r => zFr zRT m r ∧ zRA (tN T) r 271 (zdX T sd still v)) (fun k x => zFr zRT m x ∧ zRA (tN T) x 271 (zsuits T v k)) (tS T) ?_ ?_ 0 m (Nat.zero_le _) ⟨zFr_r, h⟩
  · rintro k x hk ⟨F, S⟩
    obtain ⟨b1, b2⟩ := zsuits_B hT.1 hB k (by omega)
    have Tx := zTR_T hT F
    obtain ⟨w1, w2, w3, -⟩ := hT.1.2.2.1 k hk
    have hd : v 37 < 2 ^ 30 := by have := hB.2.2.1; omega
    obtain ⟨-, l2, l3, -, l5, l6, -⟩ := id Tx
    obtain ⟨s0, s1, -, -⟩ := l6 k hk
    have uf : zsuits T v (k + 1) = zsuitF T (zsuits T v k) k := rfl
    have e37 := S 37 (by omega) (by omega)
    left
    show ∃ y, (zFr zRT m y ∧ zRA (tN T) y 271 (zsuits T v (k + 1))) ∧ H_X12_dayGoes_2 d (nI k) x = H_X12_dayGoes_2 d (nI (k + 1)) y
    rw [H_X12_dayGoes_2_eq, l3, n_ok (by omega), n_gd l2, nI_clamp (by omega), l5, if_neg (nI_ge hk (by omega)), z_mul8, nI_add, n_ok (by omega), n_gd (by omega), n_gd (by omega), nI_clamp (by omega), s0, s1, e37, b2, r_isDue Tx hk hd, Option.bind_some]
    dsimp only
    rw [zb_if, nI_1, uf]
    unfold zsuitF
    rw [b2]
    cases hdu : zdue T k (v 37) with
    | false => exact ⟨x, ⟨F, S⟩, rfl⟩
    | true =>
      dsimp only
      obtain ⟨m1, e3, f3⟩ := r_quarrel (d := d) Tx S b1 w1 w2
      rw [e3, Option.bind_some]
      dsimp only
      rw [zb_if]
      cases hq : zq T (zsuits T v k) (tU T k 0) (tU T k 1) with
      | false => exact ⟨m1, ⟨zFr_t F (zRE_T f3), zRA_E S f3⟩, rfl⟩
      | true =>
        dsimp only
        obtain ⟨m2, e4, f4, S4⟩ := r_turn (d := d) (zTR_E Tx f3) (zRA_E S f3) b1 w1 w2 w3
        rw [e4, Option.bind_some]
        exact ⟨m2, ⟨zFr_t F (zFr_t (zRE_T f3) f4), S4⟩, rfl⟩
  · rintro x ⟨F, S⟩
    obtain ⟨b1, b2⟩ := zsuits_B hT.1 hB (tS T) (Nat.le_refl _)
    have Tx := zTR_T hT F
    obtain ⟨-, l2, l3, -, l5, -⟩ := id Tx
    have e37 := S 37 (by omega) (by omega)
    rw [b2] at e37
    have x50 : mz_rd x 239 50 = zb still := (F.1 239 50 (by unfold zRT; omega)).trans hst
    have x49 : mz_rd x 239 49 = nI sd := (F.1 239 49 (by unfold zRT; omega)).trans hl
    show ∃ r, H_X12_dayGoes_2 d (nI (tS T)) x = some r ∧ _
    rw [H_X12_dayGoes_2_eq, l3, n_ok (by omega), n_gd l2, nI_clamp (by omega), l5, if_pos (nI_le (Nat.le_refl _) (by omega)), x50]
    cases still with
    | true =>
      rw [if_pos (by decide), e37, nI_1]
      exact ⟨_, rfl, zFr_w2 F (Or.inl rfl), zRA_u S 37 _⟩
    | false =>
      rw [if_neg (by decide), r_isThumb Tx e37 x49, Option.bind_some]
      dsimp only
      rw [zb_if]
      unfold zdX zdayT
      cases hth : zthb T sd (v 37) with
      | false =>
        dsimp only
        rw [e37, nI_1]
        exact ⟨_, rfl, zFr_w2 F (Or.inl rfl), zRA_u S 37 _⟩
      | true =>
        dsimp only
        have hlt := zlot_lt (nI sd) (nI (4 * v 37 + 1)) (n := 4) (by omega)
        have e2 : R_X12_lotOf d (nI (4 * v 37 + 1)) 4 x = _ := r_lot (n := 4) (by omega) (by omega) x49
        rw [e37, z_mul4, nI_1, e2, Option.bind_some]
        dsimp only
        rw [z_add30, n_ok (by omega), n_gd (by omega), n_gd (by omega), nI_clamp (by omega), m_ni (by omega), e37, S (30 + zlot (nI sd) (nI (4 * v 37 + 1)) 4) (by omega) (by omega), nI_1, nI_1]
        refine ⟨_, rfl, zFr_w2 (zFr_w2 F (Or.inl rfl)) (Or.inl rfl), ?_⟩
        have k1 := zRA_u (zRA_u S (zthS sd v) (zsuits T v (tS T) (zthS sd v) + 1)) 37 (v 37 + 1)
        have ne : (37 : Nat) ≠ zthS sd v := by unfold zthS; omega
        rw [zUpd_c ne] at k1
        have ee : zdayS T v (zthS sd v) = zsuits T v (tS T) (zthS sd v) := zUpd_n (fun z => ne z.symm)
        rw [if_pos rfl, ee]
        exact k1
theorem r_goes {still : Bool} (hT : zTR T lv m) (h : zRA (tN T) m 271 v) (hB : zB (tN T) B v) (hst : mz_rd m 239 50 = zb still) (hl : mz_rd m 239 49 = nI sd) {n : Nat} (hn : B + 2 * n < 2 ^ 20) : ∃ m', R_X12_goes d (nI n) m = some m' ∧ zFr zRT m m' ∧ zRA (tN T) m' 271 (zgX T sd still v n) := by
  rw [R_X12_goes_eq]
  refine zlp (fun k x => H_X12_goes_2 d (nI n) (nI k) x) (fun r => zFr zRT m r ∧ zRA (tN T) r 271 (zgX T sd still v n)) (fun k x => zFr zRT m x ∧ zRA (tN T) x 271 (zgX T sd still v k)) n ?_ ?_ 0 m (Nat.zero_le _) ⟨zFr_r, by cases still <;> exact h⟩
  · rintro k x hk ⟨F, S⟩
    left
    show ∃ y, (zFr zRT m y ∧ zRA (tN T) y 271 (zgX T sd still v (k + 1))) ∧ H_X12_goes_2 d (nI n) (nI k) x = H_X12_goes_2 d (nI n) (nI (k + 1)) y
    rw [H_X12_goes_2_eq, if_neg (nI_ge hk (by omega))]
    have x50 : mz_rd x 239 50 = zb still := (F.1 239 50 (by unfold zRT; omega)).trans hst
    have x49 : mz_rd x 239 49 = nI sd := (F.1 239 49 (by unfold zRT; omega)).trans hl
    cases still with
    | true =>
      obtain ⟨m1, e1, f1, S1⟩ := r_day (d := d) (still := true) (sd := sd) (zTR_T hT F) S (zgoS_B hT.1 hB k (by omega)) x50 x49
      rw [e1, Option.bind_some, nI_1]
      exact ⟨m1, ⟨zFr_t F f1, S1⟩, rfl⟩
    | false =>
      obtain ⟨m1, e1, f1, S1⟩ := r_day (d := d) (still := false) (sd := sd) (zTR_T hT F) S (zgoT_B hT.1 hB k (by omega)) x50 x49
      rw [e1, Option.bind_some, nI_1]
      exact ⟨m1, ⟨zFr_t F f1, S1⟩, rfl⟩
  · rintro x ⟨F, S⟩
    show ∃ r, H_X12_goes_2 d (nI n) (nI n) x = some r ∧ _
    rw [H_X12_goes_2_eq, if_pos (nI_le (Nat.le_refl _) (by omega))]
    exact ⟨_, rfl, F, S⟩
end ZDy
