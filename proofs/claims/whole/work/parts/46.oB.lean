/-! obligations: suit, tells, gain, days that would be -/
theorem zb_iv {α : Type} (b : Bool) (m : α) : (if zb b = 0 then some ((0 : Int32), m) else some (1, m)) = some (zb b, m) := by cases b <;> rfl
theorem zS_Q {m m' : MzM} (f : zFr (fun a _ => 33 ≤ a ∧ a ≤ 33 + 3) m m') : zFr (zES 33) m m' := zFr_m f (fun a i z => Or.inr z)
section ZOB
variable {T : ZT} {s d a b B lv n : Nat} {m : MzM} {v : Nat → Nat}

theorem c_staying (hT : zTC T m) (hs : mz_isS s = true) (h : zSC (tN T) m s v) (hB : zB (tN T) B v) (ha : a < tN T) (hb : b < tN T) (hab : a ≠ b) {t : Nat} (ht : t < 4) : ∃ m', R_X3_staying d s (nI a) (nI b) (nI t) m = some (nI (zst T v a b t), m') ∧ zFr zE m m' := by
  obtain ⟨m1, e1, f1, g1⟩ := c_lookAt (d := d) hs h hT.1.1 hB ha hb
  obtain ⟨m2, e2, f2, -⟩ := c_stayingOf (d := d) (zTC_E hT f1) hs (zSC_E h hs f1) hB ha hb hab ht rfl rfl rfl (fun i hi => g1 i (by omega))
  rw [R_X3_staying_eq d s _ _ _ m hs, e1, Option.bind_some, e2, Option.bind_some]
  exact ⟨m2, rfl, zFr_t f1 f2⟩
theorem c_share (hT : zTC T m) (hs : mz_isS s = true) (h : zSC (tN T) m s v) (hB : zB (tN T) B v) (ha : a < tN T) (hb : b < tN T) (hab : a ≠ b) {t : Nat} (ht : t < 4) : ∃ m', R_X3_share d s (nI a) (nI b) (nI t) m = some (nI (zhf T v a b t), m') ∧ zFr zE m m' := by
  obtain ⟨m1, e1, f1, g1⟩ := c_lookAt (d := d) hs h hT.1.1 hB ha hb
  obtain ⟨m2, e2, f2, -⟩ := c_stayingOf (d := d) (zTC_E hT f1) hs (zSC_E h hs f1) hB ha hb hab ht rfl rfl rfl (fun i hi => g1 i (by omega))
  have b3 := zB_all hB ha hb hab ht
  have hB2 := hB.2.2.2
  rw [R_X3_share_eq d s _ _ _ m hs, e1, Option.bind_some, c_allOf hs (zSC_E h hs f1) hT.1.1 ha hb ht, Option.bind_some]
  dsimp only
  rw [e2, Option.bind_some]
  dsimp only
  rw [pk_sub (zst_le hB ha hb hab ht), z_div2 (by omega)]
  exact ⟨m2, rfl, zFr_t f1 f2⟩
theorem c_ahead {sd k : Nat} (hT : zTC T m) (h : zSC (tN T) m 29 v) (hB : zB (tN T) B v) (hk : B + 2 * k < 2 ^ 20) : ∃ m', R_X11_lookAhead d (nI k) (nI sd) m = some m' ∧ zFr (zES 33) m m' ∧ zSC (tN T) m' 33 (zgoT T sd v k) := by
  obtain ⟨m1, e1, f1, g1⟩ := c_copy (d := d) z_s33 z_s29 (by omega) h
  have F1 := zS_Q f1
  obtain ⟨m2, e2, f2, g2⟩ := c_goDays (d := d) (sd := sd) (zTC_S hT z_s33 F1) z_s33 g1 hB hk
  rw [R_X11_lookAhead_eq, e1, Option.bind_some, e2, Option.bind_some]
  exact ⟨m2, rfl, zFr_t F1 f2, g2⟩
theorem r_ahead {k : Nat} (hT : zTR T lv m) (h : zRA (tN T) m 270 v) (hB : zB (tN T) B v) (hk : B + 2 * k < 2 ^ 20) : ∃ m1 m', R_X12_copies d m = some m1 ∧ R_X12_goes d (nI k) m1 = some m' ∧ zFr zRQ m m' ∧ zRA (tN T) m' 271 (zgoT T (tD T) v k) ∧ zTR T lv m' := by
  obtain ⟨m1, e1, f1, g1, l1, s1⟩ := r_copies (d := d) hT h
  obtain ⟨m2, e2, f2, g2⟩ := r_goes (d := d) (still := false) (sd := tD T) (zTR_C hT f1) g1 hB s1 l1 hk
  exact ⟨m1, m2, e1, e2, zFr_t (zRC_Q f1) (zR_Q f2), g2, zTR_T (zTR_C hT f1) f2⟩
theorem r_still (hT : zTR T lv m) (h : zRA (tN T) m 270 v) : ∃ m', R_X12_copiesStill d m = some m' ∧ zFr zRQ m m' ∧ zRA (tN T) m' 271 v ∧ mz_rd m' 239 49 = nI (tD T) ∧ mz_rd m' 239 50 = zb true ∧ zTR T lv m' := by
  obtain ⟨m1, e1, f1, g1, l1, s1⟩ := r_copies (d := d) hT h
  rw [R_X12_copiesStill_eq, e1, Option.bind_some]
  have F : zFr zRC m (mz_wr m1 239 50 1) := zFr_w2 f1 (by unfold zRC; omega)
  refine ⟨_, rfl, zRC_Q F, zRA_f g1 (fun i => m_ne (by omega)), ?_, m_eq, zTR_C hT F⟩
  rw [m_ni (by omega)]
  exact l1
end ZOB
theorem o_suit : mz_o_suit zI := by
  intro n m a0 a1 hn hI
  obtain ⟨T, lv, v, h⟩ := id hI
  obtain ⟨h1, h2, h3, h4, h5, -⟩ := h
  have h8 := h1.1.2.1
  have hd : v 37 < 2 ^ 30 := by have := h5.2.2.1; have := h5.2.2.2; omega
  have x1 := R_X11_suit_eq 8 a0 a1 m
  have x2 := R_X12_suit_eq 8 a0 a1 m
  obtain ⟨-, l2, l3, l4, l5, l6, -⟩ := id h2
  rw [l3, n_ok (by omega), n_gd l2, nI_clamp (by omega), l5, r_in (n := tS T) (by omega) rfl, Option.bind_some] at x2
  dsimp only at x2
  rw [h1.2.2.1] at x1
  cases c : zIsP (tS T) a0 with
  | false =>
    rw [c, zb_f1] at x2
    have x3 : R_X11_suit 8 a0 a1 m = some (-1, m) := by
      rw [x1]
      rcases pk_ix a0 (n := tS T) (by omega) with k | k | ⟨j, hj, rfl⟩
      · rw [if_pos k]
      · rw [if_neg (Int32.not_lt.mpr (Int32.le_trans (nI_pos' (by omega)) k)), if_neg (Int32.not_lt.mpr k)]
      · rw [zIsP_n (by omega) hj] at c
        cases c
    exact ⟨_, _, _, x3, x2, zI_q hn hI zFr_r zFr_r⟩
  | true =>
    obtain ⟨i, hi, rfl⟩ := zIsP_t c (by omega)
    rw [c, zb_t1, l3, z_mul8, nI_add, n_ok (by omega), nI_clamp (by omega), n_gd (by omega), n_gd (by omega), n_gd (by omega), n_gd (by omega), (l6 i hi).1, (l6 i hi).2.1, (l6 i hi).2.2.1, (l6 i hi).2.2.2, h4 37 (by omega) (by omega), r_isDue h2 hi hd, Option.bind_some] at x2
    dsimp only at x2
    rw [if_neg (nI_pos (by omega)), if_pos (nI_lt hi (by omega)), zSC_3 h3, c_isDue h1 hi hd, Option.bind_some] at x1
    dsimp only at x1
    cases c5 : zIsP 5 a1 with
    | true =>
      obtain ⟨j, hj, rfl⟩ := zIsP_t c5 (by omega)
      rw [if_neg (nI_pos (by omega))] at x1
      by_cases j4 : j = 4
      · subst j4
        have x3 : R_X11_suit 8 (nI i) (nI 4) m = some (zb (zdue T i (v 37)), m) := by
          rw [x1, if_pos (by decide), if_neg (by decide)]
          cases zdue T i (v 37) <;> rfl
        have x4 : R_X12_suit 8 (nI i) (nI 4) m = some (zb (zdue T i (v 37)), m) := by
          rw [x2, if_neg (by decide), if_neg (by decide), if_neg (by decide), if_neg (by decide), if_pos (by decide)]
          cases zdue T i (v 37) <;> rfl
        exact ⟨_, _, _, x3, x4, zI_q hn hI zFr_r zFr_r⟩
      · have x3 : R_X11_suit 8 (nI i) (nI j) m = some (nI (tU T i j), m) := by
          rw [x1, if_neg (show ¬ (4 : Int32) ≤ nI j from nI_ge (b := 4) (by omega) (by omega)), c_suitPart h1 hi (by omega), Option.bind_some]
        have x4 : R_X12_suit 8 (nI i) (nI j) m = some (nI (tU T i j), m) := by
          rw [x2]
          rcases (show j = 0 ∨ j = 1 ∨ j = 2 ∨ j = 3 by omega) with rfl | rfl | rfl | rfl
          · rw [if_pos (by decide)]
          · rw [if_neg (by decide), if_pos (by decide)]
          · rw [if_neg (by decide), if_neg (by decide), if_pos (by decide)]
          · rw [if_neg (by decide), if_neg (by decide), if_neg (by decide), if_pos (by decide)]
        exact ⟨_, _, _, x3, x4, zI_q hn hI zFr_r zFr_r⟩
    | false =>
      have n0 : ¬ a1 = 0 := fun z => by subst z; exact absurd c5 (by decide)
      have n1 : ¬ a1 = 1 := fun z => by subst z; exact absurd c5 (by decide)
      have n2 : ¬ a1 = 2 := fun z => by subst z; exact absurd c5 (by decide)
      have n3 : ¬ a1 = 3 := fun z => by subst z; exact absurd c5 (by decide)
      have n4 : ¬ a1 = 4 := fun z => by subst z; exact absurd c5 (by decide)
      rw [if_neg n0, if_neg n1, if_neg n2, if_neg n3, if_neg n4] at x2
      have x3 : R_X11_suit 8 (nI i) a1 m = some (-1, m) := by
        rw [x1]
        rcases pk_ix a1 (n := 5) (by omega) with k | k | ⟨j, hj, rfl⟩
        · rw [if_pos k, if_pos n4]
        · rw [if_neg (Int32.not_lt.mpr (Int32.le_trans (nI_pos' (by omega)) k)), if_pos (show (4 : Int32) ≤ a1 from Int32.le_trans (b := nI 5) (by decide) k), if_pos n4]
        · rw [zIsP_n (by omega) hj] at c5
          cases c5
      exact ⟨_, _, _, x3, x2, zI_q hn hI zFr_r zFr_r⟩
theorem o_tells : mz_o_tells zI := by
  intro n m a0 a1 a2 hn hI
  obtain ⟨T, lv, v, h⟩ := id hI
  obtain ⟨h1, h2, h3, h4, h5, -⟩ := h
  have h6 := h1.1.1
  have x1 := R_X11_tells_eq 8 a0 a1 a2 m
  have x2 := fun mm => R_X12_tells_eq 8 a0 a1 a2 mm
  rw [c_is2 h1, Option.bind_some] at x1
  dsimp only at x1
  rw [c_isS, Option.bind_some] at x1
  dsimp only at x1
  cases c : zIs2 (tN T) a0 a1 with
  | false =>
    rw [c, zb_f1] at x1
    have x3 := x2 m
    rw [r_is2 h2, c, Option.bind_some] at x3
    exact ⟨_, _, _, x1, x3, zI_q hn hI zFr_r zFr_r⟩
  | true =>
    obtain ⟨p, q, hp, hq, hpq, rfl, rfl⟩ := zIs2_t c (by omega)
    rw [c, zb_t1] at x1
    have fin : ∀ (r : Int32) (m1 : MzM), zIsP 8 a2 = true → R_X11_tells 8 (nI p) (nI q) a2 m = some (r, m1) → zFr zE m m1 → (∀ m2, zTR T lv m2 → zRA (tN T) m2 271 v → ∃ m3, (if a2 = 0 then ((R_X12_doQuarrel 8 (nI p) (nI q) m2).bind (fun u15 => if u15.1 = 0 then (some (0, u15.2)) else (some (1, u15.2)))) else if a2 = 1 then ((R_X12_apartOf 8 (nI p) (nI q) m2).bind (fun u20 => some (u20.1, u20.2))) else if a2 = 2 then ((R_X12_turnTells 8 (nI p) (nI q) 2 0 m2).bind (fun u24 => some (u24.1, u24.2))) else if a2 = 3 then ((R_X12_turnTells 8 (nI p) (nI q) 3 1 m2).bind (fun u28 => some (u28.1, u28.2))) else ((R_X12_staysOf 8 (nI p) (nI q) (a2 - 4) m2).bind (fun u31 => some (u31.1, u31.2)))) = some (r, m3) ∧ zFr zRE m2 m3) → ∃ v m1 m2, R_X11_tells 8 (nI p) (nI q) a2 m = some (v, m1) ∧ R_X12_tells 8 (nI p) (nI q) a2 m1 = some (v, m2) ∧ zI (n + 1) m2 := by
      intro r m1 e8 e1 f1 hh
      have f1 := zE_Q f1
      obtain ⟨m2, e2, f2, g2, -, -⟩ := r_copies (d := 8) (zTR_q h2 f1) (zRA_q h4 f1)
      obtain ⟨m3, e3, f3⟩ := hh m2 (zTR_C (zTR_q h2 f1) f2) g2
      refine ⟨r, m1, m3, e1, ?_, zI_q hn hI f1 (zFr_t (zRC_Q f2) (zR_QE f3))⟩
      rw [x2, r_is2 (zTR_q h2 f1), c, Option.bind_some]
      dsimp only
      rw [zb_t0, r_in (n := 8) (by omega) (by decide), e8, Option.bind_some]
      dsimp only
      rw [zb_t1, e2, Option.bind_some]
      exact e3
    cases c8 : zIsP 8 a2 with
    | true =>
      obtain ⟨j, hj, rfl⟩ := zIsP_t c8 (by omega)
      by_cases j4 : j < 4
      · have e4 : zIsP 4 (nI j - 4) = false := zIsP_z (show nI j - 4 < 0 from pk_sneg (b := 4) (by omega) (by omega))
        rw [e4, zb_f0] at x1
        rcases (show j = 0 ∨ j = 1 ∨ j = 2 ∨ j = 3 by omega) with rfl | rfl | rfl | rfl
        · obtain ⟨m1, e1, f1⟩ := c_quarrel (d := 8) h1 z_s29 h3 h5 hp hq
          rw [if_pos (by decide), e1, Option.bind_some] at x1
          dsimp only at x1
          rw [zb_iv] at x1
          refine fin _ m1 c8 x1 f1 (fun m2 T2 g2 => ?_)
          obtain ⟨m3, e3, f3⟩ := r_quarrel (d := 8) T2 g2 h5 hp hq
          rw [if_pos (by decide), e3, Option.bind_some]
          dsimp only
          rw [zb_iv]
          exact ⟨m3, rfl, f3⟩
        · rw [if_neg (by decide), if_pos (by decide), c_apart z_s29 h3 h6 h5 hp hq, Option.bind_some] at x1
          refine fin _ m c8 x1 zFr_r (fun m2 T2 g2 => ?_)
          rw [if_neg (by decide), if_pos (by decide), r_apart g2 h6 h5 hp hq, Option.bind_some]
          exact ⟨m2, rfl, zFr_r⟩
        · obtain ⟨m1, e1, f1⟩ := c_wear (d := 8) (k := 2) h1 z_s29 h3 h5 hp hq (by omega)
          have e1' : R_X3_wear 8 2 29 (nI p) (nI q) m = _ := e1
          rw [if_neg (by decide), if_neg (by decide), if_pos (by decide), e1', Option.bind_some] at x1
          refine fin _ m1 c8 x1 f1 (fun m2 T2 g2 => ?_)
          obtain ⟨m3, e3, f3⟩ := r_turnTells (d := 8) (k := 2) T2 g2 h5 hp hq (Or.inl rfl)
          have e3' : R_X12_turnTells 8 (nI p) (nI q) 2 0 m2 = _ := e3
          rw [if_neg (by decide), if_neg (by decide), if_pos (by decide), e3', Option.bind_some]
          exact ⟨m3, rfl, f3⟩
        · obtain ⟨m1, e1, f1⟩ := c_wear (d := 8) (k := 3) h1 z_s29 h3 h5 hp hq (by omega)
          have e1' : R_X3_wear 8 3 29 (nI p) (nI q) m = _ := e1
          rw [if_neg (by decide), if_neg (by decide), if_neg (by decide), if_pos (by decide), e1', Option.bind_some] at x1
          refine fin _ m1 c8 x1 f1 (fun m2 T2 g2 => ?_)
          obtain ⟨m3, e3, f3⟩ := r_turnTells (d := 8) (k := 3) T2 g2 h5 hp hq (Or.inr rfl)
          have e3' : R_X12_turnTells 8 (nI p) (nI q) 3 1 m2 = _ := e3
          rw [if_neg (by decide), if_neg (by decide), if_neg (by decide), if_pos (by decide), e3', Option.bind_some]
          exact ⟨m3, rfl, f3⟩
      · have e4 : nI j - 4 = nI (j - 4) := pk_sub (b := 4) (by omega)
        have n0 : ¬ nI j = 0 := fun z => by have := (nI_eq (a := j) (b := 0) (by omega) (by omega)).mp z; omega
        have n1 : ¬ nI j = 1 := fun z => by have := (nI_eq (a := j) (b := 1) (by omega) (by omega)).mp z; omega
        have n2 : ¬ nI j = 2 := fun z => by have := (nI_eq (a := j) (b := 2) (by omega) (by omega)).mp z; omega
        have n3 : ¬ nI j = 3 := fun z => by have := (nI_eq (a := j) (b := 3) (by omega) (by omega)).mp z; omega
        obtain ⟨m1, e1, f1⟩ := c_staying (d := 8) h1 z_s29 h3 h5 hp hq hpq (t := j - 4) (by omega)
        rw [e4, zIsP_n (by omega) (by omega), zb_t0, e1, Option.bind_some] at x1
        refine fin _ m1 c8 x1 f1 (fun m2 T2 g2 => ?_)
        obtain ⟨m3, e3, f3⟩ := r_staysOf (d := 8) T2 g2 h5 hp hq hpq (t := j - 4) (by omega)
        rw [if_neg n0, if_neg n1, if_neg n2, if_neg n3, e4, e3, Option.bind_some]
        exact ⟨m3, rfl, f3⟩
    | false =>
      have n0 : ¬ a2 = 0 := fun z => by subst z; exact absurd c8 (by decide)
      have n1 : ¬ a2 = 1 := fun z => by subst z; exact absurd c8 (by decide)
      have n2 : ¬ a2 = 2 := fun z => by subst z; exact absurd c8 (by decide)
      have n3 : ¬ a2 = 3 := fun z => by subst z; exact absurd c8 (by decide)
      have e4 : zIsP 4 (a2 - 4) = false := by
        cases k : zIsP 4 (a2 - 4) with
        | false => rfl
        | true =>
          obtain ⟨t, ht, e⟩ := zIsP_t k (by omega)
          have e5 : a2 = nI (t + 4) := by
            have e6 : a2 = a2 - 4 + 4 := (Int32.sub_add_cancel a2 4).symm
            rw [e6, e]
            exact nI_add t 4
          rw [e5, zIsP_n (by omega) (by omega)] at c8
          cases c8
      rw [e4, zb_f0, if_neg n0, if_neg n1, if_neg n2, if_neg n3] at x1
      have x3 := x2 m
      rw [r_is2 h2, c, Option.bind_some] at x3
      dsimp only at x3
      rw [zb_t0, r_in (n := 8) (by omega) (by decide), c8, Option.bind_some] at x3
      exact ⟨_, _, _, x1, x3, zI_q hn hI zFr_r zFr_r⟩
theorem o_gain : mz_o_gain zI := by
  intro n m a0 a1 a2 hn hI
  obtain ⟨T, lv, v, h⟩ := id hI
  obtain ⟨h1, h2, h3, h4, h5, -⟩ := h
  have h6 := h1.1.1
  have x1 := R_X11_gain_eq 8 a0 a1 a2 m
  have x2 := fun mm => R_X12_gain_eq 8 a0 a1 a2 mm
  cases c : zIs2 (tN T) a0 a1 with
  | false =>
    rw [c_is2 h1, c, Option.bind_some] at x1
    have x3 := x2 m
    rw [r_is2 h2, c, Option.bind_some] at x3
    exact ⟨_, _, _, x1, x3, zI_q hn hI zFr_r zFr_r⟩
  | true =>
    rw [c_is2 h1, c, Option.bind_some] at x1
    dsimp only at x1
    rw [zb_t0, c_isS, Option.bind_some] at x1
    dsimp only at x1
    obtain ⟨p, q, hp, hq, hpq, rfl, rfl⟩ := zIs2_t c (by omega)
    cases c4 : zIsP 4 a2 with
    | false =>
      rw [c4, zb_f1] at x1
      have x3 := x2 m
      rw [r_is2 h2, c, Option.bind_some] at x3
      dsimp only at x3
      rw [zb_t0, r_isS, c4, Option.bind_some] at x3
      exact ⟨_, _, _, x1, x3, zI_q hn hI zFr_r zFr_r⟩
    | true =>
      obtain ⟨t, ht, rfl⟩ := zIsP_t c4 (by omega)
      obtain ⟨m1, e1, f1⟩ := c_share (d := 8) h1 z_s29 h3 h5 hp hq hpq ht
      rw [c4, zb_t1, e1, Option.bind_some] at x1
      dsimp only at x1
      rw [c_amount z_s29 (zSC_E h3 z_s29 f1) h6 hp ht, Option.bind_some] at x1
      have f1 := zE_Q f1
      have x3 := x2 m1
      rw [r_is2 (zTR_q h2 f1), c, Option.bind_some] at x3
      dsimp only at x3
      obtain ⟨m2, e2, f2, g2, -, -⟩ := r_copies (d := 8) (zTR_q h2 f1) (zRA_q h4 f1)
      obtain ⟨m3, e3, f3, g3⟩ := r_turn (d := 8) (zTR_C (zTR_q h2 f1) f2) g2 h5 hp hq hpq
      have F := zFr_t (zRC_Q f2) (zR_Q f3)
      have z1 := g3 (4 * p + t) (by omega) (by omega)
      rw [(zturn_a (by omega) (by omega) ht).1] at z1
      have z2 := zRA_Q (zRA_q h4 f1) F (4 * p + t) (by omega) (by omega)
      rw [zb_t0, r_isS, c4, Option.bind_some] at x3
      dsimp only at x3
      rw [zb_t1, e2, Option.bind_some, e3, Option.bind_some, z_mul4, nI_add, n_ok (by omega), n_gd (by omega), n_gd (by omega), nI_clamp (by omega), z1, z2] at x3
      exact ⟨_, _, _, x1, x3, zI_q hn hI f1 F⟩
theorem o_turnsIn : mz_o_turnsIn zI := by
  intro n m a0 hn hI
  obtain ⟨T, lv, v, h⟩ := id hI
  obtain ⟨h1, h2, h3, h4, h5, -⟩ := h
  have hb := zBn_3 hn
  have x1 := R_X11_turnsIn_eq 8 a0 m
  have x2 := fun mm => R_X12_turnsIn_eq 8 a0 mm
  rw [c_isD, Option.bind_some] at x1
  dsimp only at x1
  cases c : zIsP 61 a0 with
  | false =>
    rw [c, zb_f1] at x1
    have x3 := x2 m
    rw [r_isD, c, Option.bind_some] at x3
    exact ⟨_, _, _, x1, x3, zI_q hn hI zFr_r zFr_r⟩
  | true =>
    obtain ⟨k, hk, rfl⟩ := zIsP_t c (by omega)
    obtain ⟨m1, e1, f1, g1⟩ := c_ahead (d := 8) (sd := tD T) h1 h3 h5 (k := k) (by omega)
    rw [c, zb_t1, h1.2.2.2.2.2.1, e1, Option.bind_some, zSC_4 g1] at x1
    have f1 := zT_Q f1
    obtain ⟨m2, m3, e2, e3, f3, g3, -⟩ := r_ahead (d := 8) (zTR_q h2 f1) (zRA_q h4 f1) h5 (k := k) (by omega)
    have x3 := x2 m1
    rw [r_isD, c, Option.bind_some] at x3
    dsimp only at x3
    rw [zb_t1, e2, Option.bind_some, e3, Option.bind_some, g3 36 (by omega) (by omega)] at x3
    exact ⟨_, _, _, x1, x3, zI_q hn hI f1 f3⟩
theorem o_foesIn : mz_o_foesIn zI := by
  intro n m a0 a1 hn hI
  obtain ⟨T, lv, v, h⟩ := id hI
  obtain ⟨h1, h2, h3, h4, h5, -⟩ := h
  have hb := zBn_3 hn
  have h6 := h1.1.1
  have x1 := R_X11_foesIn_eq 8 a0 a1 m
  have x2 := fun mm => R_X12_foesIn_eq 8 a0 a1 mm
  cases cp : zIsP (tN T) a0 with
  | false =>
    rw [c_isP h1, cp, Option.bind_some] at x1
    have x3 := x2 m
    rw [r_isP h2, cp, Option.bind_some] at x3
    exact ⟨_, _, _, x1, x3, zI_q hn hI zFr_r zFr_r⟩
  | true =>
    rw [c_isP h1, cp, Option.bind_some] at x1
    dsimp only at x1
    rw [zb_t0, c_isD, Option.bind_some] at x1
    dsimp only at x1
    obtain ⟨p, hp, rfl⟩ := zIsP_t cp (by omega)
    cases c : zIsP 61 a1 with
    | false =>
      rw [c, zb_f1] at x1
      have x3 := x2 m
      rw [r_isP h2, cp, Option.bind_some] at x3
      dsimp only at x3
      rw [zb_t0, r_isD, c, Option.bind_some] at x3
      exact ⟨_, _, _, x1, x3, zI_q hn hI zFr_r zFr_r⟩
    | true =>
      obtain ⟨k, hk, rfl⟩ := zIsP_t c (by omega)
      obtain ⟨m1, e1, f1, g1⟩ := c_ahead (d := 8) (sd := tD T) h1 h3 h5 (k := k) (by omega)
      have b1 := zgoT_B (sd := tD T) h1.1 h5 k (by omega)
      obtain ⟨m4, e4, f4⟩ := c_foesOf (d := 8) (zTC_S h1 z_s33 f1) z_s33 g1 b1 hp
      rw [c, zb_t1, h1.2.2.2.2.2.1, e1, Option.bind_some, e4, Option.bind_some] at x1
      have f1 := zFr_t (zT_Q f1) (zE_Q f4)
      obtain ⟨m2, m3, e2, e3, f3, g3, t3⟩ := r_ahead (d := 8) (zTR_q h2 f1) (zRA_q h4 f1) h5 (k := k) (by omega)
      obtain ⟨m5, e5, f5⟩ := r_foesOf (d := 8) t3 g3 b1 hp
      have x3 := x2 m4
      rw [r_isP (zTR_q h2 f1), cp, Option.bind_some] at x3
      dsimp only at x3
      rw [zb_t0, r_isD, c, Option.bind_some] at x3
      dsimp only at x3
      rw [zb_t1, e2, Option.bind_some, e3, Option.bind_some, e5, Option.bind_some] at x3
      exact ⟨_, _, _, x1, x3, zI_q hn hI f1 (zFr_t f3 (zR_QE f5))⟩
theorem o_then : mz_o_then zI := by
  intro n m a0 a1 a2 hn hI
  obtain ⟨T, lv, v, h⟩ := id hI
  obtain ⟨h1, h2, h3, h4, h5, -⟩ := h
  have hb := zBn_3 hn
  have h6 := h1.1.1
  have x1 := R_X11_then_eq 8 a0 a1 a2 m
  have x2 := fun mm => R_X12_then_eq 8 a0 a1 a2 mm
  by_cases ca : a0 = -1
  · rw [if_pos ca] at x1
    simp only [if_neg (show ¬ ¬ a0 = -1 from fun z => z ca)] at x1
    simp only [if_pos ca, if_neg (show ¬ ¬ a0 = -1 from fun z => z ca)] at x2
    cases c4 : zIsP 4 a1 with
    | false =>
      rw [c_isS, c4, Option.bind_some] at x1
      have x3 := x2 m
      rw [r_isS, c4, Option.bind_some] at x3
      exact ⟨_, _, _, x1, x3, zI_q hn hI zFr_r zFr_r⟩
    | true =>
      obtain ⟨t, ht, rfl⟩ := zIsP_t c4 (by omega)
      rw [c_isS, c4, Option.bind_some] at x1
      dsimp only at x1
      rw [zb_t0, c_isD, Option.bind_some] at x1
      dsimp only at x1
      cases c : zIsP 61 a2 with
      | false =>
        rw [c, zb_f1] at x1
        have x3 := x2 m
        rw [r_isS, c4, Option.bind_some] at x3
        dsimp only at x3
        rw [zb_t0, r_isD, c, Option.bind_some] at x3
        exact ⟨_, _, _, x1, x3, zI_q hn hI zFr_r zFr_r⟩
      | true =>
        obtain ⟨k, hk, rfl⟩ := zIsP_t c (by omega)
        obtain ⟨m1, e1, f1, g1⟩ := c_ahead (d := 8) (sd := tD T) h1 h3 h5 (k := k) (by omega)
        have z1 : mz_rd m1 35 t = _ := zSC_w g1 ht
        rw [c, zb_t1, h1.2.2.2.2.2.1, e1, Option.bind_some, n_ok (by omega), n_gd ht, nI_clamp (by omega), z1] at x1
        have f1 := zT_Q f1
        obtain ⟨m2, m3, e2, e3, f3, g3, t3⟩ := r_ahead (d := 8) (zTR_q h2 f1) (zRA_q h4 f1) h5 (k := k) (by omega)
        have x3 := x2 m1
        rw [r_isS, c4, Option.bind_some] at x3
        dsimp only at x3
        rw [zb_t0, r_isD, c, Option.bind_some] at x3
        dsimp only at x3
        rw [zb_t1, e2, Option.bind_some, e3, Option.bind_some, z_add30, n_ok (by omega), n_gd (by omega), nI_clamp (by omega), g3 _ (by omega) (by omega)] at x3
        exact ⟨_, _, _, x1, x3, zI_q hn hI f1 f3⟩
  · rw [if_neg ca] at x1
    simp only [if_neg ca] at x2
    cases cp : zIsP (tN T) a0 with
    | false =>
      rw [c_isP h1, cp, Option.bind_some] at x1
      have x3 := x2 m
      rw [r_isP h2, cp, Option.bind_some] at x3
      exact ⟨_, _, _, x1, x3, zI_q hn hI zFr_r zFr_r⟩
    | true =>
      rw [c_isP h1, cp, Option.bind_some] at x1
      dsimp only at x1
      rw [zb_t0] at x1
      obtain ⟨p, hp, rfl⟩ := zIsP_t cp (by omega)
      have x3 : ∀ mm, zTR T lv mm → _ := fun mm (hh : zTR T lv mm) => by
        have y := x2 mm
        rw [r_isP hh, cp, Option.bind_some] at y
        dsimp only at y
        rw [zb_t0] at y
        exact y
      cases c4 : zIsP 4 a1 with
      | false =>
        rw [c_isS, c4, Option.bind_some] at x1
        have x4 := x3 m h2
        rw [r_isS, c4, Option.bind_some] at x4
        exact ⟨_, _, _, x1, x4, zI_q hn hI zFr_r zFr_r⟩
      | true =>
        obtain ⟨t, ht, rfl⟩ := zIsP_t c4 (by omega)
        rw [c_isS, c4, Option.bind_some] at x1
        dsimp only at x1
        rw [zb_t0, c_isD, Option.bind_some] at x1
        dsimp only at x1
        cases c : zIsP 61 a2 with
        | false =>
          rw [c, zb_f1] at x1
          have x4 := x3 m h2
          rw [r_isS, c4, Option.bind_some] at x4
          dsimp only at x4
          rw [zb_t0, r_isD, c, Option.bind_some] at x4
          exact ⟨_, _, _, x1, x4, zI_q hn hI zFr_r zFr_r⟩
        | true =>
          obtain ⟨k, hk, rfl⟩ := zIsP_t c (by omega)
          obtain ⟨m1, e1, f1, g1⟩ := c_ahead (d := 8) (sd := tD T) h1 h3 h5 (k := k) (by omega)
          rw [c, zb_t1, h1.2.2.2.2.2.1, e1, Option.bind_some, if_pos ca, c_amount z_s33 g1 h6 hp ht, Option.bind_some] at x1
          have f1 := zT_Q f1
          obtain ⟨m2, m3, e2, e3, f3, g3, t3⟩ := r_ahead (d := 8) (zTR_q h2 f1) (zRA_q h4 f1) h5 (k := k) (by omega)
          have x4 := x3 m1 (zTR_q h2 f1)
          rw [r_isS, c4, Option.bind_some] at x4
          dsimp only at x4
          rw [zb_t0, r_isD, c, Option.bind_some] at x4
          dsimp only at x4
          rw [zb_t1, e2, Option.bind_some, e3, Option.bind_some] at x4
          try rw [if_pos ca] at x4
          try simp only [not_false_eq_true, if_true] at x4
          rw [z_mul4, nI_add, n_ok (by omega), n_gd (by omega), nI_clamp (by omega), g3 _ (by omega) (by omega)] at x4
          exact ⟨_, _, _, x1, x4, zI_q hn hI f1 f3⟩
