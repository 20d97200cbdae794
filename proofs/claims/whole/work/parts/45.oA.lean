/-! obligations: the tape, what is so now -/
theorem zb_t0 {α : Type} (x y : α) : (if zb true = 0 then x else y) = y := rfl
theorem zb_f0 {α : Type} (x y : α) : (if zb false = 0 then x else y) = x := rfl
theorem zb_t1 {α : Type} (x y : α) : (if ¬ zb true = 0 then x else y) = x := rfl
theorem zb_f1 {α : Type} (x y : α) : (if ¬ zb false = 0 then x else y) = y := rfl
def zTpW (a i : Nat) : Prop := a = 3 ∨ (a = 2 ∧ i = 1) ∨ a = 240 ∨ (a = 239 ∧ i = 2)
theorem zIv_t {T : ZT} {lv n : Nat} {v : Nat → Nat} {m m' : MzM} (hn : n < 512) (h : zIv T lv v n m) (f : zFr zTpW m m') (ht : zTape m') : zIv T lv v (n + 1) m' := by
  obtain ⟨h1, h2, h3, h4, h5, h6, h7, h8, h9, h10, h11, h12⟩ := h
  refine ⟨zTC_f h1 (fun a i t => f.1 a i ?_), zTR_f h2 (fun a i t => f.1 a i ?_), zSC_f h3 (fun a i p q => f.1 a i ?_), zRA_f h4 (fun i => f.1 _ i ?_), zB_mono h5 (zBn_1 n) (zBn_2 hn), ht, ?_, zHi_f h8 (zBn_1 n) (zBn_2 hn) (fun a i t => f.1 a i ?_), zSl_f h9 (zBn_1 n) (zBn_2 hn) (fun a i t => f.1 a i ?_), zTo_f h10 (fun a i t => f.1 a i ?_), zRo_f h11 (fun a i t => f.1 a i ?_), ?_⟩
  · unfold zTpW; unfold zTx at t; omega
  · unfold zTpW; unfold zRx at t; omega
  · unfold zTpW; omega
  · unfold zTpW; omega
  · rw [f.1 1 13 (by unfold zTpW; omega), f.1 239 17 (by unfold zTpW; omega)]
    exact h7
  · unfold zTpW; unfold zHiG at t; omega
  · unfold zTpW; unfold zSlG at t; omega
  · unfold zTpW; unfold zToG at t; omega
  · unfold zTpW; unfold zRoG at t; omega
  · unfold zKy
    rw [f.2]
    exact h12
theorem o_place : mz_o_place zI := by
  intro n m hn hI
  obtain ⟨T, lv, v, h⟩ := id hI
  obtain ⟨h1, h2, h3, h4, h5, h6, h7, h8, h9, h10, h11, h12⟩ := h
  exact ⟨_, m, m, R_X11_place_eq 8 m, by rw [R_X12_place_eq, ← h7], zI_q hn hI zFr_r zFr_r⟩
theorem o_back : mz_o_back zI := by
  intro n m a0 hn hI
  obtain ⟨T, lv, v, h⟩ := id hI
  obtain ⟨z, z1, z2, z3, z4⟩ := h.2.2.2.2.2.1
  rcases pk_ix a0 (n := z + 1) (by omega) with c | c | ⟨j, hj, rfl⟩
  · exact ⟨-1, m, m, by rw [R_X11_back_eq, if_pos c], by rw [R_X12_back_eq, if_pos c], zI_q hn hI zFr_r zFr_r⟩
  · have c0 : ¬ a0 < 0 := Int32.not_lt.mpr (Int32.le_trans (nI_pos' (by omega)) c)
    have c1 : ¬ a0 ≤ nI z := Int32.not_le.mpr (Int32.lt_of_lt_of_le (nI_lt (show z < z + 1 by omega) (by omega)) c)
    exact ⟨-1, m, m, by rw [R_X11_back_eq, if_neg c0, z2, if_neg c1], by rw [R_X12_back_eq, if_neg c0, z3, if_neg c1], zI_q hn hI zFr_r zFr_r⟩
  · have c0 : ¬ nI j < 0 := nI_pos (by omega)
    have c1 : nI j ≤ nI z := nI_le (by omega) (by omega)
    have e1 : R_X11_back 8 (nI j) m = some (nI (z - j), mz_wr m 2 1 (nI (z - j))) := by
      rw [R_X11_back_eq, if_neg c0, z2, if_pos c1, pk_sub (by omega), m_eq]
    have e2 : R_X12_back 8 (nI j) (mz_wr m 2 1 (nI (z - j))) = some (nI (z - j), mz_wr (mz_wr m 2 1 (nI (z - j))) 239 2 (nI (z - j))) := by
      rw [R_X12_back_eq, if_neg c0, m_ne (show 239 ≠ 2 by omega), z3, if_pos c1, pk_sub (by omega), m_eq]
    refine ⟨_, _, _, e1, e2, T, lv, v, zIv_t hn h (zFr_w2 (zFr_w (by unfold zTpW; omega)) (by unfold zTpW; omega)) ⟨z - j, by omega, ?_, m_eq, fun i hi => ?_⟩⟩
    · rw [m_ne (by omega), m_eq]
    · rw [m_ne (by omega), m_ne (by omega), m_ne (by omega), m_ne (by omega)]
      exact z4 i (by omega)
def zPq (z : Nat) (mc mr : MzM) : Prop := mz_rd mc 2 1 = nI z ∧ mz_rd mr 239 2 = nI z ∧ ∀ i, i < z → mz_rd mc 3 i = mz_rd mr 240 i
theorem o_feed : mz_o_feed zI := by
  intro n m a0 a1 a2 a3 a4 hn hI
  obtain ⟨T, lv, v, h⟩ := id hI
  obtain ⟨z, z1, z2, z3, z4⟩ := h.2.2.2.2.2.1
  have t20 : nI z + 20 = nI (z + 20) := nI_add z 20
  by_cases c : z + 20 ≤ 2000
  · have c1 : ¬ (2000 : Int32) < nI (z + 20) := nI_nlt (a := 2000) (by omega) (by omega)
    have c2 : nI (z + 20) ≤ (2000 : Int32) := nI_le (b := 2000) (by omega) (by omega)
    obtain ⟨m1, e1, f1, s1, k1, p1, q1, r1, t1⟩ := c_append (d := 8) (w := a0) (z := z) (by omega) z2
    obtain ⟨m2, e2, f2, s2, k2, p2, q2, r2, t2⟩ := c_append (d := 8) (w := a1) (z := z + 4) (by omega) s1
    obtain ⟨m3, e3, f3, s3, k3, p3, q3, r3, t3⟩ := c_append (d := 8) (w := a2) (z := z + 4 + 4) (by omega) s2
    obtain ⟨m4, e4, f4, s4, k4, p4, q4, r4, t4⟩ := c_append (d := 8) (w := a3) (z := z + 4 + 4 + 4) (by omega) s3
    obtain ⟨m5, e5, f5, s5, k5, p5, q5, r5, t5⟩ := c_append (d := 8) (w := a4) (z := z + 4 + 4 + 4 + 4) (by omega) s4
    have F5 : zFr zCT m m5 := zFr_t (zFr_t (zFr_t (zFr_t f1 f2) f3) f4) f5
    have w5 : mz_rd m5 239 2 = nI z := (F5.1 239 2 (by unfold zCT; omega)).trans z3
    obtain ⟨n1, g1, j1, u1, K1, P1, Q1, R1, T1⟩ := r_lays (d := 8) (w := a0) (z := z) (m := m5) (by omega) w5
    obtain ⟨n2, g2, j2, u2, K2, P2, Q2, R2, T2⟩ := r_lays (d := 8) (w := a1) (z := z + 4) (by omega) u1
    obtain ⟨n3, g3, j3, u3, K3, P3, Q3, R3, T3⟩ := r_lays (d := 8) (w := a2) (z := z + 4 + 4) (by omega) u2
    obtain ⟨n4, g4, j4, u4, K4, P4, Q4, R4, T4⟩ := r_lays (d := 8) (w := a3) (z := z + 4 + 4 + 4) (by omega) u3
    obtain ⟨n5, g5, j5, u5, K5, P5, Q5, R5, T5⟩ := r_lays (d := 8) (w := a4) (z := z + 4 + 4 + 4 + 4) (by omega) u4
    have st : ∀ (z : Nat) (w : Int32) (mc mr mc' mr' : MzM), (∀ i, i < z → mz_rd mc 3 i = mz_rd mr 240 i) → (∀ i, i < z → mz_rd mc' 3 i = mz_rd mc 3 i) → mz_rd mc' 3 z = zbt w 24 → mz_rd mc' 3 (z + 1) = zbt w 16 → mz_rd mc' 3 (z + 2) = zbt w 8 → mz_rd mc' 3 (z + 3) = zbt w 0 → (∀ i, i < z → mz_rd mr' 240 i = mz_rd mr 240 i) → mz_rd mr' 240 z = zbt w 24 → mz_rd mr' 240 (z + 1) = zbt w 16 → mz_rd mr' 240 (z + 2) = zbt w 8 → mz_rd mr' 240 (z + 3) = zbt w 0 → ∀ i, i < z + 4 → mz_rd mc' 3 i = mz_rd mr' 240 i := by
      intro z w mc mr mc' mr' h k p q r t K P Q R S i hi
      rcases (show i < z ∨ i = z ∨ i = z + 1 ∨ i = z + 2 ∨ i = z + 3 by omega) with c | rfl | rfl | rfl | rfl
      · rw [k i c, K i c]; exact h i c
      · rw [p, P]
      · rw [q, Q]
      · rw [r, R]
      · rw [t, S]
    have H0 : ∀ i, i < z → mz_rd m 3 i = mz_rd m5 240 i := fun i hi => (z4 i hi).trans (F5.1 240 i (by unfold zCT; omega)).symm
    have H1 := st _ _ _ _ _ _ H0 k1 p1 q1 r1 t1 K1 P1 Q1 R1 T1
    have H2 := st _ _ _ _ _ _ H1 k2 p2 q2 r2 t2 K2 P2 Q2 R2 T2
    have H3 := st _ _ _ _ _ _ H2 k3 p3 q3 r3 t3 K3 P3 Q3 R3 T3
    have H4 := st _ _ _ _ _ _ H3 k4 p4 q4 r4 t4 K4 P4 Q4 R4 T4
    have H5 := st _ _ _ _ _ _ H4 k5 p5 q5 r5 t5 K5 P5 Q5 R5 T5
    have J5 : zFr zRP m5 n5 := zFr_t (zFr_t (zFr_t (zFr_t j1 j2) j3) j4) j5
    have x1 : R_X11_feed 8 a0 a1 a2 a3 a4 m = some (nI (z + 4 + 4 + 4 + 4 + 4), m5) := by
      rw [R_X11_feed_eq, R_X7_hasRoomFor_eq, z2, t20, if_neg c1, Option.bind_some]
      dsimp only
      rw [if_pos (by decide), e1, Option.bind_some, e2, Option.bind_some, e3, Option.bind_some, e4, Option.bind_some, e5, Option.bind_some, s5]
    have x2 : R_X12_feed 8 a0 a1 a2 a3 a4 m5 = some (nI (z + 4 + 4 + 4 + 4 + 4), n5) := by
      rw [R_X12_feed_eq, w5, t20, if_pos c2, g1, Option.bind_some, g2, Option.bind_some, g3, Option.bind_some, g4, Option.bind_some, g5, Option.bind_some, u5]
    refine ⟨_, _, _, x1, x2, T, lv, v, zIv_t hn h (zFr_t (zFr_m F5 (fun a i z => by unfold zCT at z; unfold zTpW; omega)) (zFr_m J5 (fun a i z => by unfold zRP at z; unfold zTpW; omega))) ⟨z + 4 + 4 + 4 + 4 + 4, by omega, ?_, u5, fun i hi => ?_⟩⟩
    · rw [J5.1 2 1 (by unfold zRP; omega), s5]
    · rw [J5.1 3 i (by unfold zRP; omega)]
      exact H5 i hi
  · have c1 : (2000 : Int32) < nI (z + 20) := nI_lt (a := 2000) (by omega) (by omega)
    have c2 : ¬ nI (z + 20) ≤ (2000 : Int32) := nI_ge (a := 2000) (by omega) (by omega)
    have x1 : R_X11_feed 8 a0 a1 a2 a3 a4 m = some (-1, m) := by
      rw [R_X11_feed_eq, R_X7_hasRoomFor_eq, z2, t20, if_pos c1, Option.bind_some]
      dsimp only
      rw [if_neg (by decide)]
    have x2 : R_X12_feed 8 a0 a1 a2 a3 a4 m = some (-1, m) := by rw [R_X12_feed_eq, z3, t20, if_neg c2]
    exact ⟨_, _, _, x1, x2, zI_q hn hI zFr_r zFr_r⟩
theorem z_s29 : mz_isS 29 = true := by decide +kernel
theorem z_s33 : mz_isS 33 = true := by decide +kernel
theorem o_screw : mz_o_screw zI := by
  intro n m a0 hn hI
  obtain ⟨T, lv, v, h⟩ := id hI
  obtain ⟨h1, h2, h3, h4, h5, -⟩ := h
  have x1 := R_X11_screw_eq 8 a0 m
  have x2 := R_X12_screw_eq 8 a0 m
  cases c : zIsP 4 a0 with
  | false =>
    rw [c_isS, c, Option.bind_some] at x1
    rw [r_isS, c, Option.bind_some] at x2
    exact ⟨_, _, _, x1, x2, zI_q hn hI zFr_r zFr_r⟩
  | true =>
    rw [c_isS, c, Option.bind_some] at x1
    rw [r_isS, c, Option.bind_some] at x2
    obtain ⟨t, ht, rfl⟩ := zIsP_t c (by omega)
    dsimp only at x1 x2
    rw [zb_t0, n_ok (by omega), n_gd ht, nI_clamp (by omega), zSC_w h3 ht] at x1
    rw [zb_t0, z_add30, n_ok (by omega), n_gd (by omega), nI_clamp (by omega), h4 _ (by omega) (by omega)] at x2
    exact ⟨_, _, _, x1, x2, zI_q hn hI zFr_r zFr_r⟩
theorem o_person : mz_o_person zI := by
  intro n m a0 a1 hn hI
  obtain ⟨T, lv, v, h⟩ := id hI
  obtain ⟨h1, h2, h3, h4, h5, -⟩ := h
  have h6 := h1.1.1
  have x1 := R_X11_person_eq 8 a0 a1 m
  have x2 := fun mm => R_X12_person_eq 8 a0 a1 mm
  rw [c_isP h1, Option.bind_some] at x1
  dsimp only at x1
  rw [zb_ifn, c_isS, Option.bind_some] at x1
  dsimp only at x1
  rw [zb_if] at x1
  cases c : zIsP (tN T) a0 with
  | false =>
    rw [c] at x1
    have x3 := x2 m
    rw [r_isP h2, Option.bind_some] at x3
    dsimp only at x3
    rw [zb_ifn, c] at x3
    exact ⟨_, _, _, x1, x3, zI_q hn hI zFr_r zFr_r⟩
  | true =>
    obtain ⟨p, hp, rfl⟩ := zIsP_t c (by omega)
    rw [c] at x1
    dsimp only at x1
    have fin : ∀ (r : Int32) (m1 : MzM), R_X11_person 8 (nI p) a1 m = some (r, m1) → zFr zCQ m m1 → (∀ m2, zTR T lv m2 → zRA (tN T) m2 271 v → ∃ m3, (if a1 = 0 then (mz_g (mz_ok (((4 : Int32) * nI p) + a1) 39) (some ((mz_rd m2 271 ((((4 : Int32) * nI p) + a1) : Int32).toNatClampNeg), m2))) else if a1 = 1 then (mz_g (mz_ok (((4 : Int32) * nI p) + a1) 39) (some ((mz_rd m2 271 ((((4 : Int32) * nI p) + a1) : Int32).toNatClampNeg), m2))) else if a1 = 2 then (mz_g (mz_ok (((4 : Int32) * nI p) + a1) 39) (some ((mz_rd m2 271 ((((4 : Int32) * nI p) + a1) : Int32).toNatClampNeg), m2))) else if a1 = 3 then (mz_g (mz_ok (((4 : Int32) * nI p) + a1) 39) (some ((mz_rd m2 271 ((((4 : Int32) * nI p) + a1) : Int32).toNatClampNeg), m2))) else if a1 = 4 then ((R_X12_fourFrom 8 ((4 : Int32) * nI p) m2).bind (fun u19 => some (u19.1, u19.2))) else if a1 = 5 then ((R_X12_foesOf 8 (nI p) m2).bind (fun u23 => some (u23.1, u23.2))) else if a1 = 6 then (mz_g (mz_ok ((24 : Int32) + nI p) 39) (some ((mz_rd m2 271 (((24 : Int32) + nI p) : Int32).toNatClampNeg), m2))) else (some ((-1), m2))) = some (r, m3) ∧ zFr zRE m2 m3) → ∃ v m1 m2, R_X11_person 8 (nI p) a1 m = some (v, m1) ∧ R_X12_person 8 (nI p) a1 m1 = some (v, m2) ∧ zI (n + 1) m2 := by
      intro r m1 e1 f1 hh
      obtain ⟨m2, e2, f2, g2, -, -⟩ := r_copies (d := 8) (zTR_q h2 f1) (zRA_q h4 f1)
      obtain ⟨m3, e3, f3⟩ := hh m2 (zTR_C (zTR_q h2 f1) f2) g2
      refine ⟨r, m1, m3, e1, ?_, zI_q hn hI f1 (zFr_t (zRC_Q f2) (zR_QE f3))⟩
      rw [x2, r_isP (zTR_q h2 f1), Option.bind_some]
      dsimp only
      rw [zb_ifn, c]
      dsimp only
      rw [e2, Option.bind_some]
      exact e3
    cases c4 : zIsP 4 a1 with
    | true =>
      obtain ⟨t, ht, rfl⟩ := zIsP_t c4 (by omega)
      rw [c4] at x1
      dsimp only at x1
      rw [c_amount z_s29 h3 h6 hp ht, Option.bind_some] at x1
      refine fin _ m x1 zFr_r (fun m2 T2 g2 => ⟨m2, ?_, zFr_r⟩)
      have e := g2 (4 * p + t) (by omega) (by omega)
      have q : mz_g (mz_ok (((4 : Int32) * nI p) + nI t) 39) (some ((mz_rd m2 271 ((((4 : Int32) * nI p) + nI t) : Int32).toNatClampNeg), m2)) = some (nI (v (4 * p + t)), m2) := by
        rw [z_mul4, nI_add, n_ok (by omega), n_gd (by omega), nI_clamp (by omega), e]
      rw [q]
      rcases (show t = 0 ∨ t = 1 ∨ t = 2 ∨ t = 3 by omega) with rfl | rfl | rfl | rfl <;> rfl
    | false =>
      rw [c4] at x1
      dsimp only at x1
      have n0 : ¬ a1 = 0 := fun z => by subst z; exact absurd c4 (by decide)
      have n1 : ¬ a1 = 1 := fun z => by subst z; exact absurd c4 (by decide)
      have n2 : ¬ a1 = 2 := fun z => by subst z; exact absurd c4 (by decide)
      have n3 : ¬ a1 = 3 := fun z => by subst z; exact absurd c4 (by decide)
      simp only [if_neg n0, if_neg n1, if_neg n2, if_neg n3] at fin
      by_cases k4 : a1 = 4
      · rw [if_pos k4, c_ofAll z_s29 h3 h6 hp, Option.bind_some] at x1
        refine fin _ m x1 zFr_r (fun m2 T2 g2 => ⟨m2, ?_, zFr_r⟩)
        rw [if_pos k4, r_of g2 h6 hp, Option.bind_some]
      · rw [if_neg k4] at x1
        simp only [if_neg k4] at fin
        by_cases k5 : a1 = 5
        · obtain ⟨m1, e1, f1⟩ := c_foesOf (d := 8) h1 z_s29 h3 h5 hp
          rw [if_pos k5, e1, Option.bind_some] at x1
          refine fin _ m1 x1 (zE_Q f1) (fun m2 T2 g2 => ?_)
          obtain ⟨m3, e3, f3⟩ := r_foesOf (d := 8) T2 g2 h5 hp
          rw [if_pos k5, e3, Option.bind_some]
          exact ⟨m3, rfl, f3⟩
        · rw [if_neg k5] at x1
          simp only [if_neg k5] at fin
          by_cases k6 : a1 = 6
          · rw [if_pos k6, n_ok (by omega), n_gd (by omega), nI_clamp (by omega), zSC_p h3 (by omega)] at x1
            refine fin _ m x1 zFr_r (fun m2 T2 g2 => ⟨m2, ?_, zFr_r⟩)
            rw [if_pos k6, z_add24, n_ok (by omega), n_gd (by omega), nI_clamp (by omega), g2 _ (by omega) (by omega)]
          · rw [if_neg k6] at x1
            refine fin _ m x1 zFr_r (fun m2 T2 g2 => ⟨m2, ?_, zFr_r⟩)
            rw [if_neg k6]
