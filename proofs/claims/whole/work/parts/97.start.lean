/-! how a reading starts -/
theorem b_and (x : Int32) : (x.toInt8.toInt32) &&& 255 = x &&& 255 := by
  rw [pk_and _ 8 (show (255 : Int32).toBitVec.toNat = 2 ^ 8 - 1 by decide), pk_and _ 8 (show (255 : Int32).toBitVec.toNat = 2 ^ 8 - 1 by decide)]
  have e : ((x.toBitVec.signExtend 8).signExtend 32).setWidth 8 = x.toBitVec.setWidth 8 := by
    apply BitVec.eq_of_getLsbD_eq
    intro i hi
    simp [BitVec.getLsbD_setWidth, BitVec.getLsbD_signExtend, hi]
    rcases (show i = 0 ∨ i = 1 ∨ i = 2 ∨ i = 3 ∨ i = 4 ∨ i = 5 ∨ i = 6 ∨ i = 7 by omega) with rfl | rfl | rfl | rfl | rfl | rfl | rfl | rfl <;> simp [BitVec.getElem_signExtend]
  have e2 := congrArg BitVec.toNat e
  rw [BitVec.toNat_setWidth, BitVec.toNat_setWidth] at e2
  have e3 : (x.toInt8.toInt32).toBitVec = (x.toBitVec.signExtend 8).signExtend 32 := by
    rw [Int8.toBitVec_toInt32, Int32.toBitVec_toInt8]
  rw [e3, e2]
def zD0 : ZDt := ((fun _ _ => 0), (fun _ => []), zdf0, 0, 0, (fun _ => 0), 1)
def zS0 : ZX := (0, 0, (fun _ => 0), (0, 0), zD0)
theorem zPU_1 {m : MzM} {u e fr : Nat} {c : Nat × Nat} (h1 : mz_rd m 19 e = nI fr) (h2 : mz_rd m 19 (e + 1) = nI (fr + 1)) (h3 : mz_rd m 18 fr = nI (zenc c)) (hf : fr + 1 ≤ u) (ok : zcs 0 [c] 1) : zPU m u e [c] := by
  refine ⟨fr, h1, h2, hf, fun i c' hi => ?_, ok⟩
  match i with
  | 0 =>
    have : c = c' := Option.some.inj hi
    rw [← this]
    exact h3
  | i + 1 => exact absurd hi (by simp)
theorem zCLu_1 {m : MzM} {k fr u : Nat} {c : Nat × Nat} (hp : mz_rd m 20 k = nI 1) (h1 : mz_rd m 19 (14 * k) = nI fr) (h2 : mz_rd m 19 (14 * k + 1) = nI (fr + 1)) (h3 : mz_rd m 18 fr = nI (zenc c)) (hf : fr + 1 ≤ u) (ok : zcs 0 [c] 1) : zCLu m u k [] [c] := by
  refine ⟨by show 0 ≤ 4; omega, hp, fun j P hj => ?_⟩
  match j with
  | 0 =>
    have : [c] = P := Option.some.inj hj
    rw [← this]
    exact zPU_1 h1 h2 h3 hf ok
  | j + 1 => exact absurd hj (by simp [zpls])
theorem zOne_f {m : MzM} {k u : Nat} {c : Nat × Nat} : zFr (fun a i => (a = 17 ∧ i = 4) ∨ a = 18 ∨ a = 19 ∨ a = 20) m (zOne m k u c) := by
  unfold zOne
  exact zFr_w2 (zFr_w2 (zFr_w2 (zFr_w2 (zFr_w2 (zFr_w (by omega)) (by omega)) (by omega)) (by omega)) (by omega)) (by omega)
theorem c_clear13 {m : MzM} : ∃ m', R_X8_clear 8 13 m = some m' ∧ zFr (fun a i => a = 13 ∨ a = 17 ∨ a = 18 ∨ a = 19 ∨ a = 20) m m' ∧ mz_rd m' 13 4 = nI 0 ∧ mz_rd m' 13 5 = nI 0 ∧ mz_rd m' 17 4 = nI 4 ∧ zCln m' 4 0 0 zD0 := by
  have t13 : mz_isT 13 = true := by decide +kernel
  have x := R_X8_clear_eq 8 13 m t13
  obtain ⟨m1, hm⟩ : ∃ q : MzM, q = mz_wr (mz_wr (mz_wr (mz_wr (mz_wr m 13 4 0) 13 5 0) 13 6 1) 13 7 0) 13 8 0 := ⟨_, rfl⟩
  have cw := c_clearW (d := 8) (m := m1)
  have cw : R_X2_clear 8 (13 + 4) m1 = _ := cw
  rw [← hm, cw, Option.bind_some] at x
  have F1 : zFr (fun a i => a = 13 ∨ a = 17 ∨ a = 18 ∨ a = 19 ∨ a = 20) m m1 := by
    rw [hm]
    exact zFr_w2 (zFr_w2 (zFr_w2 (zFr_w2 (zFr_w (Or.inl rfl)) (Or.inl rfl)) (Or.inl rfl)) (Or.inl rfl)) (Or.inl rfl)
  have F2 : zFr (fun a i => (a = 17 ∧ i = 4) ∨ a = 18 ∨ a = 19 ∨ a = 20) m1 (zOne (zOne (zOne (zOne (mz_wr m1 17 4 0) 0 0 (0, 0)) 1 1 (1, 5)) 2 2 (0, 0)) 3 3 (0, 1)) := zFr_t (zFr_w (by omega)) (zFr_t zOne_f (zFr_t zOne_f (zFr_t zOne_f zOne_f)))
  have k13 : ∀ i, mz_rd (zOne (zOne (zOne (zOne (mz_wr m1 17 4 0) 0 0 (0, 0)) 1 1 (1, 5)) 2 2 (0, 0)) 3 3 (0, 1)) 13 i = mz_rd m1 13 i := fun i => F2.1 13 i (by omega)
  refine ⟨_, x, zFr_t F1 (zFr_m F2 (fun a i z => by omega)), ?_, ?_, zOne_u, ?_, ?_, ?_, fun k hk => absurd hk (by omega), fun i j hi _ => absurd hi (by omega), fun k hk => ?_⟩
  · rw [k13, hm, m_ni (by omega), m_ni (by omega), m_ni (by omega), m_ni (by omega), m_eq]; rfl
  · rw [k13, hm, m_ni (by omega), m_ni (by omega), m_ni (by omega), m_eq]; rfl
  · rw [k13, hm, m_ni (by omega), m_ni (by omega), m_eq]; rfl
  · rw [k13, hm, m_ni (by omega), m_eq]; rfl
  · rw [k13, hm, m_eq]; rfl
  · rcases (show k = 0 ∨ k = 1 ∨ k = 2 ∨ k = 3 by omega) with rfl | rfl | rfl | rfl
    · refine zCLu_1 (fr := 0) (c := (0, 0)) ?_ ?_ ?_ ?_ (by omega) (zcs_i (by omega)) <;> (unfold zOne; simp [m_rw])
    · refine zCLu_1 (fr := 1) (c := (1, 5)) ?_ ?_ ?_ ?_ (by omega) (zcs_v (by omega)) <;> (unfold zOne; simp [m_rw])
    · refine zCLu_1 (fr := 2) (c := (0, 0)) ?_ ?_ ?_ ?_ (by omega) (zcs_i (by omega)) <;> (unfold zOne; simp [m_rw])
    · refine zCLu_1 (fr := 3) (c := (0, 1)) ?_ ?_ ?_ ?_ (by omega) (zcs_i (by omega)) <;> (unfold zOne; simp [m_rw])
section ZStart
variable {b : Nat → Nat} {s d sd : Nat}
theorem zTs_tok {m : MzM} {sz : Nat} (h : sz ≤ 402 ∧ (sz = 402 ∨ (0 < sz ∧ zkd b s (sz - 1) = 0))) (t : zTs m b s sz) : zTok (zkd b s) (zvl b s) (znm 32 b s) (zplc b s) m := by
  have kd : ∀ i, i < 402 → zkd b s i = zkq b s (zplc b s i) := fun i hi => if_pos hi
  refine ⟨fun i => ⟨?_, zvq_lt⟩, fun i hi => if_neg (by omega), sz, h, t.1, fun i hi => ?_, fun i hi => ?_⟩
  · by_cases c : i < 402
    · rw [kd i c]; exact zkq_lt
    · rw [show zkd b s i = 0 from if_neg c]; omega
  · rcases h.2 with c | ⟨c1, c2⟩
    · exact if_neg (by omega)
    · exact zkd_z c2 i (by omega)
  · rw [kd i (by omega)]
    exact t.2.2 i hi
theorem zTr_tkR {x : MzM} {N : Nat} (hN : N ≤ 401) (h0 : 0 < N) (h1 : ∀ i, i + 1 < N → zkq b s (zplc b s i) ≠ 0) (h2 : N = 401 ∨ zkq b s (zplc b s (N - 1)) = 0) (t : zTr x b s N) : zTkR (zkd b s) (zvl b s) (znm 27 b s) (zplc b s) N x := by
  have kd : ∀ i, i < 402 → zkd b s i = zkq b s (zplc b s i) := fun i hi => if_pos hi
  refine ⟨fun i => ⟨?_, zvq_lt⟩, hN, h0, fun i hi k hi4 => ?_, fun i hi => ?_⟩
  · by_cases c : i < 402
    · rw [kd i c]; exact zkq_lt
    · rw [show zkd b s i = 0 from if_neg c]; omega
  · rw [kd i (by omega)] at k
    rcases h2 with c | c
    · omega
    · rcases Nat.lt_or_ge (i + 1) N with q | q
      · exact q
      · rw [show N - 1 = i by omega] at c
        exact absurd c k
  · rw [kd i (by omega)]
    exact t.2 i hi
theorem zPM_p {N : Nat} (s2 : s ≤ 2000) (h1 : ∀ i, i + 1 < N → zkq b s (zplc b s i) ≠ 0) : zPM (zplc b s) N := fun i j hij hj => by
  refine ⟨zplc_m hij (fun q hq => ?_), ?_⟩
  · have := h1 q (by omega)
    rcases Nat.lt_or_ge (zplc b s q) s with c | c
    · exact c
    · exact absurd (zkq_0.mpr c) this
  · have := zplc_le (b := b) (s := s) (j := j)
    omega
theorem zWS_0 {kd : Nat → Nat} : zWS kd 0 zS0 := ⟨by show 0 ≤ 6; omega, by show 0 ≤ 8; omega, ⟨by show 0 < 10; omega, fun z => absurd rfl z⟩, fun _ => ⟨⟨by show 0 ≤ 6; omega, by show 0 ≤ 8; omega, fun i hi => absurd hi (by show ¬ i < 0; omega), by show 0 ≤ 100; omega, by show 0 ≤ 9999; omega⟩, fun k => by show 0 ≤ 99; omega⟩⟩
/-- the class, from the tape on -/
theorem c_reads {m : MzM} (h : zBy m b s) : ∃ k A S' m1, zRun (zkd b s) (zvl b s) (znm 32 b s) k zS0 0 A S' ∧ R_X4_readTape 8 m = some (nI (zOut (zn A) S'.2.2.2.1).1, m1) ∧ R_X4_faultPlace 8 m1 = some (zPl (zplc b s) (zOut (zn A) S'.2.2.2.1).2, m1) ∧ zFl zCP m m1 ∧ (∀ t, A = .inr t → S'.2.2.2.1.1 = 0 → ∃ u, u ≤ 404 ∧ zCln m1 u S'.1 S'.2.1 S'.2.2.2.2 ∧ mz_rd m1 13 4 = nI S'.1 ∧ mz_rd m1 13 5 = nI S'.2.1) := by
  obtain ⟨m1, sz, e1, f1, hz, t1⟩ := c_cut (d := 8) h
  obtain ⟨m2, e2, f2, a1, a2, a3, a4⟩ := c_clear13 (m := m1)
  have tk1 := zTs_tok hz t1
  have tk2 : zTok (zkd b s) (zvl b s) (znm 32 b s) (zplc b s) m2 := zTok_f tk1 f2 (fun a i z => by omega)
  obtain ⟨m3, hm3⟩ : ∃ q : MzM, q = mz_wr (mz_wr (mz_wr m2 22 4 0) 22 6 0) 22 2 0 := ⟨_, rfl⟩
  have F3 : zFr (fun a i => a = 22) m2 m3 := by rw [hm3]; exact zFr_w2 (zFr_w2 (zFr_w rfl) rfl) rfl
  have tk3 : zTok (zkd b s) (zvl b s) (znm 32 b s) (zplc b s) m3 := zTok_f tk2 F3 (fun a i z => by omega)
  have k0 : R_X9_kind 8 0 m3 = some (nI (zkd b s 0), m3) := by
    obtain ⟨h1, h2, sz, ⟨s1, s1'⟩, s2, s3, s4⟩ := tk3
    have s0 : 0 < sz := by omega
    have x := R_X9_kind_eq 8 0 m3
    rw [if_neg (show ¬ (0 : Int32) < 0 by decide), s2, if_neg (show ¬ nI sz ≤ 0 from nI_nle s0 (by omega))] at x
    rw [x]
    show mz_g (mz_ok (nI 0) 402) (some (mz_rd m3 24 (nI 0).toNatClampNeg, m3)) = _
    rw [n_ok (by omega), n_gd (by omega), nI_clamp (by omega), (s4 0 s0).1]
  obtain ⟨m4, hm4⟩ : ∃ q : MzM, q = mz_wr m3 22 3 (nI (zkd b s 0)) := ⟨_, rfl⟩
  have F4 : zFr (fun a i => a = 22) m2 m4 := by rw [hm4]; exact zFr_w2 F3 rfl
  have tk4 : zTok (zkd b s) (zvl b s) (znm 32 b s) (zplc b s) m4 := zTok_f tk2 F4 (fun a i z => by omega)
  have al : zAl (zkd b s) m4 0 := by
    refine ⟨?_, ?_, by rw [hm4, m_eq], by omega⟩
    · rw [hm4, m_ni (by omega), hm3, m_ni (by omega), m_ni (by omega), m_eq]
    · rw [hm4, m_ni (by omega), hm3, m_eq]; rfl
  have w4 : ∀ a i, a ≠ 22 → mz_rd m4 a i = mz_rd m2 a i := fun a i z => F4.1 a i z
  have X : zXC (zkd b s) (znm 32 b s) m4 0 zS0 := by
    refine ⟨by show 0 ≤ 6; omega, by show 0 ≤ 8; omega, (w4 _ _ (by omega)).trans a1, (w4 _ _ (by omega)).trans a2, fun k hk => absurd hk (by show ¬ k < 0; omega), ⟨?_, by show 0 < 10; omega, fun z => absurd rfl z⟩, ⟨by show 0 < 10; omega, fun z => absurd rfl z⟩, 4, by omega, by omega, (w4 _ _ (by omega)).trans a3, fun _ => ?_⟩
    · show mz_rd m4 22 6 = nI 0
      rw [hm4, m_ni (by omega), hm3, m_ni (by omega), m_eq]; rfl
    · obtain ⟨c1, c2, c3, c4, c5, c6⟩ := a4
      exact ⟨(w4 _ _ (by omega)).trans c1, (w4 _ _ (by omega)).trans c2, (w4 _ _ (by omega)).trans c3, fun k hk => absurd hk (by show ¬ k < 4 * 0; omega), fun i j hi hj => absurd hi (by show ¬ i < 0; omega), fun k hk => zCLu_f (c6 k hk) (Nat.le_refl _) hk (fun i _ => w4 _ _ (by omega)) (fun i _ _ => w4 _ _ (by omega)) (w4 _ _ (by omega))⟩
  obtain ⟨k, A, S', m5, r1, r2, r3, r4, r5⟩ := c_run (fun t ht => (znm_63 ht).1) 402 0 0 m4 zS0 (by omega) tk4 al X (by omega)
  have r2 : H_X4_readTape_43 8 0 m4 = _ := r2
  obtain ⟨m6, q1, q2, q3⟩ := c_end (LF := S'.2.2.2.1) (fun i hi => zkd_z hi) (zTok_c tk4 r3) r4 (zRun_c k zS0 S' 0 A r1) (fun t ht => ⟨zRun_e k zS0 S' 0 t A r1 ht, (r5 t ht).2.2.2.2.2.1, (r5 t ht).2.2.2.2.2.2.1⟩)
  refine ⟨k, A, S', m6, r1, ?_, q2, ⟨fun a i z => ?_, ?_⟩, fun t ht l0 => ?_⟩
  · rw [R_X4_readTape_eq, e1, Option.bind_some, e2, Option.bind_some, ← hm3, k0, Option.bind_some]
    dsimp only
    rw [← hm4, r2]
    exact q1
  · have z' : ¬ (13 ≤ a ∧ a ≤ 26) := z
    rw [q3.1 a i (by omega), r3.1 a i (by unfold zCP; omega), w4 a i (by omega), f2.1 a i (by omega)]
    exact f1.1 a i (by omega)
  · rw [q3.2, r3.2 246 (by omega), F4.2, f2.2]
    exact f1.2 246 (by omega)
  · obtain ⟨x1, x2, x3, x4, x5, x6, x7, u, u1, u2, u3, u4⟩ := r5 t ht
    obtain ⟨c1, c2, c3, c4, c5, c6⟩ := u4 l0
    have w6 : ∀ a i, a ≠ 22 → mz_rd m6 a i = mz_rd m5 a i := fun a i z => q3.1 a i (by omega)
    exact ⟨u, u1, ⟨(w6 _ _ (by omega)).trans c1, (w6 _ _ (by omega)).trans c2, (w6 _ _ (by omega)).trans c3, fun k hk => (w6 _ _ (by omega)).trans (c4 k hk), fun i j hi hj => (w6 _ _ (by omega)).trans (c5 i j hi hj), fun k hk => zCLu_f (c6 k hk) (Nat.le_refl _) hk (fun i _ => w6 _ _ (by omega)) (fun i _ _ => w6 _ _ (by omega)) (w6 _ _ (by omega))⟩, (w6 _ _ (by omega)).trans x3, (w6 _ _ (by omega)).trans x4⟩
end ZStart
