/-! the ends of a reading -/
section ZEnds
variable {kd vl nm nr pl : Nat → Nat} {N sd d : Nat}
theorem r_run (hk : ∀ i, 402 ≤ i → kd i = 0) (hs : sd < 2) (hpm : zPM pl N) (hN : ∀ i j, kd i = 2 → kd j = 2 → (nm i = nm j ↔ nr i = nr j)) (hr : ∀ i, kd i = 2 → nr i < 2 ^ 63) : ∀ (k : Nat) (S S' : ZX) (t : Nat) (A : ZA) (x : MzM), zRun kd vl nm k S t A S' → zTkR kd vl nr pl N x → zRst pl N x (.inr t) → t ≤ 400 → zWS kd t S → zXr kd nr pl sd x t S → ∃ x', H_X12_read_107 d x = H_X12_read_107 d x' ∧ zFR sd x x' ∧ zRst pl N x' (zn A) ∧ ∀ t', zn A = .inr t' → zXr kd nr pl sd x' t' S' ∧ zWS kd t' S' := by
  intro k
  induction k with
  | zero =>
    intro S S' t A x h tk s t4 w X
    obtain ⟨_, rfl, rfl⟩ := h
    refine ⟨x, rfl, zFR_r, by rw [zn_r t4]; exact s, fun t' z => ?_⟩
    have : t = t' := Sum.inr.inj (zn_ir z).1
    rw [← this]
    exact ⟨X, w⟩
  | succ k ih =>
    intro S S' t A x h tk s t4 w X
    obtain ⟨k0, A1, S1, g, h⟩ := h
    obtain ⟨x1, e1, f1, s1, p1⟩ := r_tell (d := d) hk hs hpm hN hr tk s t4 w X g
    have st : H_X12_read_107 d x = H_X12_read_107 d x1 := by
      rw [H_X12_read_107_eq d x, if_neg (fun z => z s.1), r_isF tk s.1 s.2.1 s.2.2.1 (y := 0) (k := 0) rfl (by omega) k0, Option.bind_some]
      dsimp only
      rw [if_neg (fun z => z rfl), e1, Option.bind_some]
    rcases h with ⟨e, rfl, rfl⟩ | ⟨t1, rfl, h2⟩
    · refine ⟨x1, st, f1, s1, fun t' z => ?_⟩
      have := (zn_ir z).1
      exact absurd this (by simp)
    · rcases Nat.lt_or_ge 400 t1 with c | c
      · have d1 : zn (.inr t1) = .inl (2, 400) := zn_hi c
        have dA : zn A = .inl (2, 400) := zn_d (kd := kd) d1 (fun f z => absurd z (by simp)) (fun t z => by
          have : t1 = t := Sum.inr.inj z
          rw [← this]
          exact zRun_c k S1 S' t1 A h2)
        rw [d1] at s1
        rw [dA]
        exact ⟨x1, st, f1, s1, fun t' z => absurd z (by simp)⟩
      · have z1 : zn (.inr t1) = .inr t1 := zn_r c
        rw [z1] at s1
        obtain ⟨x2, e2, f2, s2, p2⟩ := ih S1 S' t1 A x1 h2 (zTkR_R tk f1) s1 c (zWS_tl hk w g) (p1 t1 z1)
        exact ⟨x2, st.trans e2, zFR_t f1 f2, s2, p2⟩
/-- the fault and its place -/
def zOut (A : ZA) (LF : Nat × Nat) : Nat × Option Nat := match A with
  | .inl e => (e.1, some e.2)
  | .inr _ => if LF.1 = 0 then (0, none) else (LF.1, some LF.2)
def zPl (pl : Nat → Nat) : Option Nat → Int32
  | none => -1
  | some t => nI (pl t)
theorem r_end {x : MzM} {A : ZA} {LF : Nat × Nat} (tk : zTkR kd vl nr pl N x) (s : zRst pl N x A) (he : ∀ t, A = .inr t → kd t = 0 ∧ zLFr pl x LF) (h19 : mz_rd x 239 19 = nI sd) : (zOut A LF).1 < 10 ∧ ((zOut A LF).1 ≠ 0 → H_X12_read_107 d x = some (nI (zOut A LF).1, mz_wr x 239 17 (zPl pl (zOut A LF).2))) ∧ ((zOut A LF).1 = 0 → H_X12_read_107 d x = ((R_X12_begins d (mz_wr (mz_wr x 239 17 (zPl pl (zOut A LF).2)) 239 18 (nI sd))).bind (fun m15 => (R_X12_keepsRow d m15).bind (fun m18 => H_X12_read_214 d 0 (mz_wr (mz_wr m18 239 52 0) 239 62 0))))) := by
  have e := H_X12_read_107_eq d x
  match A, s, he with
  | .inl q, s, he =>
    obtain ⟨s1, s2, s3⟩ := s
    have d3 := r_fd s3
    show q.1 < 10 ∧ (q.1 ≠ 0 → H_X12_read_107 d x = some (nI q.1, mz_wr x 239 17 (nI (pl q.2)))) ∧ (q.1 = 0 → _)
    rw [s1, if_pos d3.1, if_neg d3.2.1, s2, m_ni (show 13 ≠ 17 by omega), s1, if_neg d3.2.1] at e
    exact ⟨by omega, fun _ => e, fun z => absurd z (by omega)⟩
  | .inr t, s, he =>
    obtain ⟨s1, s2, s3, s4⟩ := s
    obtain ⟨k0, L1, L2, L3⟩ := he t rfl
    rw [if_neg (fun z => z s1), r_isT tk s1 s2 s3 (y := 0) (k := 0) rfl k0, Option.bind_some] at e
    dsimp only at e
    rw [if_pos (show ¬ (1 : Int32) = 0 by decide), s1, if_pos (show (0 : Int32) ≤ 0 by decide), L1] at e
    have ou : zOut (.inr t) LF = if LF.1 = 0 then (0, none) else (LF.1, some LF.2) := rfl
    rw [ou]
    by_cases c : LF.1 = 0
    · rw [if_pos c]
      rw [c, if_pos (show nI 0 ≤ 0 by decide), m_ni (show 13 ≠ 17 by omega), s1, if_pos (show (0 : Int32) ≤ 0 by decide), m_ni (show 15 ≠ 17 by omega), L1, c, if_pos (show nI 0 ≤ 0 by decide), m_ni (show 19 ≠ 17 by omega), h19] at e
      exact ⟨by show 0 < 10; omega, fun z => absurd rfl z, fun _ => e⟩
    · rw [if_neg c]
      rw [if_neg (nI_nle (by omega) (by omega)), L3 c, m_ni (show 13 ≠ 17 by omega), s1, if_pos (show (0 : Int32) ≤ 0 by decide), m_ni (show 15 ≠ 17 by omega), L1, if_neg (nI_nle (by omega) (by omega))] at e
      exact ⟨L2, fun _ => e, fun z => absurd z c⟩
theorem c_place {t : Nat} {m : MzM} (h : zTok kd vl nm pl m) (ht : ∀ i, i < t → kd i ≠ 0) (l : t < 402) : R_X9_placeOf 8 (nI t) m = some (nI (pl t), m) := by
  obtain ⟨h1, h2, sz, ⟨s1, s1'⟩, s2, s3, s4⟩ := h
  have b : t < sz := by
    rcases s1' with q | ⟨q, q2⟩
    · omega
    · rcases Nat.lt_or_ge t sz with c | c
      · exact c
      · exact absurd q2 (ht _ (by omega))
  rw [R_X9_placeOf_eq, if_neg (nI_pos (by omega)), s2, if_neg (nI_ge b (by omega)), n_ok (by omega), n_gd (by omega), nI_clamp (by omega), (s4 t b).2.1]
theorem c_k400 {m : MzM} (h : zTok kd vl nm pl m) : R_X9_kind 8 400 m = some (nI (kd 400), m) := by
  obtain ⟨h1, h2, sz, ⟨s1, s1'⟩, s2, s3, s4⟩ := h
  have x := R_X9_kind_eq 8 400 m
  rw [if_neg (show ¬ (400 : Int32) < 0 by decide), s2] at x
  by_cases c : sz ≤ 400
  · rw [if_pos (show nI sz ≤ 400 from nI_le (b := 400) c (by omega))] at x
    rw [x, s3 400 c]
    rfl
  · rw [if_neg (show ¬ nI sz ≤ 400 from nI_ge (a := 400) (by omega) (by omega))] at x
    rw [x]
    show mz_g (mz_ok (nI 400) 402) (some (mz_rd m 24 (nI 400).toNatClampNeg, m)) = _
    rw [n_ok (by omega), n_gd (by omega), nI_clamp (by omega), (s4 400 (by omega)).1]
theorem c_end (hz : ∀ i, kd i = 0 → ∀ j, i ≤ j → kd j = 0) {m : MzM} {A : ZA} {LF : Nat × Nat} (h : zTok kd vl nm pl m) (a : zAD kd m A) (cn : zcnA kd 0 A) (he : ∀ t, A = .inr t → kd t = 0 ∧ zLFc m LF ∧ zLok kd t LF) : ∃ m', ((R_X4_checkRoomForTokens 8 m).bind (fun m16 => if ¬ (mz_rd m16 22 4) = 0 then (some ((mz_rd m16 22 4), m16)) else (some ((mz_rd m16 22 6), m16)))) = some (nI (zOut (zn A) LF).1, m') ∧ R_X4_faultPlace 8 m' = some (zPl pl (zOut (zn A) LF).2, m') ∧ zFr (fun a i => a = 22 ∧ (i = 4 ∨ i = 5)) m m' := by
  have x := R_X4_checkRoomForTokens_eq 8 m
  rw [c_k400 h, Option.bind_some] at x
  dsimp only at x
  have k34 := (h.1 400).1
  have room : kd 400 ≠ 0 → R_X4_checkRoomForTokens 8 m = some (mz_wr (mz_wr m 22 4 2) 22 5 400) → zn A = .inl (2, 400) → ∃ m', ((R_X4_checkRoomForTokens 8 m).bind (fun m16 => if ¬ (mz_rd m16 22 4) = 0 then (some ((mz_rd m16 22 4), m16)) else (some ((mz_rd m16 22 6), m16)))) = some (nI (zOut (zn A) LF).1, m') ∧ R_X4_faultPlace 8 m' = some (zPl pl (zOut (zn A) LF).2, m') ∧ zFr (fun a i => a = 22 ∧ (i = 4 ∨ i = 5)) m m' := by
    intro k4 y z
    obtain ⟨m2, hm⟩ : ∃ q : MzM, q = mz_wr (mz_wr m 22 4 2) 22 5 400 := ⟨_, rfl⟩
    rw [← hm] at y
    have F : zFr (fun a i => a = 22 ∧ (i = 4 ∨ i = 5)) m m2 := by rw [hm]; exact zFr_w2 (zFr_w ⟨rfl, Or.inl rfl⟩) ⟨rfl, Or.inr rfl⟩
    have q4 : mz_rd m2 22 4 = 2 := by rw [hm, m_ni (by omega), m_eq]
    have q5 : mz_rd m2 22 5 = 400 := by rw [hm, m_eq]
    have pp := c_place (t := 400) (zTok_f h F (fun a i z => by omega)) (fun i hi q => k4 (hz i q 400 (by omega))) (by omega)
    have pp : R_X9_placeOf 8 400 m2 = some (nI (pl 400), m2) := pp
    rw [z]
    refine ⟨m2, ?_, ?_, F⟩
    · rw [y, Option.bind_some, q4, if_pos (show ¬ (2 : Int32) = 0 by decide)]
      rfl
    · rw [R_X4_faultPlace_eq, q4, if_neg (show ¬ (2 : Int32) = 0 by decide), q5, pp, Option.bind_some]
      rfl
  match A, a, cn, he with
  | .inl e, a, cn, he =>
    have a' : zDe m e.1 e.2 := a
    obtain ⟨a1, a2, a3, a4, a5, a6⟩ := a'
    have f0 := r_fd a4
    by_cases c : e.2 ≤ 400
    · have y : R_X4_checkRoomForTokens 8 m = some m := by
        rw [x, a1, if_neg f0.1, a2, if_pos (show nI e.2 ≤ 400 from nI_le (b := 400) c (by omega))]
        by_cases q : nI (kd 400) = 0
        · rw [if_pos q]
        · rw [if_neg q]
      rw [zn_l c]
      refine ⟨m, ?_, ?_, zFr_r⟩
      · rw [y, Option.bind_some, a1, if_pos f0.1]
        rfl
      · rw [R_X4_faultPlace_eq, a1, if_neg f0.1, a2, c_place (t := e.2) h (fun i hi => cn.2 i (by omega) hi) (by omega), Option.bind_some]
        rfl
    · have k4 : kd 400 ≠ 0 := cn.2 400 (by omega) (by show 400 < e.2; omega)
      refine room k4 ?_ (zn_hi (A := .inl e) (by show 400 < e.2; omega))
      rw [x, if_neg (show ¬ nI (kd 400) = 0 from k_ne (b := 0) (by omega) (by omega) k4), a1, if_neg f0.1, a2, if_neg (show ¬ nI e.2 ≤ 400 from nI_ge (a := 400) (by omega) (by omega))]
  | .inr t, a, cn, he =>
    have a' : zAl kd m t := a
    obtain ⟨k0, L, ok⟩ := he t rfl
    by_cases c : t ≤ 400
    · have k4 : kd 400 = 0 := hz t k0 400 c
      have y : R_X4_checkRoomForTokens 8 m = some m := by
        rw [x, if_pos (show nI (kd 400) = 0 by rw [k4]; rfl)]
      rw [zn_r c]
      have ou : zOut (.inr t) LF = if LF.1 = 0 then (0, none) else (LF.1, some LF.2) := rfl
      rw [ou]
      by_cases l0 : LF.1 = 0
      · rw [if_pos l0]
        refine ⟨m, ?_, ?_, zFr_r⟩
        · rw [y, Option.bind_some, a'.1, if_neg (show ¬ ¬ (0 : Int32) = 0 from fun z => z rfl), L.1, l0]
        · rw [R_X4_faultPlace_eq, a'.1, if_pos rfl, L.1, l0, if_pos (show nI 0 = 0 from rfl)]
          rfl
      · rw [if_neg l0]
        have q0 : ¬ nI LF.1 = 0 := k_ne (b := 0) (by have := L.2.1; omega) (by omega) l0
        have lt := (ok.2 l0).1
        refine ⟨m, ?_, ?_, zFr_r⟩
        · rw [y, Option.bind_some, a'.1, if_neg (show ¬ ¬ (0 : Int32) = 0 from fun z => z rfl), L.1]
        · rw [R_X4_faultPlace_eq, a'.1, if_pos rfl, L.1, if_neg q0, L.2.2 l0, c_place h (fun i hi q => (ok.2 l0).2 (hz i q _ (by omega))) (by omega), Option.bind_some]
          rfl
    · have k4 : kd 400 ≠ 0 := cn.2 400 (by omega) (by show 400 < t; omega)
      refine room k4 ?_ (zn_hi (A := .inr t) (by show 400 < t; omega))
      rw [x, if_neg (show ¬ nI (kd 400) = 0 from k_ne (b := 0) (by omega) (by omega) k4), a'.1, if_pos rfl]
end ZEnds
