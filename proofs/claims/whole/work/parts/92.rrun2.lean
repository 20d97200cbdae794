/-! what is told, one after the other: the reference, a tell, all tells -/
/-- what is told is sound as long as there is no later fault -/
def zWS (kd : Nat → Nat) (t : Nat) (S : ZX) : Prop := S.1 ≤ 6 ∧ S.2.1 ≤ 8 ∧ zLok kd t S.2.2.2.1 ∧ (S.2.2.2.1.1 = 0 → zDwf S.1 S.2.1 S.2.2.2.2.1 S.2.2.2.2.2.1 S.2.2.2.2.2.2.1 S.2.2.2.2.2.2.2.1 S.2.2.2.2.2.2.2.2.1 S.2.2.2.2.2.2.2.2.2.1)
section ZRrun2
variable {kd vl nm nr pl : Nat → Nat} {N sd d : Nat}
theorem zSu_lt (hk : ∀ i, 402 ≤ i → kd i = 0) {P : ZP} {A : ZA} {t2 : Nat} (g : zSu kd vl P A (.inr t2)) : ∃ t, A = .inr t ∧ t < t2 := by
  match A, g with
  | .inl e, g =>
    have g : (.inr t2 : ZA) = .inl e := g
    exact absurd g (by simp)
  | .inr s, g =>
    rcases g with ⟨e, _, q⟩ | ⟨t3, g', q⟩
    · exact absurd q (by simp)
    · have : t2 = t3 := Sum.inr.inj q
      subst this
      exact ⟨s, rfl, (zG_f hk g').2.1 rfl⟩
theorem zLl_len (hk : ∀ i, 402 ≤ i → kd i = 0) : ∀ (j : Nat) (A : ZA) (ts : List (ZP × ZP × ZP)) (last : ZP) (t' : Nat), zLl kd vl j A ts last (.inr t') → ∃ t, A = .inr t ∧ t + 4 * ts.length + 2 ≤ t' := by
  have fin : ∀ (A : ZA) (ts : List (ZP × ZP × ZP)) (last : ZP) (t' : Nat), (¬ zIf kd A ∧ ts = [] ∧ ∃ A1, zSu kd vl last A A1 ∧ .inr t' = zex kd 4 A1) → ∃ t, A = .inr t ∧ t + 4 * ts.length + 2 ≤ t' := by
    intro A ts last t' ⟨_, e, A1, g, h⟩
    obtain ⟨t1, q1, _, q3⟩ := zex_r h.symm
    subst q1
    obtain ⟨t, q4, q5⟩ := zSu_lt hk g
    refine ⟨t, q4, ?_⟩
    rw [e]
    show t + 4 * 0 + 2 ≤ t'
    omega
  intro j
  induction j with
  | zero =>
    intro A ts last t' g
    rcases g with g | ⟨s, _, _, q⟩
    · exact fin A ts last t' g
    · exact absurd q (by simp)
  | succ j ih =>
    intro A ts last t' g
    rcases g with g | ⟨s, e, _, P1, A1, P2, A2, P3, A3, ts', g1, g2, g3, g4, e2⟩
    · exact fin A ts last t' g
    · obtain ⟨u4, q4, l4⟩ := ih _ ts' last t' g4
      obtain ⟨u3, q3, _, l3⟩ := zex_r q4
      subst q3
      obtain ⟨v2, q2, l2⟩ := zSu_lt hk g3
      obtain ⟨u2, r2, _, m2⟩ := zex_r q2
      subst r2
      obtain ⟨v1, q1, l1⟩ := zSu_lt hk g2
      obtain ⟨u1, r1, _, m1⟩ := zex_r q1
      subst r1
      obtain ⟨v0, q0, l0⟩ := zSu_lt hk g1
      have : s + 1 = v0 := Sum.inr.inj q0
      refine ⟨s, e, ?_⟩
      rw [e2, List.length_cons]
      omega
theorem zWS_tl (hk : ∀ i, 402 ≤ i → kd i = 0) {S S' : ZX} {t t' : Nat} (w : zWS kd t S) (h : zTl kd vl nm S t (.inr t') S') : zWS kd t' S' := by
  have t2 := zTl_2 h rfl
  obtain ⟨w1, w2, w3, w4⟩ := w
  rcases h with ⟨k, _, e⟩ | ⟨k, hp, e, rfl⟩ | ⟨k, _, e⟩ | ⟨k, hp, e, rfl⟩ | ⟨w, hw, k, e, rfl⟩ | ⟨k, ts, last, hk4, kk, e, rfl⟩ | ⟨k, e⟩
  · exact absurd e (by simp)
  · obtain ⟨s1, q1, r1, g1⟩ := zex_r e.symm
    obtain ⟨s2, q2, g2, r2⟩ := zit_r _ _ _ q1
    obtain ⟨s3, q3, r3, g3⟩ := zex_r q2
    have : t + 1 = s3 := Sum.inr.inj q3
    subst this
    subst g3
    have ok0 : zLok kd (t + 2) (if (zfn nm S.2.2.1 S.1 (t + 1)).isSome = true then zlt1 3 (t + 1) S.2.2.2.1 else S.2.2.2.1) := by
      by_cases c : (zfn nm S.2.2.1 S.1 (t + 1)).isSome = true
      · rw [if_pos c]; exact zlt1_ok (zLok_s w3 (by omega)) (by omega) (by omega)
      · rw [if_neg c]; exact zLok_s w3 (by omega)
    have ok1 := zlfs_ok (kd := kd) (vl := vl) (lo := 0) (hi := 99) 4 (t + 2) _ ok0 (fun i hi => by rw [r2 i hi]; omega)
    refine ⟨by show S.1 + 1 ≤ 6; omega, w2, zLok_s ok1 (by omega), fun z => ?_⟩
    obtain ⟨z0, zr⟩ := zlfs_0 4 (t + 2) _ z
    have z1 : S.2.2.2.1.1 = 0 := by
      by_cases c : (zfn nm S.2.2.1 S.1 (t + 1)).isSome = true
      · rw [if_pos c] at z0; exact absurd z0 (zlt1_0 (by omega))
      · rw [if_neg c] at z0; exact z0
    obtain ⟨⟨d1, d2, d3, d4, d5⟩, d6⟩ := w4 z1
    refine ⟨⟨by show S.1 + 1 ≤ 6; omega, d2, fun i hi => ?_, d4, d5⟩, fun q => ?_⟩
    · obtain ⟨a, b, c⟩ := d3 i hi
      exact ⟨Nat.lt_succ_of_lt a, Nat.lt_succ_of_lt b, c⟩
    · show (if 4 * S.1 ≤ q ∧ q < 4 * S.1 + 4 then vl (t + 2 + (q - 4 * S.1)) else S.2.2.2.2.2.2.2.2.2.1 q) ≤ 99
      by_cases c : 4 * S.1 ≤ q ∧ q < 4 * S.1 + 4
      · rw [if_pos c]; exact (zr (q - 4 * S.1) (by omega)).2
      · rw [if_neg c]; exact d6 q
  · exact absurd e (by simp)
  · obtain ⟨s1, q1, r1, g1⟩ := zex_r e.symm
    obtain ⟨s2, q2, r2, g2⟩ := zex_r q1
    obtain ⟨s3, q3, r3, g3⟩ := zex_r q2
    obtain ⟨s4, q4, r4, g4⟩ := zex_r q3
    obtain ⟨s5, q5, r5, g5⟩ := zex_r q4
    have : t + 1 = s5 := Sum.inr.inj q5
    subst this
    subst g5
    subst g4
    subst g3
    have ok1 : zLok kd (t + 4 + 1) (zli vl 0 29 (t + 4) (zli vl 1 30 (t + 3) (zln (zfn nm S.2.2.1 S.1 (t + 2)) (zfn nm S.2.2.1 S.1 (t + 1)) (t + 2) (zln (zfn nm S.2.2.1 S.1 (t + 1)) none (t + 1) S.2.2.2.1)))) := zli_ok (zli_ok (zln_ok (zln_ok (zLok_s w3 (by omega)) (by rw [r5]; omega)) (by rw [r4]; omega)) (by rw [r3]; omega)) (by rw [r2]; omega)
    refine ⟨w1, by show S.2.1 + 1 ≤ 8; omega, zLok_s ok1 (by omega), fun z => ?_⟩
    obtain ⟨z1, b1, b2, _⟩ := zli_0 z
    obtain ⟨z2, b3, b4, _⟩ := zli_0 z1
    obtain ⟨z3, k2, hk2, n2⟩ := zln_0 z2
    obtain ⟨z4, k1, hk1, _⟩ := zln_0 z3
    obtain ⟨⟨d1, d2, d3, d4, d5⟩, d6⟩ := w4 z4
    refine ⟨⟨d1, by show S.2.1 + 1 ≤ 8; omega, fun i hi => ?_, d4, d5⟩, d6⟩
    have hi : i < S.2.1 + 1 := hi
    show zSuitU vl nm t S i 0 < S.1 ∧ zSuitU vl nm t S i 1 < S.1 ∧ zSuitU vl nm t S i 0 ≠ zSuitU vl nm t S i 1 ∧ 1 ≤ zSuitU vl nm t S i 2 ∧ zSuitU vl nm t S i 2 ≤ 30 ∧ zSuitU vl nm t S i 3 ≤ 29
    unfold zSuitU
    by_cases c : i = S.2.1
    · rw [if_pos c, if_pos c, if_pos c, if_pos c]
      show (zfn nm S.2.2.1 S.1 (t + 1)).getD 0 < S.1 ∧ (zfn nm S.2.2.1 S.1 (t + 2)).getD 0 < S.1 ∧ (zfn nm S.2.2.1 S.1 (t + 1)).getD 0 ≠ (zfn nm S.2.2.1 S.1 (t + 2)).getD 0 ∧ 1 ≤ vl (t + 3) ∧ vl (t + 3) ≤ 30 ∧ vl (t + 4) ≤ 29
      have n2' : k1 ≠ k2 := fun q => n2 (by rw [hk1, q])
      rw [hk1, hk2]
      exact ⟨zfn_lt hk1, zfn_lt hk2, n2', b3, b4, b2⟩
    · rw [if_neg c, if_neg c, if_neg c, if_neg c]
      exact d3 i (show i < S.2.1 by omega)
  · obtain ⟨s1, q1, r1, g1⟩ := zex_r e.symm
    obtain ⟨s2, q2, r2, g2⟩ := zex_r q1
    have : t + 1 = s2 := Sum.inr.inj q2
    subst this
    refine ⟨w1, w2, zLok_s (zli_ok (zLok_s w3 (by omega)) (by omega)) (show t + 1 + 1 ≤ t' by omega), fun z => ?_⟩
    obtain ⟨z1, b1, b2, _⟩ := zli_0 z
    obtain ⟨⟨d1, d2, d3, d4, d5⟩, d6⟩ := w4 z1
    refine ⟨⟨d1, d2, d3, ?_, ?_⟩, d6⟩
    · show (if w = 1 then vl (t + 1) else S.2.2.2.2.2.2.2.1) ≤ 100
      by_cases c : w = 1
      · rw [if_pos c]
        rw [if_neg (by omega), if_pos c] at b2
        exact b2
      · rw [if_neg c]; exact d4
    · show (if w = 2 then vl (t + 1) else S.2.2.2.2.2.2.2.2.1) ≤ 9999
      by_cases c : w = 2
      · rw [if_pos c]
        rw [if_neg (by omega), if_neg (by omega)] at b2
        exact b2
      · rw [if_neg c]; exact d5
  · exact ⟨w1, w2, zLok_s w3 (by omega), fun z => w4 z⟩
  · exact absurd e (by simp)
theorem zRst_fail {x : MzM} {t f : Nat} (s : zRst pl N x (.inr t)) (hf : f = 1 ∨ f = 2) (t4 : t ≤ 400) : zRst pl N (mz_wr (mz_wr x 239 13 (nI f)) 239 14 (nI (pl t))) (zn (.inl (f, t))) := by
  rw [zn_l (e := (f, t)) t4]
  exact ⟨by rw [m_ni (by omega), m_eq], m_eq, hf⟩
theorem zFR_fail {x : MzM} {v w : Int32} : zFR sd x (mz_wr (mz_wr x 239 13 v) 239 14 w) := zFR_m (F := fun a i => a = 239 ∧ (i = 13 ∨ i = 14)) (zFr_w2 (zFr_w ⟨rfl, Or.inl rfl⟩) ⟨rfl, Or.inr rfl⟩) (fun a i z => by unfold zRTe; omega)
theorem zRTe_x {a i : Nat} (z : zXR sd a i) : zRTe sd a i := by unfold zXR at z; unfold zRTe; omega
theorem zRTe_l {k b a i : Nat} (hk : k < 4) (hb : 130 * sd ≤ b) (z : zLX sd k b a i) : zRTe sd a i := by unfold zLX zXR at z; unfold zRTe; omega
theorem r_tell (hk : ∀ i, 402 ≤ i → kd i = 0) (hs : sd < 2) (hpm : zPM pl N) (hN : ∀ i j, kd i = 2 → kd j = 2 → (nm i = nm j ↔ nr i = nr j)) (hr : ∀ i, kd i = 2 → nr i < 2 ^ 63) {x : MzM} {t : Nat} {S S' : ZX} {A : ZA} (tk : zTkR kd vl nr pl N x) (s : zRst pl N x (.inr t)) (t4 : t ≤ 400) (w : zWS kd t S) (X : zXr kd nr pl sd x t S) (h : zTl kd vl nm S t A S') : ∃ x', R_X12_tellOne d x = some x' ∧ zFR sd x x' ∧ zRst pl N x' (zn A) ∧ ∀ t', zn A = .inr t' → zXr kd nr pl sd x' t' S' := by
  have tN := s.2.2.1
  have ln := tk.2.1
  have bk := (tk.1 t).1
  have bz := zkr_lt _ bk
  obtain ⟨w1, w2, w3, w4⟩ := w
  obtain ⟨X1, X2, X3, b, c, X4, X5, X6, X7, X8⟩ := X
  have e := R_X12_tellOne_eq d x
  rw [s.2.1, n_ok (by omega), n_gd (by omega), nI_clamp (by omega), (tk.2.2.2.2 t tN).1] at e
  have ne : ∀ j, j < 41 → zkr (kd t) ≠ j → ¬ nI (zkr (kd t)) = nI j := fun j hj z => k_ne (by omega) (by omega) z
  have z13 : 13 ≤ kd t → zkr (kd t) = kd t + 7 := fun z => by unfold zkr; rw [if_pos z]
  rcases h with ⟨k, hp, rfl⟩ | ⟨k, hp, rfl, rfl⟩ | ⟨k, hp, rfl⟩ | ⟨k, hp, rfl, rfl⟩ | ⟨w, hw, k, rfl, rfl⟩ | ⟨k, ts, last, hk4, kk, g, rfl⟩ | ⟨k, rfl⟩
  · have z := z13 (by omega)
    rw [if_pos (show nI (zkr (kd t)) = 20 by rw [z, k]; rfl), X1.1, n_ok (by omega), n_gd (by omega), nI_clamp (by omega), X1.2.1, R_X12_roomFor_eq, if_neg (show ¬ ¬ nI S.1 = 6 from fun q => q (by rw [show S.1 = 6 by omega]; rfl)), r_fl tk s.1 s.2.1 tN, Option.bind_some, m_ni (show 13 ≠ 14 by omega), m_eq, if_pos (show ¬ (2 : Int32) = 0 by decide), Option.bind_some, m_ni (show 13 ≠ 14 by omega), m_eq, if_pos (show ¬ (2 : Int32) = 0 by decide)] at e
    exact ⟨_, e, zFR_fail, zRst_fail (f := 2) s (Or.inr rfl) t4, fun t' q => by rw [zn_l (e := (2, t)) t4] at q; exact absurd q (by simp)⟩
  · have z := z13 (by omega)
    obtain ⟨x1, e1, f1, s1⟩ := r_goA (d := d) tk s (by omega)
    rw [if_pos (show nI (zkr (kd t)) = 20 by rw [z, k]; rfl), X1.1, n_ok (by omega), n_gd (by omega), nI_clamp (by omega), X1.2.1, R_X12_roomFor_eq, if_pos (show ¬ nI S.1 = 6 from k_ne (b := 6) (by omega) (by omega) (by omega)), if_neg (fun q => q s.1), e1, Option.bind_some, Option.bind_some] at e
    rcases zn_cs (.inr (t + 1)) with ⟨q, h⟩ | ⟨t1, h, l, hq⟩
    · have dd : zn (zex kd 4 (zit kd 4 (zex kd 2 (.inr (t + 1))))) = .inl q := zn_ex (by omega) (zn_ex (by omega) (zn_ex (by omega) (zn_ex (by omega) (zn_ex (by omega) (zn_ex (by omega) h)))))
      rw [h] at s1
      rw [s1.1, if_pos (r_fd s1.2.2).1] at e
      rw [dd]
      exact ⟨x1, e, zFR_5 (zF3_5 f1), s1, fun t' z => absurd z (by simp)⟩
    · have : t + 1 = t1 := Sum.inr.inj h
      subst this
      rw [hq] at s1
      obtain ⟨x2, e2, f2, s2, p2⟩ := r_pers (d := d) hs hpm hN hr hp (zTkR_3 tk f1) s1 l (zLFr_3 X3 f1) (zLok_s w3 (by omega)) (zNmR_f X1 f1 ⟨by unfold zF3; omega, by unfold zF3; omega⟩)
      rw [if_neg (fun q => q s1.1), e2, Option.bind_some] at e
      refine ⟨x2, e, zFR_t (zFR_5 (zF3_5 f1)) f2, s2, fun t' z => ?_⟩
      obtain ⟨y1, y2, y3, y4, y5, y6, y7, y8⟩ := p2 t' z
      obtain ⟨s1', q1, r1, g1⟩ := zex_r (zn_ir z).1
      obtain ⟨s2', q2, g2, r2⟩ := zit_r _ _ _ q1
      obtain ⟨s3', q3, r3, g3⟩ := zex_r q2
      have : t + 1 = s3' := Sum.inr.inj q3
      subst this
      have v1 : ∀ a i, a ≠ 239 → mz_rd x1 a i = mz_rd x a i := fun a i z => f1.1 a i (by unfold zF3; omega)
      have u1 : ∀ i, ¬ zF5 239 i → mz_rd x2 239 i = mz_rd x 239 i := fun i z => (y2 i z).trans (f1.1 239 i (by unfold zF5 at z; unfold zF3; omega))
      have wv : ∀ a i, a ≠ 239 → a ≠ 249 → a ≠ 248 → mz_rd x2 a i = mz_rd x a i := fun a i p q r => (y1 a i p q (by omega)).trans (v1 a i p)
      refine ⟨⟨(u1 19 (by unfold zF5; omega)).trans X1.1, y3, fun j hj => ?_⟩, (wv _ _ (by omega) (by omega) (by omega)).trans X2, y8, b, c, (u1 33 (by unfold zF5; omega)).trans X4, by omega, (u1 39 (by unfold zF5; omega)).trans X6, by omega, fun zz => ?_⟩
      · have hj : j < S.1 + 1 := hj
        show mz_rl x2 247 j = lN (nr (if j = S.1 then t + 1 else S.2.2.1 j)) ∧ kd (if j = S.1 then t + 1 else S.2.2.1 j) = 2
        by_cases cj : j = S.1
        · rw [if_pos cj, cj]; exact ⟨y5, r3⟩
        · rw [if_neg cj, y4 j (by omega)]
          refine ⟨?_, (X1.2.2 j (by omega)).2⟩
          unfold mz_rl
          rw [f1.2]
          exact (X1.2.2 j (by omega)).1
      · obtain ⟨z0, zr⟩ := zlfs_0 4 (t + 2) _ zz
        have z1 : S.2.2.2.1.1 = 0 := by
          by_cases cc : (zfn nm S.2.2.1 S.1 (t + 1)).isSome = true
          · rw [if_pos cc] at z0; exact absurd z0 (zlt1_0 (by omega))
          · rw [if_neg cc] at z0; exact z0
        obtain ⟨c1, c2, c3, c4, c5, c6⟩ := X8 z1
        refine ⟨(wv _ _ (by omega) (by omega) (by omega)).trans c1, (wv _ _ (by omega) (by omega) (by omega)).trans c2, (wv _ _ (by omega) (by omega) (by omega)).trans c3, fun j hj => ?_, fun i hi => ?_, fun j hj => ?_⟩
        · have hj : j < 4 * (S.1 + 1) := hj
          show mz_rd x2 249 (24 * sd + j) = nI (if 4 * S.1 ≤ j ∧ j < 4 * S.1 + 4 then vl (t + 2 + (j - 4 * S.1)) else S.2.2.2.2.2.2.2.2.2.1 j)
          by_cases cj : 4 * S.1 ≤ j ∧ j < 4 * S.1 + 4
          · rw [if_pos cj]
            have := y7 (j - 4 * S.1) (by omega)
            rw [show 24 * sd + 4 * S.1 + (j - 4 * S.1) = 24 * sd + j by omega] at this
            exact this
          · rw [if_neg cj, y6 j (by omega), v1 _ _ (by omega)]; exact c4 j (by omega)
        · obtain ⟨k1, k2, k3, k4⟩ := c5 i hi
          exact ⟨(wv _ _ (by omega) (by omega) (by omega)).trans k1, (wv _ _ (by omega) (by omega) (by omega)).trans k2, (wv _ _ (by omega) (by omega) (by omega)).trans k3, (wv _ _ (by omega) (by omega) (by omega)).trans k4⟩
        · exact zRWu_f (c6 j hj) (Nat.le_refl _) (Nat.le_refl _) (wv _ _ (by omega) (by omega) (by omega)) (wv _ _ (by omega) (by omega) (by omega)) (fun i _ => ⟨wv _ _ (by omega) (by omega) (by omega), wv _ _ (by omega) (by omega) (by omega)⟩) (fun a i _ _ _ => wv _ _ (by omega) (by omega) (by omega))
  · have z := z13 (by omega)
    rw [if_neg (show ¬ nI (zkr (kd t)) = 20 from ne 20 (by omega) (by omega)), if_pos (show nI (zkr (kd t)) = 21 by rw [z, k]; rfl), X1.1, n_ok (by omega), n_gd (by omega), nI_clamp (by omega), X2, R_X12_roomFor_eq, if_neg (show ¬ ¬ nI S.2.1 = 8 from fun q => q (by rw [show S.2.1 = 8 by omega]; rfl)), r_fl tk s.1 s.2.1 tN, Option.bind_some, m_ni (show 13 ≠ 14 by omega), m_eq, if_pos (show ¬ (2 : Int32) = 0 by decide), Option.bind_some, m_ni (show 13 ≠ 14 by omega), m_eq, if_pos (show ¬ (2 : Int32) = 0 by decide)] at e
    exact ⟨_, e, zFR_fail, zRst_fail (f := 2) s (Or.inr rfl) t4, fun t' q => by rw [zn_l (e := (2, t)) t4] at q; exact absurd q (by simp)⟩
  · have z := z13 (by omega)
    obtain ⟨x1, e1, f1, s1⟩ := r_goA (d := d) tk s (by omega)
    rw [if_neg (show ¬ nI (zkr (kd t)) = 20 from ne 20 (by omega) (by omega)), if_pos (show nI (zkr (kd t)) = 21 by rw [z, k]; rfl), X1.1, n_ok (by omega), n_gd (by omega), nI_clamp (by omega), X2, R_X12_roomFor_eq, if_pos (show ¬ nI S.2.1 = 8 from k_ne (b := 8) (by omega) (by omega) (by omega)), if_neg (fun q => q s.1), e1, Option.bind_some, Option.bind_some] at e
    rcases zn_cs (.inr (t + 1)) with ⟨q, h⟩ | ⟨t1, h, l, hq⟩
    · have dd : zn (zex kd 4 (zex kd 3 (zex kd 3 (zex kd 2 (zex kd 2 (.inr (t + 1))))))) = .inl q := zn_ex (by omega) (zn_ex (by omega) (zn_ex (by omega) (zn_ex (by omega) (zn_ex (by omega) h))))
      rw [h] at s1
      rw [s1.1, if_pos (r_fd s1.2.2).1] at e
      rw [dd]
      exact ⟨x1, e, zFR_5 (zF3_5 f1), s1, fun t' z => absurd z (by simp)⟩
    · have : t + 1 = t1 := Sum.inr.inj h
      subst this
      rw [hq] at s1
      have v1 : ∀ a i, a ≠ 239 → mz_rd x1 a i = mz_rd x a i := fun a i z => f1.1 a i (by unfold zF3; omega)
      obtain ⟨x2, e2, f2, s2, p2⟩ := r_suit (d := d) hs hpm hN hr hp w1 (zTkR_3 tk f1) s1 l (zLFr_3 X3 f1) (zLok_s w3 (by omega)) (zNmR_f X1 f1 ⟨by unfold zF3; omega, by unfold zF3; omega⟩) ((v1 _ _ (by omega)).trans X2)
      rw [if_neg (fun q => q s1.1), e2, Option.bind_some] at e
      refine ⟨x2, e, zFR_t (zFR_5 (zF3_5 f1)) (zFR_m f2 (fun a i z => by unfold zF5 at z; unfold zRTe; omega)), s2, fun t' z => ?_⟩
      obtain ⟨y1, y2, y3, y4, y5, y6⟩ := p2 t' z
      obtain ⟨a1, q1, r1, g1⟩ := zex_r (zn_ir z).1
      obtain ⟨a2, q2, r2, g2⟩ := zex_r q1
      obtain ⟨a3, q3, r3, g3⟩ := zex_r q2
      obtain ⟨a4, q4, r4, g4⟩ := zex_r q3
      obtain ⟨a5, q5, r5, g5⟩ := zex_r q4
      have : t + 1 = a5 := Sum.inr.inj q5
      subst this
      have wv : ∀ a i, a ≠ 239 → ¬ (251 ≤ a ∧ a ≤ 254 ∧ i = 8 * sd + S.2.1) → ¬ (a = 250 ∧ i = sd) → mz_rd x2 a i = mz_rd x a i := fun a i p q r => (f2.1 a i (by unfold zF5; omega)).trans (v1 a i p)
      have u1 : ∀ i, ¬ zF5 239 i → mz_rd x2 239 i = mz_rd x 239 i := fun i z => (f2.1 239 i (by
        intro q
        rcases q with q | q | q
        · exact z q
        · omega
        · omega)).trans (f1.1 239 i (by unfold zF5 at z; unfold zF3; omega))
      have l2 : ∀ a i, mz_rl x2 a i = mz_rl x a i := fun a i => by unfold mz_rl; rw [f2.2, f1.2]
      refine ⟨⟨(u1 19 (by unfold zF5; omega)).trans X1.1, (wv _ _ (by omega) (by omega) (by omega)).trans X1.2.1, fun j hj => ⟨(l2 _ _).trans (X1.2.2 j hj).1, (X1.2.2 j hj).2⟩⟩, y1, y6, b, c, (u1 33 (by unfold zF5; omega)).trans X4, by omega, (u1 39 (by unfold zF5; omega)).trans X6, by omega, fun zz => ?_⟩
      have z1 := (zli_0 (zli_0 zz).1).1
      obtain ⟨z2, k2, hk2, _⟩ := zln_0 z1
      obtain ⟨z3, k1, hk1, _⟩ := zln_0 z2
      obtain ⟨c1, c2, c3, c4, c5, c6⟩ := X8 z3
      refine ⟨(wv _ _ (by omega) (by omega) (by omega)).trans c1, (wv _ _ (by omega) (by omega) (by omega)).trans c2, (wv _ _ (by omega) (by omega) (by omega)).trans c3, fun j hj => (wv _ _ (by omega) (by omega) (by omega)).trans (c4 j hj), fun i hi => ?_, fun j hj => ?_⟩
      · have hi : i < S.2.1 + 1 := hi
        show mz_rd x2 251 (8 * sd + i) = nI (zSuitU vl nm t S i 0) ∧ mz_rd x2 252 (8 * sd + i) = nI (zSuitU vl nm t S i 1) ∧ mz_rd x2 253 (8 * sd + i) = nI (zSuitU vl nm t S i 2) ∧ mz_rd x2 254 (8 * sd + i) = nI (zSuitU vl nm t S i 3)
        unfold zSuitU
        by_cases ci : i = S.2.1
        · rw [if_pos ci, if_pos ci, if_pos ci, if_pos ci, ci]
          have hk1 : zfn nm S.2.2.1 S.1 (t + 1) = some k1 := hk1
          have hk2 : zfn nm S.2.2.1 S.1 (t + 2) = some k2 := hk2
          rw [hk1] at y2
          rw [show t + 1 + 1 = t + 2 by omega, hk2] at y3
          refine ⟨?_, ?_, y4, y5⟩
          · show _ = nI ((zfn nm S.2.2.1 S.1 (t + 1)).getD 0)
            rw [hk1]; exact y2
          · show _ = nI ((zfn nm S.2.2.1 S.1 (t + 2)).getD 0)
            rw [hk2]; exact y3
        · rw [if_neg ci, if_neg ci, if_neg ci, if_neg ci]
          obtain ⟨k1, k2, k3, k4⟩ := c5 i (by omega)
          exact ⟨(wv _ _ (by omega) (by omega) (by omega)).trans k1, (wv _ _ (by omega) (by omega) (by omega)).trans k2, (wv _ _ (by omega) (by omega) (by omega)).trans k3, (wv _ _ (by omega) (by omega) (by omega)).trans k4⟩
      · exact zRWu_f (c6 j hj) (Nat.le_refl _) (Nat.le_refl _) (wv _ _ (by omega) (by omega) (by omega)) (wv _ _ (by omega) (by omega) (by omega)) (fun i _ => ⟨wv _ _ (by omega) (by omega) (by omega), wv _ _ (by omega) (by omega) (by omega)⟩) (fun a i _ _ _ => wv _ _ (by omega) (by omega) (by omega))
  · have z := z13 (by omega)
    obtain ⟨x1, e1, f1, s1⟩ := r_goA (d := d) tk s (by omega)
    have tk1 := zTkR_3 tk f1
    have ok1 := zLok_s w3 (show t ≤ t + 1 by omega)
    have b1 : (if w = 0 then 1 else 0) < 10000 := by by_cases c : w = 0 <;> simp [c]
    have b2 : (if w = 0 then 9 else if w = 1 then 100 else 9999) < 10000 := by by_cases c : w = 0 <;> by_cases c2 : w = 1 <;> simp [c, c2]
    obtain ⟨v, x2, e2, f2, s2, p2⟩ := r_int (d := d) (lo := if w = 0 then 1 else 0) (hi := if w = 0 then 9 else if w = 1 then 100 else 9999) (LF := S.2.2.2.1) hpm tk1 s1 (fun t' z => by
      have : t + 1 = t' := Sum.inr.inj (zn_ir z).1
      rw [← this]
      exact ⟨zLFr_3 X3 f1, ok1⟩) b1 b2
    obtain ⟨x3, e3, f3, s3⟩ := r_mustA (d := d) (k := 4) (y := 4) (zTkR_5 tk1 f2) s2 rfl (by omega) (by omega)
    have tI : ∀ lo hi : Int32, lo = nI (if w = 0 then 1 else 0) → hi = nI (if w = 0 then 9 else if w = 1 then 100 else 9999) → R_X12_toldInt d lo hi x = some (v, x3) := fun lo hi h1 h2 => by
      rw [R_X12_toldInt_eq, e1, Option.bind_some, h1, h2, e2, Option.bind_some]
      dsimp only
      rw [e3, Option.bind_some]
    obtain ⟨x4, hx⟩ : ∃ q : MzM, q = mz_wr x3 (255 + w) sd v := ⟨_, rfl⟩
    have F4 : zFr (fun a i => a = 255 + w ∧ i = sd) x3 x4 := by rw [hx]; exact zFr_w ⟨rfl, rfl⟩
    have e : R_X12_tellOne d x = some x4 := by
      rw [e, if_neg (show ¬ nI (zkr (kd t)) = 20 from ne 20 (by omega) (by omega)), if_neg (show ¬ nI (zkr (kd t)) = 21 from ne 21 (by omega) (by omega)), hx]
      rcases (show w = 0 ∨ w = 1 ∨ w = 2 by omega) with rfl | rfl | rfl
      · rw [if_pos (show nI (zkr (kd t)) = 26 by rw [z, k]; rfl), tI 1 9 rfl rfl, Option.bind_some]
        dsimp only
        rw [X1.1, n_ok (by omega), n_gd (by omega), nI_clamp (by omega)]
      · rw [if_neg (show ¬ nI (zkr (kd t)) = 26 from ne 26 (by omega) (by omega)), if_pos (show nI (zkr (kd t)) = 27 by rw [z, k]; rfl), tI 0 100 rfl rfl, Option.bind_some]
        dsimp only
        rw [X1.1, n_ok (by omega), n_gd (by omega), nI_clamp (by omega)]
      · rw [if_neg (show ¬ nI (zkr (kd t)) = 26 from ne 26 (by omega) (by omega)), if_neg (show ¬ nI (zkr (kd t)) = 27 from ne 27 (by omega) (by omega)), if_pos (show nI (zkr (kd t)) = 28 by rw [z, k]; rfl), tI 0 9999 rfl rfl, Option.bind_some]
        dsimp only
        rw [X1.1, n_ok (by omega), n_gd (by omega), nI_clamp (by omega)]
    refine ⟨x4, e, zFR_t (zFR_5 (zF3_5 f1)) (zFR_t (zFR_5 f2) (zFR_t (zFR_5 (zF3_5 f3)) (zFR_m F4 (fun a i z => by unfold zRTe; omega)))), zRst_0 s3 F4 (fun a i z => by omega), fun t' zz => ?_⟩
    obtain ⟨a1, q1, r1, g1⟩ := zex_r (zn_ir zz).1
    obtain ⟨a2, q2, r2, g2⟩ := zex_r q1
    have : t + 1 = a2 := Sum.inr.inj q2
    subst this
    have l4 := (zn_ir zz).2
    have al2 : zn (zex kd 3 (.inr (t + 1))) = .inr (t + 1 + 1) := by rw [q1, g2]; exact zn_r (by omega)
    obtain ⟨hv, L2⟩ := p2 (t + 1) al2
    have L3 := zLFr_3 L2 f3
    have wv : ∀ a i, a ≠ 239 → ¬ (a = 255 + w ∧ i = sd) → mz_rd x4 a i = mz_rd x a i := fun a i p q => by
      rw [F4.1 a i q, f3.1 a i (by unfold zF3; omega), f2.1 a i (by unfold zF5; omega), f1.1 a i (by unfold zF3; omega)]
    have u1 : ∀ i, ¬ zF5 239 i → mz_rd x4 239 i = mz_rd x 239 i := fun i z => by
      rw [F4.1 239 i (by omega), f3.1 239 i (by unfold zF5 at z; unfold zF3; omega), f2.1 239 i z, f1.1 239 i (by unfold zF5 at z; unfold zF3; omega)]
    have l2 : ∀ a i, mz_rl x4 a i = mz_rl x a i := fun a i => by unfold mz_rl; rw [F4.2, f3.2, f2.2, f1.2]
    have vv : mz_rd x4 (255 + w) sd = nI (vl (t + 1)) := by rw [hx, m_eq]; exact hv
    refine ⟨⟨(u1 19 (by unfold zF5; omega)).trans X1.1, (wv _ _ (by omega) (by omega)).trans X1.2.1, fun j hj => ⟨(l2 _ _).trans (X1.2.2 j hj).1, (X1.2.2 j hj).2⟩⟩, (wv _ _ (by omega) (by omega)).trans X2, ⟨(F4.1 _ _ (by omega)).trans L3.1, L3.2.1, fun w => (F4.1 _ _ (by omega)).trans (L3.2.2 w)⟩, b, c, (u1 33 (by unfold zF5; omega)).trans X4, by omega, (u1 39 (by unfold zF5; omega)).trans X6, by omega, fun z0 => ?_⟩
    obtain ⟨c1, c2, c3, c4, c5, c6⟩ := X8 (zli_0 z0).1
    refine ⟨?_, ?_, ?_, fun j hj => (wv _ _ (by omega) (by omega)).trans (c4 j hj), fun i hi => ?_, fun j hj => ?_⟩
    · show mz_rd x4 255 sd = nI (if w = 0 then vl (t + 1) else S.2.2.2.2.2.2.2.2.2.2)
      by_cases cw : w = 0
      · rw [if_pos cw]; rw [cw] at vv; exact vv
      · rw [if_neg cw]; exact (wv _ _ (by omega) (by omega)).trans c1
    · show mz_rd x4 256 sd = nI (if w = 1 then vl (t + 1) else S.2.2.2.2.2.2.2.1)
      by_cases cw : w = 1
      · rw [if_pos cw]; rw [cw] at vv; exact vv
      · rw [if_neg cw]; exact (wv _ _ (by omega) (by omega)).trans c2
    · show mz_rd x4 257 sd = nI (if w = 2 then vl (t + 1) else S.2.2.2.2.2.2.2.2.1)
      by_cases cw : w = 2
      · rw [if_pos cw]; rw [cw] at vv; exact vv
      · rw [if_neg cw]; exact (wv _ _ (by omega) (by omega)).trans c3
    · obtain ⟨k1, k2, k3, k4⟩ := c5 i hi
      exact ⟨(wv _ _ (by omega) (by omega)).trans k1, (wv _ _ (by omega) (by omega)).trans k2, (wv _ _ (by omega) (by omega)).trans k3, (wv _ _ (by omega) (by omega)).trans k4⟩
    · exact zRWu_f (c6 j hj) (Nat.le_refl _) (Nat.le_refl _) (wv _ _ (by omega) (by omega)) (wv _ _ (by omega) (by omega)) (fun i _ => ⟨wv _ _ (by omega) (by omega), wv _ _ (by omega) (by omega)⟩) (fun a i _ _ _ => wv _ _ (by omega) (by omega))
  · have z := z13 (by omega)
    obtain ⟨x1, e1, f1, s1⟩ := r_goA (d := d) tk s (by omega)
    have tk1 := zTkR_3 tk f1
    obtain ⟨x2, e2, f2, s2⟩ := r_mustA (d := d) (k := 5) (y := 5) tk1 s1 rfl (by omega) (by omega)
    have tk2 := zTkR_3 tk1 f2
    have v2 : ∀ a i, ¬ zF3 a i → mz_rd x2 a i = mz_rd x a i := fun a i z => (f2.1 a i z).trans (f1.1 a i z)
    obtain ⟨x3, e3, f3, s3, p3⟩ := r_ll (d := d) (a0 := 130 * sd + b) hk hs hk4 4 _ A ts last x2 (130 * sd + b) (420 * sd + c) (by omega) g tk2 s2 ((v2 239 33 (by unfold zF3; omega)).trans X4) (by omega) (by omega) ((v2 239 19 (by unfold zF3; omega)).trans X1.1) (fun t' zz => by
      obtain ⟨a1, q1, r1, g1⟩ := zex_r (zn_ir zz).1
      have : t + 1 = a1 := Sum.inr.inj q1
      exact ⟨(v2 239 39 (by unfold zF3; omega)).trans X6, by omega, by omega⟩)
    have e3 : H_X12_tellLaw_12 d (nI k) (nI (130 * sd + b)) 0 x2 = some x3 := e3
    have sb : nI (zkr (kd t)) - 22 = nI k := by
      rw [z, kk, show 15 + k + 7 = k + 22 by omega, show nI (k + 22) - 22 = nI (k + 22 - 22) from pk_sub (b := 22) (by omega), show k + 22 - 22 = k by omega]
    have e : R_X12_tellOne d x = some x3 := by
      rw [e, if_neg (show ¬ nI (zkr (kd t)) = 20 from ne 20 (by omega) (by omega)), if_neg (show ¬ nI (zkr (kd t)) = 21 from ne 21 (by omega) (by omega)), if_neg (show ¬ nI (zkr (kd t)) = 26 from ne 26 (by omega) (by omega)), if_neg (show ¬ nI (zkr (kd t)) = 27 from ne 27 (by omega) (by omega)), if_neg (show ¬ nI (zkr (kd t)) = 28 from ne 28 (by omega) (by omega)), n_gd (by omega), sb, if_neg (nI_pos (by omega)), n_gd (by omega), if_pos (show nI (zkr (kd t)) ≤ 25 from nI_le (b := 25) (by omega) (by omega)), s.1, if_pos (show (0 : Int32) ≤ 0 by decide), e1, Option.bind_some, R_X12_tellLaw_eq, e2, Option.bind_some, v2 239 33 (by unfold zF3; omega), X4, e3, Option.bind_some]
    have ba : zFR sd x x3 := zFR_t (zFR_5 (zF3_5 f1)) (zFR_t (zFR_5 (zF3_5 f2)) (zFR_m f3 (fun a i z => zRTe_l hk4 (by omega) z)))
    refine ⟨x3, e, ba, s3, fun t' zz => ?_⟩
    obtain ⟨c', y1, y2, y3, y4, y5, y6, y7, y8⟩ := p3 t' zz
    have lt : ∃ u, zex kd 5 (.inr (t + 1)) = .inr u ∧ u + 4 * ts.length + 2 ≤ t' := by
      rw [(zn_ir zz).1] at g
      exact zLl_len hk 4 _ ts last t' g
    obtain ⟨u, hu, lu⟩ := lt
    obtain ⟨a1, q1, _, g1⟩ := zex_r hu
    have : t + 1 = a1 := Sum.inr.inj q1
    subst this
    have w3' : ∀ a i, ¬ zF3 a i → ¬ zLX sd k (130 * sd + b) a i → mz_rd x3 a i = mz_rd x a i := fun a i p q => (f3.1 a i q).trans (v2 a i p)
    have l3 : ∀ a i, mz_rl x3 a i = mz_rl x a i := fun a i => by unfold mz_rl; rw [f3.2, f2.2, f1.2]
    have n3 : ∀ a i, 240 ≤ a → a ≤ 257 → mz_rd x3 a i = mz_rd x a i := fun a i p q => w3' a i (by unfold zF3; omega) (by unfold zLX zXR; omega)
    have m3 : ∀ i, i = 15 ∨ i = 16 ∨ i = 19 → mz_rd x3 239 i = mz_rd x 239 i := fun i p => w3' 239 i (by unfold zF3; omega) (by unfold zLX zXR; omega)
    refine ⟨⟨(m3 19 (by omega)).trans X1.1, (n3 _ _ (by omega) (by omega)).trans X1.2.1, fun j hj => ⟨(l3 _ _).trans (X1.2.2 j hj).1, (X1.2.2 j hj).2⟩⟩, (n3 _ _ (by omega) (by omega)).trans X2, ⟨(m3 15 (by omega)).trans X3.1, X3.2.1, fun w => (m3 16 (by omega)).trans (X3.2.2 w)⟩, b + ts.length + 1, c' - 420 * sd, ?_, by omega, ?_, by omega, fun z0 => ?_⟩
    · rw [y4]; congr 1; omega
    · rw [y1]; congr 1; omega
    obtain ⟨c1, c2, c3, c4, c5, c6⟩ := X8 z0
    refine ⟨(n3 _ _ (by omega) (by omega)).trans c1, (n3 _ _ (by omega) (by omega)).trans c2, (n3 _ _ (by omega) (by omega)).trans c3, fun j hj => (n3 _ _ (by omega) (by omega)).trans (c4 j hj), fun i hi => ?_, fun j hj => ?_⟩
    · obtain ⟨k1, k2, k3, k4⟩ := c5 i hi
      exact ⟨(n3 _ _ (by omega) (by omega)).trans k1, (n3 _ _ (by omega) (by omega)).trans k2, (n3 _ _ (by omega) (by omega)).trans k3, (n3 _ _ (by omega) (by omega)).trans k4⟩
    · show zRWu sd x3 (420 * sd + (c' - 420 * sd)) (130 * sd + (b + ts.length + 1)) (4 * sd + j) j (if j = k then ts else S.2.2.2.2.2.1 j) (if j = k then last else S.2.2.2.2.2.2.1 j)
      rw [show 420 * sd + (c' - 420 * sd) = c' by omega]
      by_cases cj : j = k
      · subst cj
        rw [if_pos rfl, if_pos rfl]
        exact Or.inr ⟨130 * sd + b, y5, y6, by omega, by omega, y7⟩
      · rw [if_neg cj, if_neg cj]
        refine zRWu_f (c6 j hj) (by omega) (by omega) (w3' _ _ (by unfold zF3; omega) (by unfold zLX zXR; omega)) (w3' _ _ (by unfold zF3; omega) (by unfold zLX zXR; omega)) (fun i hi => ?_) (fun a i p q r => w3' _ _ (by unfold zF3; omega) (by unfold zLX zXR; omega))
        have := y8 i hi
        exact ⟨this.1.trans (v2 _ _ (by unfold zF3; omega)), this.2.trans (v2 _ _ (by unfold zF3; omega))⟩
  · have key : R_X12_tellOne d x = some (mz_wr (mz_wr x 239 13 1) 239 14 (nI (pl t))) := by
      have n1 : zkr (kd t) < 20 ∨ 28 < zkr (kd t) := by
        by_cases c13 : 13 ≤ kd t
        · have := z13 c13; omega
        · have : ∀ q, q < 13 → zkr q < 20 := by decide
          exact Or.inl (this (kd t) (by omega))
      rw [e, if_neg (show ¬ nI (zkr (kd t)) = 20 from ne 20 (by omega) (by omega)), if_neg (show ¬ nI (zkr (kd t)) = 21 from ne 21 (by omega) (by omega)), if_neg (show ¬ nI (zkr (kd t)) = 26 from ne 26 (by omega) (by omega)), if_neg (show ¬ nI (zkr (kd t)) = 27 from ne 27 (by omega) (by omega)), if_neg (show ¬ nI (zkr (kd t)) = 28 from ne 28 (by omega) (by omega)), n_gd (by omega)]
      by_cases c22 : zkr (kd t) < 22
      · rw [if_pos (show nI (zkr (kd t)) - 22 < 0 from pk_sneg (b := 22) (by omega) c22), r_fl tk s.1 s.2.1 tN, Option.bind_some, m_ni (show 13 ≠ 14 by omega), m_eq, if_neg (show ¬ (1 : Int32) ≤ 0 by decide)]
      · have sb : nI (zkr (kd t)) - 22 = nI (zkr (kd t) - 22) := pk_sub (b := 22) (by omega)
        rw [sb, if_neg (nI_pos (by omega)), n_gd (by omega), if_neg (show ¬ nI (zkr (kd t)) ≤ 25 from nI_ge (a := 25) (by omega) (by omega)), r_fl tk s.1 s.2.1 tN, Option.bind_some, m_ni (show 13 ≠ 14 by omega), m_eq, if_neg (show ¬ (1 : Int32) ≤ 0 by decide)]
    exact ⟨_, key, zFR_fail, zRst_fail (f := 1) s (Or.inl rfl) t4, fun t' q => by rw [zn_l (e := (1, t)) t4] at q; exact absurd q (by simp)⟩
end ZRrun2
