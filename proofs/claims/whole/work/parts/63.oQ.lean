/-! two, ask: the reference, the obligations -/
theorem z_m1 {x : Int32} (h1 : ¬ x = -1) (h2 : (-1 : Int32) ≤ x) : ∃ j, j < 2 ^ 31 ∧ x = nI j := by
  refine nI_of (x := x) (fun c => h1 ?_)
  have a1 := Int32.lt_iff_toInt_lt.mp c
  have a2 := Int32.le_iff_toInt_le.mp h2
  have e1 : (0 : Int32).toInt = 0 := by decide
  have e2 : (-1 : Int32).toInt = -1 := by decide
  apply Int32.toInt_inj.mp
  omega
theorem z_mul24 (x : Nat) : (24 : Int32) * nI x = nI (24 * x) := pk_mul 24 x
theorem z_nar0 : vp_nar .boolean 0 = zb false := by decide
def zTwF (k a i : Nat) : Prop := (a = 280 ∧ i = k) ∨ (a = 281 ∧ 24 * k ≤ i ∧ i < 24 * k + 24)
section ZTr
variable {T : ZT} {lv d B u : Nat} {m : MzM} {v : Nat → Nat} {D : ZD}
theorem zRQ_To {m m' : MzM} (f : zFr zRQ m m') : ∀ a i, zToG a i → mz_rd m' a i = mz_rd m a i := fun a i z => f.1 a i (by unfold zRQ; unfold zToG at z; omega)
theorem r_two1 {w : Nat → Nat} {kn k : Nat} {y : Int32} (hk : k < 15) (hw : zRA (tN T) m 271 w) (hD : zDok (tN T) u D m) (h6 : tN T ≤ 6) (hkn : kn ≤ u) (hb : ∀ p t, p < tN T → t < 4 → w (4 * p + t) < 2 ^ 30) {P : Bool} (hP : P = (List.range kn).all fun i => decide ((D i).2.2.1 ≤ w (4 * (D i).1 + (D i).2.1)) == (D i).2.2.2) : ∃ m', H_X12_fillsTwo_33 d (nI kn) y (nI k) 0 m = (match P with
    | true => H_X12_fillsTwo_8 d (nI kn) (y + 1) (nI (k + 1)) m'
    | false => H_X12_fillsTwo_8 d (nI kn) y (nI (k + 1)) m') ∧ zFr (zTwF k) m m' ∧ mz_rd m' 280 k = zb P ∧ ∀ i, i < 4 * tN T → mz_rd m' 281 (24 * k + i) = nI (w i) := by
  have u20 := hD.2.2.1
  have l1 : ∃ m1, H_X12_fillsTwo_33 d (nI kn) y (nI k) (nI 0) m = H_X12_fillsTwo_33 d (nI kn) y (nI k) (nI 24) m1 ∧ zFr (zTwF k) m m1 ∧ ∀ i, i < 24 → mz_rd m1 281 (24 * k + i) = mz_rd m 271 i := by
    have go : ∀ (j i : Nat) (x : MzM), 24 - i = j → i ≤ 24 → zFr (zTwF k) m x → (∀ q, q < i → mz_rd x 281 (24 * k + q) = mz_rd m 271 q) → ∃ m1, H_X12_fillsTwo_33 d (nI kn) y (nI k) (nI i) x = H_X12_fillsTwo_33 d (nI kn) y (nI k) (nI 24) m1 ∧ zFr (zTwF k) m m1 ∧ ∀ i, i < 24 → mz_rd m1 281 (24 * k + i) = mz_rd m 271 i := by
      intro j
      induction j with
      | zero =>
        intro i x q1 q2 F S
        rw [show i = 24 by omega] at S ⊢
        exact ⟨x, rfl, F, S⟩
      | succ j ih =>
        intro i x q1 q2 F S
        rw [H_X12_fillsTwo_33_eq, if_neg (show ¬ (24 : Int32) ≤ nI i from nI_ge (b := 24) (by omega) (by omega)), z_mul24, nI_add, n_ok (show i < 2 ^ 31 by omega), n_gd (show i < 39 by omega), n_ok (show 24 * k + i < 2 ^ 31 by omega), n_gd (show 24 * k + i < 360 by omega), nI_clamp (show i < 2 ^ 31 by omega), nI_clamp (show 24 * k + i < 2 ^ 31 by omega), nI_1]
        refine ih (i + 1) _ (by omega) (by omega) (zFr_w2 F (Or.inr ⟨rfl, by omega, by omega⟩)) (fun q hq => ?_)
        by_cases c : q = i
        · subst c
          rw [m_eq, F.1 271 q (by unfold zTwF; omega)]
        · rw [m_ni (by omega)]
          exact S q (by omega)
    exact go _ 0 m rfl (by omega) zFr_r (fun q hq => by omega)
  obtain ⟨m1, e1, f1, s1⟩ := l1
  have e1' : H_X12_fillsTwo_33 d (nI kn) y (nI k) 0 m = _ := e1
  have f2 : zFr (zTwF k) m (mz_wr m1 280 k (zb true)) := zFr_w2 f1 (Or.inl ⟨rfl, rfl⟩)
  have W : ∀ x, zFr (zTwF k) m x → zRA (tN T) x 271 w := fun x F => zRA_f hw (fun i => F.1 271 i (by unfold zTwF; omega))
  have Dd : ∀ x, zFr (zTwF k) m x → zDok (tN T) u D x := fun x F => zDok_f hD (fun a i z => F.1 a i (by unfold zTwF; unfold zToG at z; omega))
  have l2 : ∃ m2, H_X12_fillsTwo_75 d (nI kn) y (nI k) (nI 0) (mz_wr m1 280 k (zb true)) = H_X12_fillsTwo_75 d (nI kn) y (nI k) (nI kn) m2 ∧ zFr (zTwF k) m m2 ∧ mz_rd m2 280 k = zb P ∧ ∀ i, i < 24 → mz_rd m2 281 (24 * k + i) = mz_rd m 271 i := by
    have go : ∀ (j i : Nat) (x : MzM), kn - i = j → i ≤ kn → zFr (zTwF k) m x → mz_rd x 280 k = zb ((List.range i).all fun i => decide ((D i).2.2.1 ≤ w (4 * (D i).1 + (D i).2.1)) == (D i).2.2.2) → (∀ q, q < 24 → mz_rd x 281 (24 * k + q) = mz_rd m 271 q) → ∃ m2, H_X12_fillsTwo_75 d (nI kn) y (nI k) (nI i) x = H_X12_fillsTwo_75 d (nI kn) y (nI k) (nI kn) m2 ∧ zFr (zTwF k) m m2 ∧ mz_rd m2 280 k = zb P ∧ ∀ i, i < 24 → mz_rd m2 281 (24 * k + i) = mz_rd m 271 i := by
      intro j
      induction j with
      | zero =>
        intro i x q1 q2 F S R
        have : i = kn := by omega
        subst this
        exact ⟨x, rfl, F, by rw [hP]; exact S, R⟩
      | succ j ih =>
        intro i x q1 q2 F S R
        obtain ⟨r1, r2, r3, -, -, -, -, r8, r9, r10⟩ := (Dd x F).2.2.2 i (by omega)
        have hwx := W x F (4 * (D i).1 + (D i).2.1) (by omega) (by omega)
        have hbx := hb _ _ r1 r2
        have uf : ((List.range (i + 1)).all fun i => decide ((D i).2.2.1 ≤ w (4 * (D i).1 + (D i).2.1)) == (D i).2.2.2) = (((List.range i).all fun i => decide ((D i).2.2.1 ≤ w (4 * (D i).1 + (D i).2.1)) == (D i).2.2.2) && (decide ((D i).2.2.1 ≤ w (4 * (D i).1 + (D i).2.1)) == (D i).2.2.2)) := by
          rw [List.range_succ]
          simp
        have okk : ∀ z, (decide ((D i).2.2.1 ≤ w (4 * (D i).1 + (D i).2.1)) == (D i).2.2.2) = true → z = H_X12_fillsTwo_75 d (nI kn) y (nI k) (nI (i + 1)) x → ∃ m2, z = H_X12_fillsTwo_75 d (nI kn) y (nI k) (nI kn) m2 ∧ zFr (zTwF k) m m2 ∧ mz_rd m2 280 k = zb P ∧ ∀ i, i < 24 → mz_rd m2 281 (24 * k + i) = mz_rd m 271 i := by
          intro z g1 g2
          rw [g2]
          exact ih (i + 1) x (by omega) (by omega) F (by rw [uf, g1, Bool.and_true]; exact S) R
        have bad : ∀ z, (decide ((D i).2.2.1 ≤ w (4 * (D i).1 + (D i).2.1)) == (D i).2.2.2) = false → z = H_X12_fillsTwo_75 d (nI kn) y (nI k) (nI (i + 1)) (mz_wr x 280 k (zb false)) → ∃ m2, z = H_X12_fillsTwo_75 d (nI kn) y (nI k) (nI kn) m2 ∧ zFr (zTwF k) m m2 ∧ mz_rd m2 280 k = zb P ∧ ∀ i, i < 24 → mz_rd m2 281 (24 * k + i) = mz_rd m 271 i := by
          intro z g1 g2
          rw [g2]
          exact ih (i + 1) _ (by omega) (by omega) (zFr_w2 F (Or.inl ⟨rfl, rfl⟩)) (by rw [uf, g1, Bool.and_false, m_eq]) (fun q hq => by rw [m_ne (by omega)]; exact R q hq)
        rw [H_X12_fillsTwo_75_eq, if_neg (nI_ge (by omega) (by omega)), n_ok (show i < 2 ^ 31 by omega), n_gd (show i < 20 by omega), nI_clamp (show i < 2 ^ 31 by omega), r8, r9, r10, n_ok (show 4 * (D i).1 + (D i).2.1 < 2 ^ 31 by omega), n_gd (show 4 * (D i).1 + (D i).2.1 < 39 by omega), nI_clamp (show 4 * (D i).1 + (D i).2.1 < 2 ^ 31 by omega), hwx, n_gd (show i < 20 by omega), n_gd (show i < 20 by omega), n_gd (show i < 20 by omega), n_ok (show k < 2 ^ 31 by omega), n_gd (show k < 15 by omega), nI_clamp (show k < 2 ^ 31 by omega), nI_1, z_nar0]
        by_cases c : w (4 * (D i).1 + (D i).2.1) < (D i).2.2.1
        · rw [if_pos (nI_lt c (by omega))]
          cases hso : (D i).2.2.2 with
          | false =>
            rw [if_pos (show (0 : Int32) = zb false from rfl)]
            exact okk _ (by rw [hso, decide_eq_false (by omega)]; rfl) rfl
          | true =>
            rw [if_neg (show ¬ (0 : Int32) = zb true by decide)]
            exact bad _ (by rw [hso, decide_eq_false (by omega)]; rfl) rfl
        · rw [if_neg (nI_nlt (by omega) (by omega))]
          cases hso : (D i).2.2.2 with
          | true =>
            rw [if_pos (show (1 : Int32) = zb true from rfl)]
            exact okk _ (by rw [hso, decide_eq_true (by omega)]; rfl) rfl
          | false =>
            rw [if_neg (show ¬ (1 : Int32) = zb false by decide)]
            exact bad _ (by rw [hso, decide_eq_true (by omega)]; rfl) rfl
    exact go _ 0 _ rfl (by omega) f2 m_eq (fun q hq => by rw [m_ne (by omega)]; exact s1 q hq)
  obtain ⟨m2, e2, f3, p2, s2⟩ := l2
  have e2' : H_X12_fillsTwo_75 d (nI kn) y (nI k) 0 (mz_wr m1 280 k (zb true)) = _ := e2
  refine ⟨m2, ?_, f3, p2, fun i hi => (s2 i (by omega)).trans (hw i (by omega) (by omega))⟩
  rw [e1', H_X12_fillsTwo_33_eq, if_pos (show (24 : Int32) ≤ nI 24 by decide), n_ok (by omega), n_gd hk, nI_clamp (by omega), z_nar1, e2', H_X12_fillsTwo_75_eq, if_pos (nI_le (Nat.le_refl _) (by omega)), n_ok (by omega), n_gd hk, nI_clamp (by omega), p2, nI_1]
  cases P with
  | true => rw [zb_t0]
  | false => rw [zb_f0]
theorem r_fillsTwo (h2 : zTR T lv m) (h4 : zRA (tN T) m 270 v) (hB : zB (tN T) B v) (hD : zDok (tN T) u D m) {kn : Nat} (hk : kn ≤ u) : ∃ m', R_X12_fillsTwo d (nI kn) m = some (nI (zcn (zPk T v D kn) (zprs (tN T)).length), m') ∧ zFr zRQ m m' ∧ zPF (tN T) m' ∧ (∀ k, k < (zprs (tN T)).length → mz_rd m' 280 k = zb (zPk T v D kn k)) ∧ (∀ k a b i, (zprs (tN T))[k]? = some (a, b) → i < 4 * tN T → mz_rd m' 281 (24 * k + i) = nI (zturn T v a b i)) := by
  have h6 := h2.1.1
  have l15 := zprs_len h6
  have hB2 := hB.2.2.2
  obtain ⟨m1, e1, f1, p1⟩ := r_pairs (d := d) h2
  have f1 := zFP_Q f1
  rw [R_X12_fillsTwo_eq, e1, Option.bind_some]
  have key := zlp (fun k (x : Nat × MzM) => H_X12_fillsTwo_8 d (nI kn) (nI x.1) (nI k) x.2) (fun r => r.1 = nI (zcn (zPk T v D kn) (zprs (tN T)).length) ∧ zFr zRQ m r.2 ∧ zPF (tN T) r.2 ∧ (∀ k, k < (zprs (tN T)).length → mz_rd r.2 280 k = zb (zPk T v D kn k)) ∧ (∀ k a b i, (zprs (tN T))[k]? = some (a, b) → i < 4 * tN T → mz_rd r.2 281 (24 * k + i) = nI (zturn T v a b i))) (fun k x => x.1 = zcn (zPk T v D kn) k ∧ zFr zRQ m x.2 ∧ zPF (tN T) x.2 ∧ (∀ j, j < k → mz_rd x.2 280 j = zb (zPk T v D kn j)) ∧ (∀ j a b i, j < k → (zprs (tN T))[j]? = some (a, b) → i < 4 * tN T → mz_rd x.2 281 (24 * j + i) = nI (zturn T v a b i))) (zprs (tN T)).length ?_ ?_ 0 (0, m1) (Nat.zero_le _) ⟨rfl, f1, p1, fun j hj => by omega, fun j a b i hj => by omega⟩
  · obtain ⟨⟨r1, r2⟩, e, rfl, q⟩ := key
    exact ⟨r2, e, q⟩
  · rintro k ⟨y, x⟩ hkk ⟨rfl, F, P, S, R⟩
    left
    rcases hq : (zprs (tN T))[k] with ⟨a, b⟩
    have hk2 : (zprs (tN T))[k]? = some (a, b) := by rw [List.getElem?_eq_getElem hkk, hq]
    obtain ⟨hab, hbn⟩ := zprs_in h6 hk2
    have ha : a < tN T := by omega
    obtain ⟨q1, q2⟩ := z_ten (a := a) (b := b) (by omega) (by omega)
    have Tx := zTR_Q h2 F
    obtain ⟨m4, e4, f4, g4, -, -⟩ := r_copies (d := d) Tx (zRA_Q h4 F)
    have T4 := zTR_C Tx f4
    have P4 : zPF (tN T) m4 := zPF_f P (fun a i z => f4.1 a i (by unfold zRC; unfold zFP at z; omega))
    obtain ⟨m5, e5, f5, g5⟩ := r_turn (d := d) T4 g4 hB ha hbn (by omega)
    have P5 : zPF (tN T) m5 := zPF_f P4 (fun a i z => f5.1 a i (by unfold zRT; unfold zFP at z; omega))
    have F5 := zFr_t F (zFr_t (zRC_Q f4) (zR_Q f5))
    have tB := zturn_B (T := T) hB h6 ha hbn (show a ≠ b by omega)
    obtain ⟨m6, e6, f6, s6, r6⟩ := r_two1 (d := d) (T := T) (w := zturn T v a b) (kn := kn) (k := k) (y := nI (zcn (zPk T v D kn) k)) (by omega) g5 (zDok_f hD (zRQ_To F5)) h6 hk (fun p t hp ht => by have := zB_a tB hp ht; omega) (P := zft T v D kn a b) rfl
    have F6 : zFr zRQ m m6 := zFr_t F5 (zFr_m f6 (fun a i z => by unfold zTwF at z; unfold zRQ; omega))
    have P6 : zPF (tN T) m6 := zPF_f P5 (fun a i z => f6.1 a i (by unfold zTwF; unfold zFP at z; omega))
    have X : ∀ a i, (a = 280 ∨ a = 281) → ¬ zTwF k a i → mz_rd m6 a i = mz_rd x a i := fun a i z n => by
      rw [f6.1 a i n, f5.1 a i (by unfold zRT; omega), f4.1 a i (by unfold zRC; omega)]
    have uf : zcn (zPk T v D kn) (k + 1) = if zPk T v D kn k = true then zcn (zPk T v D kn) k + 1 else zcn (zPk T v D kn) k := rfl
    have pe := zPk_e (v := v) (D := D) (kn := kn) hk2
    refine ⟨(zcn (zPk T v D kn) (k + 1), m6), ⟨rfl, F6, P6, fun j hj => ?_, fun j c e i hj hje hi => ?_⟩, ?_⟩
    · by_cases c : j = k
      · subst c; rw [pe]; exact s6
      · show mz_rd m6 280 j = _
        rw [X 280 j (Or.inl rfl) (by unfold zTwF; omega)]
        exact S j (by omega)
    · by_cases q : j = k
      · subst q
        rw [hk2] at hje
        cases hje
        exact r6 i hi
      · show mz_rd m6 281 (24 * j + i) = _
        rw [X 281 _ (Or.inr rfl) (by unfold zTwF; omega)]
        exact R j c e i (by omega) hje hi
    · show H_X12_fillsTwo_8 d (nI kn) (nI (zcn (zPk T v D kn) k)) (nI k) x = H_X12_fillsTwo_8 d (nI kn) (nI (zcn (zPk T v D kn) (k + 1))) (nI (k + 1)) m6
      rw [H_X12_fillsTwo_8_eq, P.1, if_neg (nI_ge hkk (by omega)), e4, Option.bind_some, n_ok (by omega), n_gd (by omega), nI_clamp (by omega), P4.2 k a b hk2, R_X12_turnsPair_eq, q2, q1, e5, Option.bind_some, Option.bind_some, e6, uf, pe, nI_1]
      cases zft T v D kn a b with
      | true => rfl
      | false => rfl
  · rintro ⟨y, x⟩ ⟨rfl, F, P, S, R⟩
    show ∃ r, H_X12_fillsTwo_8 d (nI kn) _ (nI (zprs (tN T)).length) x = some r ∧ _
    rw [H_X12_fillsTwo_8_eq, P.1, if_pos (nI_le (Nat.le_refl _) (by omega))]
    exact ⟨_, rfl, rfl, F, P, S, fun k a b i e hi => R k a b i (zget_lt e) e hi⟩
end ZTr
theorem o_two : mz_o_two zI := by
  intro n m a0 a1 hn hI
  obtain ⟨T, lv, v, h⟩ := id hI
  obtain ⟨h1, h2, h3, h4, h5, -, -, -, -, h10, -⟩ := h
  have h6 := h1.1.1
  have l15 := zprs_len h6
  obtain ⟨u, D, hD⟩ := zDok_of h10
  have u20 := hD.2.2.1
  have x1 := R_X11_two_eq 8 a0 a1 m
  have x2 := fun mm => R_X12_two_eq 8 a0 a1 mm
  rw [hD.1] at x1
  have r0 : ∀ mm, mz_rd mm 239 62 = nI u → R_X12_in 8 a0 0 (mz_rd mm 239 62) mm = some (zb (zIsP (u + 1) a0), mm) := fun mm e => by rw [e]; exact r_in (n := u + 1) (by omega) (by rw [nI_pred])
  cases c : zIsP (u + 1) a0 with
  | false =>
    have x3 := x2 m
    rw [r0 m hD.2.1, c, Option.bind_some] at x3
    have x4 : R_X11_two 8 a0 a1 m = some (-1, m) := by
      rw [x1]
      rcases pk_ix a0 (n := u + 1) (by omega) with k | k | ⟨j, hj, rfl⟩
      · rw [if_pos k]
      · rw [if_neg (Int32.not_lt.mpr (Int32.le_trans (nI_pos' (by omega)) k)), if_pos (Int32.lt_of_lt_of_le (nI_lt (show u < u + 1 by omega) (by omega)) k)]
      · rw [zIsP_n (by omega) hj] at c; cases c
    exact ⟨_, _, _, x4, x3, zI_q hn hI zFr_r zFr_r⟩
  | true =>
    obtain ⟨kn, hkn, rfl⟩ := zIsP_t c (by omega)
    rw [if_neg (nI_pos (by omega)), if_neg (nI_nlt (by omega) (by omega))] at x1
    by_cases c1 : (-1 : Int32) ≤ a1
    · obtain ⟨m1, e1, f1⟩ := c_left (d := 8) h1 h3 h5 hD (show kn ≤ u by omega)
      have ml := zmk_lt (zPk T v D kn) (zprs (tN T)).length
      have p15 : 2 ^ (zprs (tN T)).length ≤ 2 ^ 15 := Nat.pow_le_pow_right (by omega) l15
      rw [if_pos c1, e1, Option.bind_some] at x1
      dsimp only at x1
      have F1 := zE_Q f1
      have D1 := zDok_f hD (zE_To f1)
      obtain ⟨m2, e2, f2, p2, s2, -⟩ := r_fillsTwo (d := 8) (zTR_q h2 F1) (zRA_q h4 F1) h5 D1 (show kn ≤ u by omega)
      have x3 := x2 m1
      rw [r0 m1 D1.2.1, c, Option.bind_some] at x3
      dsimp only at x3
      rw [zb_t0, if_pos c1, e2, Option.bind_some] at x3
      dsimp only at x3
      have cl := zcn_le (zPk T v D kn) (zprs (tN T)).length
      by_cases cm : a1 = -1
      · rw [if_neg (fun z => z cm), c_bc15 (by omega), Option.bind_some, zpopN_mk _ l15] at x1
        rw [if_neg (fun z => z cm)] at x3
        exact ⟨_, _, _, x1, x3, zI_q hn hI F1 f2⟩
      · obtain ⟨j, hj, rfl⟩ := z_m1 cm c1
        rw [if_pos cm, c_pairOf (zTC_E h1 f1) hj, Option.bind_some] at x1
        rw [if_pos cm] at x3
        by_cases cj : j < zcn (zPk T v D kn) (zprs (tN T)).length
        · rw [if_pos (nI_lt cj (by omega))] at x3
          obtain ⟨k0, hk0, hk1⟩ := zith_some cj
          have lp : ∃ r, H_X12_two_45 8 (nI j) (nI 0) (nI 0) m2 = some r ∧ r = (zithI (tN T) (zith (zPk T v D kn) (zprs (tN T)).length j), m2) := by
            have pk := List.find?_some hk0
            simp only [Bool.and_eq_true, decide_eq_true_eq] at pk
            refine zlp (fun k (y : Nat) => H_X12_two_45 8 (nI j) (nI y) (nI k) m2) (fun r => r = (zithI (tN T) (zith (zPk T v D kn) (zprs (tN T)).length j), m2)) (fun k y => y = zcn (zPk T v D kn) k) k0 ?_ ?_ 0 0 (Nat.zero_le _) rfl
            · rintro k y hk rfl
              left
              have cc := zcn_le (zPk T v D kn) k
              have mono := zcn_mono (zPk T v D kn) (j := k + 1) k0 (by omega)
              have uf : zcn (zPk T v D kn) (k + 1) = if zPk T v D kn k = true then zcn (zPk T v D kn) k + 1 else zcn (zPk T v D kn) k := rfl
              refine ⟨_, rfl, ?_⟩
              show H_X12_two_45 8 (nI j) (nI (zcn (zPk T v D kn) k)) (nI k) m2 = H_X12_two_45 8 (nI j) (nI (zcn (zPk T v D kn) (k + 1))) (nI (k + 1)) m2
              rw [H_X12_two_45_eq, n_ok (by omega), n_gd (by omega), nI_clamp (by omega), s2 k (by omega), n_gd (by omega), n_gd (by omega), nI_1, nI_1, uf]
              cases hp : zPk T v D kn k with
              | false => rw [zb_f0, zb_f0, if_neg (show ¬ (false = true) by decide)]
              | true =>
                rw [hp, if_pos rfl] at uf
                rw [zb_t0, if_neg (nI_ge (by omega) (by omega)), zb_t0, if_pos rfl]
            · rintro y rfl
              show ∃ r, H_X12_two_45 8 (nI j) (nI (zcn (zPk T v D kn) k0)) (nI k0) m2 = some r ∧ _
              obtain ⟨a, b⟩ := (zprs (tN T))[k0]
              rw [H_X12_two_45_eq, n_ok (by omega), n_gd (by omega), nI_clamp (by omega), s2 k0 hk1, n_gd (by omega), n_gd (by omega), pk.1, pk.2, zb_t0, if_pos (nI_le (Nat.le_refl _) (by omega)), hk0]
              rcases hq : (zprs (tN T))[k0] with ⟨c, e⟩
              have hk2 : (zprs (tN T))[k0]? = some (c, e) := by rw [List.getElem?_eq_getElem hk1, hq]
              rw [p2.2 k0 c e hk2, ← zpc_e hk2]
              exact ⟨_, rfl, rfl⟩
          obtain ⟨r, e4, rfl⟩ := lp
          have e4' : H_X12_two_45 8 (nI j) 0 0 m2 = _ := e4
          rw [e4'] at x3
          exact ⟨_, _, _, x1, x3, zI_q hn hI F1 f2⟩
        · rw [if_neg (nI_nlt (by omega) hj)] at x3
          rw [zith_none (by omega)] at x1
          exact ⟨_, _, _, x1, x3, zI_q hn hI F1 f2⟩
    · rw [if_neg c1] at x1
      have x3 := x2 m
      rw [r0 m hD.2.1, c, Option.bind_some] at x3
      dsimp only at x3
      rw [zb_t0, if_neg c1] at x3
      exact ⟨_, _, _, x1, x3, zI_q hn hI zFr_r zFr_r⟩
