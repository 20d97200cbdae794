/-! obligation: ask -/
/-- has the k-th pair x or more at i then -/
def zAk (T : ZT) (v : Nat → Nat) (x i k : Nat) : Bool := match (zprs (tN T))[k]? with
  | some (a, b) => decide (x ≤ zturn T v a b i)
  | none => false
theorem zAk_e {T : ZT} {v : Nat → Nat} {x i k a b : Nat} (h : (zprs (tN T))[k]? = some (a, b)) : zAk T v x i k = decide (x ≤ zturn T v a b i) := by unfold zAk; rw [h]
theorem zcn_and (P Q : Nat → Bool) : ∀ k, zcn (fun k => P k && Q k) k ≤ zcn P k := by
  intro k
  induction k with
  | zero => exact Nat.le_refl _
  | succ k ih =>
    show (if (P k && Q k) = true then zcn (fun k => P k && Q k) k + 1 else zcn (fun k => P k && Q k) k) ≤ (if P k = true then zcn P k + 1 else zcn P k)
    cases P k with
    | false => exact ih
    | true =>
      rw [if_pos rfl]
      split <;> omega
def zwo (many so : Nat) : Nat := if so < many - so then many - so else so
theorem zmk_cn (P : Nat → Bool) (n : Nat) : zmk P n = 0 ↔ zcn P n = 0 := by
  rw [zmk_0]
  constructor
  · intro h
    have : ∀ k, k ≤ n → zcn P k = 0 := by
      intro k
      induction k with
      | zero => intro _; rfl
      | succ k ih =>
        intro hk
        show (if P k = true then zcn P k + 1 else zcn P k) = 0
        rw [h k (by omega), if_neg (by decide), ih (by omega)]
    exact this n (Nat.le_refl _)
  · intro h b hb
    cases hp : P b with
    | false => rfl
    | true =>
      have e : zcn P (b + 1) = zcn P b + 1 := by
        show (if P b = true then zcn P b + 1 else zcn P b) = _
        rw [if_pos hp]
      have := zcn_mono P (j := b + 1) n (by omega)
      omega
section ZAs
variable {T : ZT} {lv d B : Nat} {m : MzM} {v : Nat → Nat} {P : Nat → Bool}
theorem c_with (h1 : zTC T m) (h3 : zSC (tN T) m 29 v) (hB : zB (tN T) B v) {p t x : Nat} (hp : p < tN T) (ht : t < 4) (hx : x < 2 ^ 30) : ∃ m', R_X10_pairsWithSo d 29 (nI (zmk P (zprs (tN T)).length)) (nI p) (nI t) (nI x) m = some (nI (zcn (fun k => P k && zAk T v x (4 * p + t) k) (zprs (tN T)).length), m') ∧ zFr zE m m' := by
  have h6 := h1.1.1
  have hB2 := hB.2.2.2
  have l15 := zprs_len h6
  have ml := zmk_lt P (zprs (tN T)).length
  have p15 : 2 ^ (zprs (tN T)).length ≤ 2 ^ 15 := Nat.pow_le_pow_right (by omega) l15
  rw [R_X10_pairsWithSo_eq d 29 _ _ _ _ m z_s29]
  have key := zlpP (tN T) h6 (fun a (y : Nat × Nat × MzM) => H_X10_pairsWithSo_9 d 29 (nI (zmk P (zprs (tN T)).length)) (nI p) (nI t) (nI x) (nI y.1) (nI y.2.1) (nI a) y.2.2) (fun a b (y : Nat × Nat × MzM) => H_X10_pairsWithSo_27 d 29 (nI (zmk P (zprs (tN T)).length)) (nI p) (nI t) (nI x) (nI y.1) (nI y.2.1) (nI a) (nI b) y.2.2) (fun r => r.1 = nI (zcn (fun k => P k && zAk T v x (4 * p + t) k) (zprs (tN T)).length) ∧ zFr zE m r.2) (fun k y => y.1 = zcn (fun k => P k && zAk T v x (4 * p + t) k) k ∧ y.2.1 = k ∧ zFr zE m y.2.2) ?_ ?_ ?_ ?_ (0, 0, m) ⟨rfl, rfl, zFr_r⟩
  · obtain ⟨⟨r1, r2⟩, e, rfl, f⟩ := key
    exact ⟨r2, e, f⟩
  · rintro a k ⟨y, z, w⟩ ha ⟨-, -, F⟩
    show H_X10_pairsWithSo_9 d 29 _ (nI p) (nI t) (nI x) (nI y) (nI z) (nI a) w = H_X10_pairsWithSo_27 d 29 _ (nI p) (nI t) (nI x) (nI y) (nI z) (nI a) (nI (a + 1)) w
    rw [H_X10_pairsWithSo_9_eq d 29 _ _ _ _ _ _ _ w z_s29, (zTC_E h1 F).2.1, if_neg (nI_ge ha (by omega)), nI_1]
  · rintro a k ⟨y, z, w⟩ ha ⟨-, -, F⟩
    show H_X10_pairsWithSo_27 d 29 _ (nI p) (nI t) (nI x) (nI y) (nI z) (nI a) (nI (tN T)) w = H_X10_pairsWithSo_9 d 29 _ (nI p) (nI t) (nI x) (nI y) (nI z) (nI (a + 1)) w
    rw [H_X10_pairsWithSo_27_eq d 29 _ _ _ _ _ _ _ _ w z_s29, (zTC_E h1 F).2.1, if_pos (nI_le (Nat.le_refl _) (by omega)), nI_1]
  · rintro a b k ⟨y, z, w⟩ hab hbn hq ⟨y1, y2, F⟩
    left
    have y2 : z = k := y2
    subst y2
    have y1 : y = _ := y1
    subst y1
    have k15 := zget_lt hq
    have ha : a < tN T := by omega
    have bit : (zmk P (zprs (tN T)).length).testBit z = P z := by rw [zmk_bit, decide_eq_true k15, Bool.true_and]
    obtain ⟨m1, e1, f1⟩ := c_ab (d := d) (zTC_E h1 F) (zSC_E h3 z_s29 F) hB ha hbn (show a ≠ b by omega) hp ht
    have tb := zB_a (zturn_B (T := T) hB h6 ha hbn (show a ≠ b by omega)) hp ht
    have ae := zAk_e (v := v) (x := x) (i := 4 * p + t) hq
    have uf : zcn (fun k => P k && zAk T v x (4 * p + t) k) (z + 1) = if (P z && zAk T v x (4 * p + t) z) = true then zcn (fun k => P k && zAk T v x (4 * p + t) k) z + 1 else zcn (fun k => P k && zAk T v x (4 * p + t) k) z := rfl
    show ∃ q : Nat × Nat × MzM, (q.1 = zcn (fun k => P k && zAk T v x (4 * p + t) k) (z + 1) ∧ q.2.1 = z + 1 ∧ zFr zE m q.2.2) ∧ H_X10_pairsWithSo_27 d 29 (nI (zmk P (zprs (tN T)).length)) (nI p) (nI t) (nI x) (nI (zcn (fun k => P k && zAk T v x (4 * p + t) k) z)) (nI z) (nI a) (nI b) w = H_X10_pairsWithSo_27 d 29 (nI (zmk P (zprs (tN T)).length)) (nI p) (nI t) (nI x) (nI q.1) (nI q.2.1) (nI a) (nI (b + 1)) q.2.2
    rw [H_X10_pairsWithSo_27_eq d 29 _ _ _ _ _ _ _ _ w z_s29, (zTC_E h1 F).2.1, if_neg (nI_ge hbn (by omega)), z_bit (by omega) (by omega), bit, e1, Option.bind_some, nI_1, nI_1, nI_1, uf, ae]
    dsimp only
    cases hp2 : P z with
    | false =>
      rw [zb_f0]
      exact ⟨(_, _, w), ⟨rfl, rfl, F⟩, rfl⟩
    | true =>
      rw [zb_t0, Bool.true_and]
      by_cases c : zturn T v a b (4 * p + t) < x
      · rw [if_pos (nI_lt c (by omega)), decide_eq_false (by omega)]
        exact ⟨(_, _, m1), ⟨rfl, rfl, zFr_t F f1⟩, rfl⟩
      · rw [if_neg (nI_nlt (by omega) (by omega)), decide_eq_true (by omega)]
        exact ⟨(_, _, m1), ⟨rfl, rfl, zFr_t F f1⟩, rfl⟩
  · rintro ⟨y, z, w⟩ ⟨rfl, rfl, F⟩
    show ∃ r, H_X10_pairsWithSo_9 d 29 _ (nI p) (nI t) (nI x) _ _ (nI (tN T)) w = some r ∧ _
    rw [H_X10_pairsWithSo_9_eq d 29 _ _ _ _ _ _ _ w z_s29, (zTC_E h1 F).2.1, if_pos (nI_le (Nat.le_refl _) (by omega))]
    exact ⟨_, rfl, rfl, F⟩
end ZAs
def zac (j : Nat) : Nat := 10 * (j / 4) + j % 4
def zaf (T : ZT) (v : Nat → Nat) (P : Nat → Bool) (x j : Nat) : Nat := zwo (zcn P (zprs (tN T)).length) (zcn (fun k => P k && zAk T v x j k) (zprs (tN T)).length)
theorem zaf_b (T : ZT) (v : Nat → Nat) (P : Nat → Bool) (x j : Nat) (h6 : tN T ≤ 6) : zaf T v P x j ≤ 15 := by
  have l15 := zprs_len h6
  have h1 := zcn_le P (zprs (tN T)).length
  have h2 := zcn_and P (zAk T v x j) (zprs (tN T)).length
  unfold zaf zwo
  split <;> omega
theorem o_ask : mz_o_ask zI := by
  intro n m a0 a1 hn hI
  obtain ⟨T, lv, v, h⟩ := id hI
  obtain ⟨h1, h2, h3, h4, h5, -, -, -, -, h10, -⟩ := h
  have h6 := h1.1.1
  have l15 := zprs_len h6
  have hB2 := h5.2.2.2
  obtain ⟨u, D, hD⟩ := zDok_of h10
  have u20 := hD.2.2.1
  have x1 := R_X11_ask_eq 8 a0 a1 m
  have x2 := fun mm => R_X12_ask_eq 8 a0 a1 mm
  rw [hD.1] at x1
  have r0 : ∀ mm, mz_rd mm 239 62 = nI u → R_X12_in 8 a0 0 (mz_rd mm 239 62) mm = some (zb (zIsP (u + 1) a0), mm) := fun mm e => by rw [e]; exact r_in (n := u + 1) (by omega) (by rw [nI_pred])
  cases c : zIsP (u + 1) a0 with
  | false =>
    have x3 := x2 m
    rw [r0 m hD.2.1, c, Option.bind_some] at x3
    have x4 : R_X11_ask 8 a0 a1 m = some (-1, m) := by
      rw [x1]
      rcases pk_ix a0 (n := u + 1) (by omega) with k | k | ⟨j, hj, rfl⟩
      · rw [if_pos k]
      · rw [if_neg (Int32.not_lt.mpr (Int32.le_trans (nI_pos' (by omega)) k)), if_pos (Int32.lt_of_lt_of_le (nI_lt (show u < u + 1 by omega) (by omega)) k)]
      · rw [zIsP_n (by omega) hj] at c; cases c
    exact ⟨_, _, _, x4, x3, zI_q hn hI zFr_r zFr_r⟩
  | true =>
    obtain ⟨kn, hkn, rfl⟩ := zIsP_t c (by omega)
    rw [if_neg (nI_pos (by omega)), if_neg (nI_nlt (by omega) (by omega)), c_isA, Option.bind_some] at x1
    dsimp only at x1
    cases c9 : zIsP 1000 a1 with
    | false =>
      rw [c9, zb_f1] at x1
      have x3 := x2 m
      rw [r0 m hD.2.1, c, Option.bind_some] at x3
      dsimp only at x3
      rw [zb_t0, r_in (n := 1000) (by omega) (by decide), c9, Option.bind_some] at x3
      exact ⟨_, _, _, x1, x3, zI_q hn hI zFr_r zFr_r⟩
    | true =>
      obtain ⟨x, hx, rfl⟩ := zIsP_t c9 (by omega)
      obtain ⟨m1, e1, f1⟩ := c_left (d := 8) h1 h3 h5 hD (show kn ≤ u by omega)
      have ml := zmk_lt (zPk T v D kn) (zprs (tN T)).length
      have p15 : 2 ^ (zprs (tN T)).length ≤ 2 ^ 15 := Nat.pow_le_pow_right (by omega) l15
      have cl := zcn_le (zPk T v D kn) (zprs (tN T)).length
      rw [c9, zb_t1, e1, Option.bind_some] at x1
      dsimp only at x1
      have b1 : ∀ k j, j < k + 1 → k < 4 * tN T → zac j ≤ 2 ^ 30 := fun k j _ _ => by unfold zac; omega
      have b2 : ∀ k j, j < k + 1 → zaf T v (zPk T v D kn) x j ≤ 2 ^ 30 := fun k j _ => by have := zaf_b T v (zPk T v D kn) x j h6; omega
      have ref : ∀ mm, zFr zE m mm → ∃ m2, R_X12_ask 8 (nI kn) (nI x) mm = some (if zmk (zPk T v D kn) (zprs (tN T)).length = 0 then -2 else zo1 (zarg zltB zac (zaf T v (zPk T v D kn) x) (4 * tN T)), m2) ∧ zFr zRQ mm m2 := by
        intro mm fm
        have F1 := zE_Q fm
        have D1 := zDok_f hD (zE_To fm)
        obtain ⟨m2, e2, f2, p2, s2, w2⟩ := r_fillsTwo (d := 8) (zTR_q h2 F1) (zRA_q h4 F1) h5 D1 (show kn ≤ u by omega)
        have t2 := zTR_Q (zTR_q h2 F1) f2
        obtain ⟨-, l2, l3, l4, -⟩ := id t2
        refine ⟨m2, ?_, f2⟩
        rw [x2 mm, r0 mm D1.2.1, c, Option.bind_some]
        dsimp only
        rw [zb_t0, r_in (n := 1000) (by omega) (by decide), c9, Option.bind_some]
        dsimp only
        rw [zb_t1, e2, Option.bind_some]
        dsimp only
        by_cases z0 : zcn (zPk T v D kn) (zprs (tN T)).length = 0
        · rw [if_pos ((zmk_cn _ _).mpr z0), H_X12_ask_41_eq, l3, n_ok (by omega), n_gd l2, nI_clamp (by omega), l4, z_mul4, z0]
          by_cases q : nI (4 * tN T) ≤ 0
          · rw [if_pos q]
          · rw [if_neg q, if_pos (by decide)]
        · rw [if_neg (fun z => z0 ((zmk_cn _ _).mp z))]
          have inner : ∀ j (y4 y5 : Int32), j < 4 * tN T → H_X12_ask_67 8 (nI x) (nI (zcn (zPk T v D kn) (zprs (tN T)).length)) y4 y5 (nI j) (nI 0) (nI 0) m2 = (if y4 < 0 then H_X12_ask_41 8 (nI x) (nI (zcn (zPk T v D kn) (zprs (tN T)).length)) (nI (zac j)) (nI (zaf T v (zPk T v D kn) x j)) (nI (j + 1)) m2 else (if nI (zaf T v (zPk T v D kn) x j) < y5 then H_X12_ask_41 8 (nI x) (nI (zcn (zPk T v D kn) (zprs (tN T)).length)) (nI (zac j)) (nI (zaf T v (zPk T v D kn) x j)) (nI (j + 1)) m2 else H_X12_ask_41 8 (nI x) (nI (zcn (zPk T v D kn) (zprs (tN T)).length)) y4 y5 (nI (j + 1)) m2)) := by
            intro j y4 y5 hj
            have go : ∀ (i k : Nat), (zprs (tN T)).length - k = i → k ≤ (zprs (tN T)).length → H_X12_ask_67 8 (nI x) (nI (zcn (zPk T v D kn) (zprs (tN T)).length)) y4 y5 (nI j) (nI (zcn (fun k => zPk T v D kn k && zAk T v x j k) k)) (nI k) m2 = H_X12_ask_67 8 (nI x) (nI (zcn (zPk T v D kn) (zprs (tN T)).length)) y4 y5 (nI j) (nI (zcn (fun k => zPk T v D kn k && zAk T v x j k) (zprs (tN T)).length)) (nI (zprs (tN T)).length) m2 := by
              intro i
              induction i with
              | zero =>
                intro k q1 q2
                rw [show k = (zprs (tN T)).length by omega]
              | succ i ih =>
                intro k q1 q2
                have hkl : k < (zprs (tN T)).length := by omega
                rcases hq : (zprs (tN T))[k] with ⟨a, b⟩
                have hk2 : (zprs (tN T))[k]? = some (a, b) := by rw [List.getElem?_eq_getElem hkl, hq]
                obtain ⟨hab, hbn⟩ := zprs_in h6 hk2
                have ae := zAk_e (v := v) (x := x) (i := j) hk2
                have tb : zturn T v a b j ≤ zBn n := by
                  have := zB_a (zturn_B (T := T) h5 h6 (show a < tN T by omega) hbn (show a ≠ b by omega)) (p := j / 4) (t := j % 4) (by omega) (by omega)
                  rw [Nat.div_add_mod] at this
                  exact this
                have uf : zcn (fun k => zPk T v D kn k && zAk T v x j k) (k + 1) = if (zPk T v D kn k && zAk T v x j k) = true then zcn (fun k => zPk T v D kn k && zAk T v x j k) k + 1 else zcn (fun k => zPk T v D kn k && zAk T v x j k) k := rfl
                rw [← ih (k + 1) (by omega) (by omega), uf, ae, H_X12_ask_67_eq, p2.1, if_neg (nI_ge hkl (by omega)), n_ok (show k < 2 ^ 31 by omega), n_gd (show k < 15 by omega), nI_clamp (show k < 2 ^ 31 by omega), s2 k hkl, z_mul24, nI_add, n_ok (show 24 * k + j < 2 ^ 31 by omega), n_gd (show 24 * k + j < 360 by omega), nI_clamp (show 24 * k + j < 2 ^ 31 by omega), w2 k a b j hk2 hj, nI_1, nI_1]
                cases hp2 : zPk T v D kn k with
                | false => rw [zb_f0]; rfl
                | true =>
                  rw [zb_t0, Bool.true_and]
                  by_cases cc : zturn T v a b j < x
                  · rw [if_pos (nI_lt cc (by omega)), decide_eq_false (by omega)]; rfl
                  · rw [if_neg (nI_nlt (by omega) (by omega)), decide_eq_true (by omega)]; rfl
            have g0 := go _ 0 rfl (by omega)
            have g0' : H_X12_ask_67 8 (nI x) (nI (zcn (zPk T v D kn) (zprs (tN T)).length)) y4 y5 (nI j) (nI 0) (nI 0) m2 = _ := g0
            have so := zcn_and (zPk T v D kn) (zAk T v x j) (zprs (tN T)).length
            have e4 : ((10 : Int32) * (nI j / 4)) + (nI j - nI j / 4 * 4) = nI (zac j) := by
              have d1 : nI j / 4 = nI (j / 4) := pk_div (d := 4) (by omega) (by omega) (by omega)
              have d2 : nI j - nI j / 4 * 4 = nI (j % 4) := pk_rem (d := 4) (by omega) (by omega) (by omega)
              rw [d2, d1, z_mul10, nI_add]
              rfl
            rw [g0', H_X12_ask_67_eq, p2.1, if_pos (nI_le (Nat.le_refl _) (by omega)), pk_sub so, e4, nI_1]
            have zf : zaf T v (zPk T v D kn) x j = if zcn (fun k => zPk T v D kn k && zAk T v x j k) (zprs (tN T)).length < zcn (zPk T v D kn) (zprs (tN T)).length - zcn (fun k => zPk T v D kn k && zAk T v x j k) (zprs (tN T)).length then zcn (zPk T v D kn) (zprs (tN T)).length - zcn (fun k => zPk T v D kn k && zAk T v x j k) (zprs (tN T)).length else zcn (fun k => zPk T v D kn k && zAk T v x j k) (zprs (tN T)).length := rfl
            by_cases q : zcn (fun k => zPk T v D kn k && zAk T v x j k) (zprs (tN T)).length ≤ zcn (zPk T v D kn) (zprs (tN T)).length - zcn (fun k => zPk T v D kn k && zAk T v x j k) (zprs (tN T)).length
            · have : zaf T v (zPk T v D kn) x j = zcn (zPk T v D kn) (zprs (tN T)).length - zcn (fun k => zPk T v D kn k && zAk T v x j k) (zprs (tN T)).length := by rw [zf]; split <;> omega
              rw [if_pos (nI_le q (by omega)), ← this]
            · have : zaf T v (zPk T v D kn) x j = zcn (fun k => zPk T v D kn k && zAk T v x j k) (zprs (tN T)).length := by rw [zf]; split <;> omega
              rw [if_neg (nI_ge (by omega) (by omega)), ← this]
          have lp : ∃ r, H_X12_ask_41 8 (nI x) (nI (zcn (zPk T v D kn) (zprs (tN T)).length)) (zo1 (zarg zltB zac (zaf T v (zPk T v D kn) x) 0)) 0 (nI 0) m2 = some r ∧ r = (zo1 (zarg zltB zac (zaf T v (zPk T v D kn) x) (4 * tN T)), m2) := by
            refine zlp (fun j (y : Int32) => H_X12_ask_41 8 (nI x) (nI (zcn (zPk T v D kn) (zprs (tN T)).length)) (zo1 (zarg zltB zac (zaf T v (zPk T v D kn) x) j)) y (nI j) m2) (fun r => r = (zo1 (zarg zltB zac (zaf T v (zPk T v D kn) x) (4 * tN T)), m2)) (fun j y => j = 0 ∨ y = zo2 (zarg zltB zac (zaf T v (zPk T v D kn) x) j)) (4 * tN T) ?_ ?_ 0 0 (Nat.zero_le _) (Or.inl rfl)
            · rintro j y hj hy
              left
              refine ⟨zo2 (zarg zltB zac (zaf T v (zPk T v D kn) x) (j + 1)), Or.inr rfl, ?_⟩
              show H_X12_ask_41 8 (nI x) (nI (zcn (zPk T v D kn) (zprs (tN T)).length)) (zo1 (zarg zltB zac (zaf T v (zPk T v D kn) x) j)) y (nI j) m2 = H_X12_ask_41 8 (nI x) (nI (zcn (zPk T v D kn) (zprs (tN T)).length)) (zo1 (zarg zltB zac (zaf T v (zPk T v D kn) x) (j + 1))) (zo2 (zarg zltB zac (zaf T v (zPk T v D kn) x) (j + 1))) (nI (j + 1)) m2
              have i0 := inner j (zo1 (zarg zltB zac (zaf T v (zPk T v D kn) x) j)) y hj
              have i0' : H_X12_ask_67 8 (nI x) (nI (zcn (zPk T v D kn) (zprs (tN T)).length)) (zo1 (zarg zltB zac (zaf T v (zPk T v D kn) x) j)) y (nI j) 0 0 m2 = _ := i0
              rw [H_X12_ask_41_eq, l3, n_ok (by omega), n_gd l2, nI_clamp (by omega), l4, z_mul4, if_neg (nI_ge hj (by omega)), if_neg (nI_nle (by omega) (by omega)), i0']
              rcases hy with rfl | rfl
              · rw [if_pos (show zo1 (zarg zltB zac (zaf T v (zPk T v D kn) x) 0) < 0 from (show zo1 none < 0 by decide))]
                rfl
              · exact zarg_r (fun u w => H_X12_ask_41 8 (nI x) (nI (zcn (zPk T v D kn) (zprs (tN T)).length)) u w (nI (j + 1)) m2) (fun i hi => b1 j i hi hj) (b2 j)
            · rintro y hy
              show ∃ r, H_X12_ask_41 8 (nI x) _ _ y (nI (4 * tN T)) m2 = some r ∧ _
              rw [H_X12_ask_41_eq, l3, n_ok (by omega), n_gd l2, nI_clamp (by omega), l4, z_mul4, if_pos (nI_le (Nat.le_refl _) (by omega))]
              exact ⟨_, rfl, rfl⟩
          obtain ⟨r, e4, rfl⟩ := lp
          have e4' : H_X12_ask_41 8 (nI x) (nI (zcn (zPk T v D kn) (zprs (tN T)).length)) (-2) 0 0 m2 = _ := e4
          rw [e4']
      by_cases z0 : zmk (zPk T v D kn) (zprs (tN T)).length = 0
      · rw [z0, if_neg (by decide)] at x1
        obtain ⟨m2, e2, f2⟩ := ref m1 f1
        rw [if_pos z0] at e2
        exact ⟨_, _, _, x1, e2, zI_q hn hI (zE_Q f1) f2⟩
      · rw [if_pos (nI_ne0 (by omega) (by omega)), R_X10_bestQuestion_eq 8 29 _ _ m1 z_s29] at x1
        have stp : ∀ j (y : MzM), zFr zE m y → j < 4 * tN T → ∃ y', zFr zE m y' ∧ H_X10_bestQuestion_26 8 29 (nI (zmk (zPk T v D kn) (zprs (tN T)).length)) (nI x) (zo1 (zarg zltB zac (zaf T v (zPk T v D kn) x) j)) (zo2 (zarg zltB zac (zaf T v (zPk T v D kn) x) j)) (nI (j / 4)) (nI (j % 4)) y = H_X10_bestQuestion_26 8 29 (nI (zmk (zPk T v D kn) (zprs (tN T)).length)) (nI x) (zo1 (zarg zltB zac (zaf T v (zPk T v D kn) x) (j + 1))) (zo2 (zarg zltB zac (zaf T v (zPk T v D kn) x) (j + 1))) (nI (j / 4)) (nI (j % 4 + 1)) y' := by
          intro j y F hj
          obtain ⟨y', e5, f5⟩ := c_with (d := 8) (P := zPk T v D kn) (zTC_E h1 F) (zSC_E h3 z_s29 F) h5 (p := j / 4) (t := j % 4) (x := x) (by omega) (by omega) (by omega)
          have jj : 4 * (j / 4) + j % 4 = j := Nat.div_add_mod j 4
          rw [jj] at e5
          have so := zcn_and (zPk T v D kn) (zAk T v x j) (zprs (tN T)).length
          refine ⟨y', zFr_t F f5, ?_⟩
          rw [H_X10_bestQuestion_26_eq 8 29 _ _ _ _ _ _ y z_s29, if_neg (n_le4 (by omega)), e5, Option.bind_some]
          dsimp only
          rw [c_bc15 (by omega), zpopN_mk _ l15, Option.bind_some]
          dsimp only
          rw [pk_sub so, z_mul10, nI_add, nI_1]
          have zf : (if nI (zcn (fun k => zPk T v D kn k && zAk T v x j k) (zprs (tN T)).length) < nI (zcn (zPk T v D kn) (zprs (tN T)).length - zcn (fun k => zPk T v D kn k && zAk T v x j k) (zprs (tN T)).length) then nI (zcn (zPk T v D kn) (zprs (tN T)).length - zcn (fun k => zPk T v D kn k && zAk T v x j k) (zprs (tN T)).length) else nI (zcn (fun k => zPk T v D kn k && zAk T v x j k) (zprs (tN T)).length)) = nI (zaf T v (zPk T v D kn) x j) := by
            show _ = nI (if zcn (fun k => zPk T v D kn k && zAk T v x j k) (zprs (tN T)).length < zcn (zPk T v D kn) (zprs (tN T)).length - zcn (fun k => zPk T v D kn k && zAk T v x j k) (zprs (tN T)).length then zcn (zPk T v D kn) (zprs (tN T)).length - zcn (fun k => zPk T v D kn k && zAk T v x j k) (zprs (tN T)).length else zcn (fun k => zPk T v D kn k && zAk T v x j k) (zprs (tN T)).length)
            by_cases q : zcn (fun k => zPk T v D kn k && zAk T v x j k) (zprs (tN T)).length < zcn (zPk T v D kn) (zprs (tN T)).length - zcn (fun k => zPk T v D kn k && zAk T v x j k) (zprs (tN T)).length
            · rw [if_pos q, if_pos (nI_lt q (by omega))]
            · rw [if_neg q, if_neg (nI_nlt (by omega) (by omega))]
          rw [zf]
          exact zarg_c (fun u w => H_X10_bestQuestion_26 8 29 (nI (zmk (zPk T v D kn) (zprs (tN T)).length)) (nI x) u w (nI (j / 4)) (nI (j % 4 + 1)) y') (c := zac) (f := zaf T v (zPk T v D kn) x) (fun i hi => b1 j i hi hj) (b2 j)
        have o11 : ∀ p (w1 w2 : Int32) (y : MzM), zFr zE m y → p < tN T → H_X10_bestQuestion_11 8 29 (nI (zmk (zPk T v D kn) (zprs (tN T)).length)) (nI x) w1 w2 (nI p) y = H_X10_bestQuestion_26 8 29 (nI (zmk (zPk T v D kn) (zprs (tN T)).length)) (nI x) w1 w2 (nI p) (nI 0) y := fun p w1 w2 y F hp => by
          rw [H_X10_bestQuestion_11_eq 8 29 _ _ _ _ _ y z_s29, (zTC_E h1 F).2.1, if_neg (nI_ge hp (by omega))]
          rfl
        have o26 : ∀ p (w1 w2 : Int32) (y : MzM), H_X10_bestQuestion_26 8 29 (nI (zmk (zPk T v D kn) (zprs (tN T)).length)) (nI x) w1 w2 (nI p) (nI 4) y = H_X10_bestQuestion_11 8 29 (nI (zmk (zPk T v D kn) (zprs (tN T)).length)) (nI x) w1 w2 (nI (p + 1)) y := fun p w1 w2 y => by
          rw [H_X10_bestQuestion_26_eq 8 29 _ _ _ _ _ _ y z_s29, if_pos n_4le, nI_1]
        have lp : ∃ r, H_X10_bestQuestion_11 8 29 (nI (zmk (zPk T v D kn) (zprs (tN T)).length)) (nI x) (zo1 (zarg zltB zac (zaf T v (zPk T v D kn) x) 0)) (zo2 (zarg zltB zac (zaf T v (zPk T v D kn) x) 0)) (nI (0 / 4)) m1 = some r ∧ r.1 = zo1 (zarg zltB zac (zaf T v (zPk T v D kn) x) (4 * tN T)) ∧ zFr zE m r.2 := by
          have key := zlp (fun j (y : MzM) => if j % 4 = 0 then H_X10_bestQuestion_11 8 29 (nI (zmk (zPk T v D kn) (zprs (tN T)).length)) (nI x) (zo1 (zarg zltB zac (zaf T v (zPk T v D kn) x) j)) (zo2 (zarg zltB zac (zaf T v (zPk T v D kn) x) j)) (nI (j / 4)) y else H_X10_bestQuestion_26 8 29 (nI (zmk (zPk T v D kn) (zprs (tN T)).length)) (nI x) (zo1 (zarg zltB zac (zaf T v (zPk T v D kn) x) j)) (zo2 (zarg zltB zac (zaf T v (zPk T v D kn) x) j)) (nI (j / 4)) (nI (j % 4)) y) (fun r => r.1 = zo1 (zarg zltB zac (zaf T v (zPk T v D kn) x) (4 * tN T)) ∧ zFr zE m r.2) (fun _ y => zFr zE m y) (4 * tN T) ?_ ?_ 0 m1 (Nat.zero_le _) f1
          · have k0 := key
            try dsimp only at k0
            rw [if_pos (by decide)] at k0
            exact k0
          · intro j y hj F
            left
            obtain ⟨y', F', e5⟩ := stp j y F hj
            refine ⟨y', F', ?_⟩
            try dsimp only
            have lhs : (if j % 4 = 0 then H_X10_bestQuestion_11 8 29 (nI (zmk (zPk T v D kn) (zprs (tN T)).length)) (nI x) (zo1 (zarg zltB zac (zaf T v (zPk T v D kn) x) j)) (zo2 (zarg zltB zac (zaf T v (zPk T v D kn) x) j)) (nI (j / 4)) y else H_X10_bestQuestion_26 8 29 (nI (zmk (zPk T v D kn) (zprs (tN T)).length)) (nI x) (zo1 (zarg zltB zac (zaf T v (zPk T v D kn) x) j)) (zo2 (zarg zltB zac (zaf T v (zPk T v D kn) x) j)) (nI (j / 4)) (nI (j % 4)) y) = H_X10_bestQuestion_26 8 29 (nI (zmk (zPk T v D kn) (zprs (tN T)).length)) (nI x) (zo1 (zarg zltB zac (zaf T v (zPk T v D kn) x) j)) (zo2 (zarg zltB zac (zaf T v (zPk T v D kn) x) j)) (nI (j / 4)) (nI (j % 4)) y := by
              by_cases q : j % 4 = 0
              · rw [if_pos q, o11 _ _ _ y F (by omega), q]
              · rw [if_neg q]
            rw [lhs, e5]
            by_cases q : (j + 1) % 4 = 0
            · rw [if_pos q, show j % 4 + 1 = 4 by omega, o26, show j / 4 + 1 = (j + 1) / 4 by omega]
            · rw [if_neg q, show j % 4 + 1 = (j + 1) % 4 by omega, show j / 4 = (j + 1) / 4 by omega]
          · intro y F
            try dsimp only
            rw [if_pos (by omega), show 4 * tN T / 4 = tN T by omega, H_X10_bestQuestion_11_eq 8 29 _ _ _ _ _ y z_s29, (zTC_E h1 F).2.1, if_pos (nI_le (Nat.le_refl _) (by omega))]
            exact ⟨_, rfl, rfl, F⟩
        obtain ⟨⟨r1, m3⟩, e6, rfl, f6⟩ := lp
        have e6' : H_X10_bestQuestion_11 8 29 (nI (zmk (zPk T v D kn) (zprs (tN T)).length)) (nI x) (-2) (-2) 0 m1 = _ := e6
        rw [e6', Option.bind_some] at x1
        obtain ⟨m2, e2, f2⟩ := ref m3 f6
        rw [if_neg z0] at e2
        exact ⟨_, _, _, x1, e2, zI_q hn hI (zE_Q f6) f2⟩
