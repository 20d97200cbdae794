/-! what a law tells: the reference's side -/
def zRk (m : MzM) (t : Nat) (s : Nat → Int32) : Prop := ∀ i, i < t → mz_rd m 269 i = s i
theorem zRk_w {m : MzM} {t u : Nat} {s : Nat → Int32} (h : zRk m t s) (hu : u ≤ t) (x : Int32) : zRk (mz_wr m 269 u x) (u + 1) (zUI s u x) := by
  intro i hi
  show mz_rd (mz_wr m 269 u x) 269 i = if i = u then x else s i
  rw [m_rw]
  by_cases c : i = u
  · rw [if_pos ⟨rfl, c⟩, if_pos c]
  · rw [if_neg (fun y => c y.2), if_neg c]
    exact h i (by omega)
theorem r_cell {d t at' to : Nat} {m : MzM} {s : Nat → Int32} {f : Nat → Int32} {c : Nat × Nat} (h840 : to ≤ 840) (hat : at' < to) (hc : mz_rd m 265 at' = nI c.1) (hc2 : c.1 ≤ 1 → mz_rd m 266 at' = nI c.2) (hf : ∀ i, i < 9 → mz_rd m 268 i = f i) (hz : zRk m t s) (ok : zcok t c) : (∃ m', H_X12_termOf_5 d (nI to) (nI t) (nI at') m = H_X12_termOf_5 d (nI to) (nI (zstp f (t, s, false) c).1) (nI (at' + 1)) m' ∧ zFr zRE0 m m' ∧ mz_rd m' 239 46 = mz_rd m 239 46 ∧ zRk m' (zstp f (t, s, false) c).1 (zstp f (t, s, false) c).2.1 ∧ (zstp f (t, s, false) c).2.2 = false) ∨ (H_X12_termOf_5 d (nI to) (nI t) (nI at') m = some (0, mz_wr m 239 46 1) ∧ (zstp f (t, s, false) c).2.2 = true) := by
  obtain ⟨k, x⟩ := c
  have hc : mz_rd m 265 at' = nI k := hc
  have hc2 : k ≤ 1 → mz_rd m 266 at' = nI x := hc2
  rw [H_X12_termOf_5_eq, if_neg (nI_ge hat (by omega)), n_ok (show at' < 2 ^ 31 by omega), n_gd (show at' < 840 by omega), nI_clamp (show at' < 2 ^ 31 by omega), hc, nI_1]
  rcases ok with ⟨k0, x0, t0⟩ | ⟨k0, x0, t0⟩ | ⟨k2, k5, t2, t3⟩
  · have k0 : k = 0 := k0
    have x0 : x < 10000 := x0
    subst k0
    rw [if_neg (show ¬ (2 : Int32) ≤ nI 0 by decide), if_neg (fun z => z rfl), n_gd (show at' < 840 by omega), hc2 (by omega), n_ok (show t < 2 ^ 31 by omega), n_gd (show t < 400 by omega), nI_clamp (show t < 2 ^ 31 by omega), nI_1]
    exact Or.inl ⟨mz_wr m 269 t (nI x), rfl, zFr_w (Or.inl rfl), m_ne (by omega), zRk_w hz (Nat.le_refl _) _, rfl⟩
  · have k0 : k = 1 := k0
    have x0 : x < 9 := x0
    subst k0
    rw [if_neg (show ¬ (2 : Int32) ≤ nI 1 by decide), if_pos (show ¬ nI 1 = 0 by decide), n_gd (show at' < 840 by omega), hc2 (by omega), n_ok (show x < 2 ^ 31 by omega), n_gd x0, n_ok (show t < 2 ^ 31 by omega), n_gd (show t < 400 by omega), nI_clamp (show t < 2 ^ 31 by omega), nI_clamp (show x < 2 ^ 31 by omega), nI_1, hf x x0]
    exact Or.inl ⟨mz_wr m 269 t (f x), rfl, zFr_w (Or.inl rfl), m_ne (by omega), zRk_w hz (Nat.le_refl _) _, rfl⟩
  · have k2 : 2 ≤ k := k2
    have k5 : k ≤ 5 := k5
    obtain ⟨u, rfl⟩ : ∃ u, t = u + 2 := ⟨t - 2, by omega⟩
    have m1 : nI (u + 2) + (-1) = nI (u + 1) := pk_m1 (u + 1)
    have r0 : mz_rd m 269 u = s u := hz u (by omega)
    have r1 : mz_rd m 269 (u + 1) = s (u + 1) := hz (u + 1) (by omega)
    rw [if_pos (show (2 : Int32) ≤ nI k from nI_le (a := 2) (by omega) (by omega)), m1, nI_pred, n_ok (show u < 2 ^ 31 by omega), n_gd (show u < 400 by omega), n_ok (show u + 1 < 2 ^ 31 by omega), n_gd (show u + 1 < 400 by omega), nI_clamp (show u < 2 ^ 31 by omega), nI_clamp (show u + 1 < 2 ^ 31 by omega), r0, r1]
    rcases (show k = 2 ∨ k = 3 ∨ k = 4 ∨ k = 5 by omega) with rfl | rfl | rfl | rfl
    · rw [if_pos (by decide), if_neg (fun z => z rfl), n_gd (show u < 400 by omega)]
      exact Or.inl ⟨mz_wr m 269 u (s u + s (u + 1)), rfl, zFr_w (Or.inl rfl), m_ne (by omega), zRk_w hz (by omega) _, rfl⟩
    · rw [if_pos (by decide), if_pos (by decide), if_neg (fun z => z rfl), n_gd (show u < 400 by omega)]
      exact Or.inl ⟨mz_wr m 269 u (s u - s (u + 1)), rfl, zFr_w (Or.inl rfl), m_ne (by omega), zRk_w hz (by omega) _, rfl⟩
    · rw [if_pos (by decide), if_pos (by decide), if_pos (by decide), if_neg (fun z => z rfl), n_gd (show u < 400 by omega)]
      exact Or.inl ⟨mz_wr m 269 u (s u * s (u + 1)), rfl, zFr_w (Or.inl rfl), m_ne (by omega), zRk_w hz (by omega) _, rfl⟩
    · rw [if_neg (fun z => z rfl)]
      have uf : zstp f (u + 2, s, false) (5, x) = (u + 1, zUI s u (if s (u + 1) = 0 then 0 else s u / s (u + 1)), false || decide (s (u + 1) = 0)) := rfl
      rw [uf]
      by_cases z0 : s (u + 1) = 0
      · rw [if_neg (fun y => y z0), decide_eq_true z0]
        exact Or.inr ⟨rfl, rfl⟩
      · rw [if_pos z0, if_pos (by decide), if_pos (by decide), if_pos (by decide), n_gd z0, n_gd (show u < 400 by omega), if_neg z0, decide_eq_false z0]
        exact Or.inl ⟨mz_wr m 269 u (s u / s (u + 1)), rfl, zFr_w (Or.inl rfl), m_ne (by omega), zRk_w hz (by omega) _, rfl⟩
def zRPt (lv : Nat) (m : MzM) (fr : Nat) (P : ZP) : Prop := 420 * lv ≤ fr ∧ fr + P.length ≤ 420 * lv + 420 ∧ (∀ i c, P[i]? = some c → mz_rd m 265 (fr + i) = nI c.1 ∧ (c.1 ≤ 1 → mz_rd m 266 (fr + i) = nI c.2)) ∧ zcs 0 P 1
theorem zRPt_f {lv : Nat} {m m' : MzM} {fr : Nat} {P : ZP} (h : zRPt lv m fr P) (g : ∀ a i, a = 265 ∨ a = 266 → 420 * lv ≤ i → i < 420 * lv + 420 → mz_rd m' a i = mz_rd m a i) : zRPt lv m' fr P := by
  obtain ⟨h0, h1, h2, h3⟩ := h
  refine ⟨h0, h1, fun i c hi => ?_, h3⟩
  have li : i < P.length := (List.getElem?_eq_some_iff.mp hi).1
  exact ⟨(g _ _ (Or.inl rfl) (by omega) (by omega)).trans (h2 i c hi).1, fun z => (g _ _ (Or.inr rfl) (by omega) (by omega)).trans ((h2 i c hi).2 z)⟩
theorem r_term {d lv fr : Nat} {m : MzM} {f : Nat → Int32} {bk : Bool} {P : ZP} (hlv : lv < 2) (h : zRPt lv m fr P) (hf : ∀ i, i < 9 → mz_rd m 268 i = f i) (hb : mz_rd m 239 46 = zb bk) : ∃ m', R_X12_termOf d (nI fr) (nI (fr + P.length)) m = some (if zbrk f P = true then 0 else zval f P, m') ∧ zFr zRE0 m m' ∧ mz_rd m' 239 46 = zb (bk || zbrk f P) := by
  obtain ⟨h419, h420, hP, ok⟩ := h
  have h840 : fr + P.length ≤ 840 := by omega
  have go : ∀ (Q : ZP) (j : Nat) (t : Nat) (s : Nat → Int32) (y : MzM), (∀ i c, Q[i]? = some c → P[j + i]? = some c) → j + Q.length = P.length → zFr zRE0 m y → mz_rd y 239 46 = zb bk → zRk y t s → zcs t Q 1 → ∃ m', H_X12_termOf_5 d (nI (fr + P.length)) (nI t) (nI (fr + j)) y = some (if (Q.foldl (zstp f) (t, s, false)).2.2 = true then 0 else (Q.foldl (zstp f) (t, s, false)).2.1 0, m') ∧ zFr zRE0 m m' ∧ mz_rd m' 239 46 = zb (bk || (Q.foldl (zstp f) (t, s, false)).2.2) := by
    intro Q
    induction Q with
    | nil =>
      intro j t s y hQ hl F B S ok
      have hl : j = P.length := hl
      have ok : t = 1 := ok
      have r0 : mz_rd y 269 0 = s 0 := S 0 (by omega)
      have e0 : (([] : ZP).foldl (zstp f) (t, s, false)) = (t, s, false) := rfl
      rw [e0, H_X12_termOf_5_eq, if_pos (nI_le (by omega) (by omega)), r0]
      dsimp only
      rw [Bool.or_false]
      exact ⟨y, rfl, F, B⟩
    | cons c Q ih =>
      intro j t s y hQ hl F B S ok
      have hl : j + (Q.length + 1) = P.length := hl
      have hc := hP j c (by have := hQ 0 c rfl; rw [Nat.add_zero] at this; exact this)
      have g5 : ∀ a i, a = 265 ∨ a = 266 ∨ a = 268 → mz_rd y a i = mz_rd m a i := fun a i z => F.1 a i (by unfold zRE0; omega)
      have st := zfold_bk f Q (zstp f (t, s, false) c).1 (zstp f (t, s, false) c).2.1 (zstp f (t, s, false) c).2.2
      rw [List.foldl_cons]
      rcases r_cell (d := d) (f := f) h840 (show fr + j < fr + P.length by omega) ((g5 _ _ (Or.inl rfl)).trans hc.1) (fun z => (g5 _ _ (Or.inr (Or.inl rfl))).trans (hc.2 z)) (fun i hi => (g5 _ _ (Or.inr (Or.inr rfl))).trans (hf i hi)) S ok.1 with ⟨m', e1, f1, b1, s1, k1⟩ | ⟨e1, k1⟩
      · obtain ⟨m2, e2, f2, b2⟩ := ih (j + 1) (zstp f (t, s, false) c).1 (zstp f (t, s, false) c).2.1 m' (fun i c' hi => by
          have := hQ (i + 1) c' (by rw [List.getElem?_cons_succ]; exact hi)
          rw [show j + 1 + i = j + (i + 1) by omega]
          exact this) (by omega) (zFr_t F f1) (b1.trans B) s1 (by rw [zstp_t]; exact ok.2)
        refine ⟨m2, ?_, f2, ?_⟩
        · rw [e1, show fr + j + 1 = fr + (j + 1) by omega, e2]
          rw [show zstp f (t, s, false) c = ((zstp f (t, s, false) c).1, (zstp f (t, s, false) c).2.1, (zstp f (t, s, false) c).2.2) from rfl, k1]
        · rw [b2]
          rw [show zstp f (t, s, false) c = ((zstp f (t, s, false) c).1, (zstp f (t, s, false) c).2.1, (zstp f (t, s, false) c).2.2) from rfl, k1]
      · refine ⟨mz_wr y 239 46 1, ?_, zFr_w2 F (Or.inr ⟨rfl, rfl⟩), ?_⟩
        · rw [e1, show zstp f (t, s, false) c = ((zstp f (t, s, false) c).1, (zstp f (t, s, false) c).2.1, (zstp f (t, s, false) c).2.2) from rfl, st, k1]
          dsimp only
          rw [Bool.true_or, if_pos rfl]
        · rw [m_eq, show zstp f (t, s, false) c = ((zstp f (t, s, false) c).1, (zstp f (t, s, false) c).2.1, (zstp f (t, s, false) c).2.2) from rfl, st, k1]
          dsimp only
          rw [Bool.true_or, Bool.or_true]
          rfl
  obtain ⟨m', e1, f1, b1⟩ := go P 0 0 (fun _ => 0) m (fun i c hi => by rw [Nat.zero_add]; exact hi) (by omega) zFr_r hb (fun i hi => absurd hi (by omega)) ok
  rw [R_X12_termOf_eq]
  exact ⟨m', e1, f1, b1⟩
/-- what a law that is not told tells -/
def zdf0 (k : Nat) : ZP := match k with
  | 1 => [(1, 5)]
  | 3 => [(0, 1)]
  | _ => [(0, 0)]
/-- the reference holds law o: branches from a -/
def zRL (lv : Nat) (m : MzM) (o a : Nat) (ts : List (ZP × ZP × ZP)) (last : ZP) : Prop := mz_rd m 258 o = nI a ∧ mz_rd m 259 o = nI (a + ts.length + 1) ∧ (130 * lv ≤ a ∧ a + ts.length + 1 ≤ 130 * lv + 130) ∧ (∀ j q, ts[j]? = some q → mz_rd m 260 (a + j) = 1 ∧ ∃ s, mz_rd m 261 (a + j) = nI s ∧ mz_rd m 262 (a + j) = nI (s + q.1.length) ∧ mz_rd m 263 (a + j) = nI (s + q.1.length + q.2.1.length) ∧ mz_rd m 264 (a + j) = nI (s + q.1.length + q.2.1.length + q.2.2.length) ∧ zRPt lv m s q.1 ∧ zRPt lv m (s + q.1.length) q.2.1 ∧ zRPt lv m (s + q.1.length + q.2.1.length) q.2.2) ∧ mz_rd m 260 (a + ts.length) = 0 ∧ ∃ s, mz_rd m 263 (a + ts.length) = nI s ∧ mz_rd m 264 (a + ts.length) = nI (s + last.length) ∧ zRPt lv m s last
theorem r_lawL {d lv o a : Nat} {m : MzM} {f : Nat → Int32} {ts : List (ZP × ZP × ZP)} {last : ZP} (hlv : lv < 2) (ho : o < 8) (h : zRL lv m o a ts last) (hf : ∀ i, i < 9 → mz_rd m 268 i = f i) (hb : mz_rd m 239 46 = zb false) : ∃ m', H_X12_lawTells_39 d (nI o) (nI a) m = some (zlw f last ts false, m') ∧ zFr zRE0 m m' := by
  obtain ⟨h1, h2, ⟨h30, h31⟩, h4, h5, s, h6, h7, h8⟩ := h
  have h3 : a + ts.length + 1 ≤ 260 := by omega
  have go : ∀ (rest : List (ZP × ZP × ZP)) (j : Nat) (y : MzM), j + rest.length = ts.length → (∀ i q, rest[i]? = some q → ts[j + i]? = some q) → zFr zRE0 m y → mz_rd y 239 46 = zb false → ∃ m', H_X12_lawTells_39 d (nI o) (nI (a + j)) y = some (zlw f last rest false, m') ∧ zFr zRE0 m m' := by
    intro rest
    induction rest with
    | nil =>
      intro j y hl hr F B
      have hl : j = ts.length := hl
      subst hl
      have g : ∀ b i, 259 ≤ b ∧ b ≤ 268 → mz_rd y b i = mz_rd m b i := fun b i z => F.1 b i (by unfold zRE0; omega)
      obtain ⟨m', e1, f1, b1⟩ := r_term (d := d) (f := f) hlv (zRPt_f h8 (fun b i z _ _ => g b i (by omega))) (fun i hi => (g _ _ (by omega)).trans (hf i hi)) B
      rw [Bool.false_or] at b1
      rw [H_X12_lawTells_39_eq, n_ok (show o < 2 ^ 31 by omega), n_gd ho, nI_clamp (show o < 2 ^ 31 by omega), g 259 o (by omega), h2, if_neg (nI_ge (by omega) (by omega)), n_ok (show a + ts.length < 2 ^ 31 by omega), n_gd (show a + ts.length < 260 by omega), nI_clamp (show a + ts.length < 2 ^ 31 by omega), g 260 _ (by omega), h5, if_pos rfl, n_gd (show a + ts.length < 260 by omega), n_gd (show a + ts.length < 260 by omega), g 263 _ (by omega), h6, g 264 _ (by omega), h7, e1, Option.bind_some]
      dsimp only
      rw [b1]
      refine ⟨m', ?_, zFr_t F f1⟩
      show _ = some (if (false || zbrk f last) = true then 0 else zval f last, m')
      rw [Bool.false_or]
      cases zbrk f last <;> rfl
    | cons q rest ih =>
      intro j y hl hr F B
      have hl : j + (rest.length + 1) = ts.length := hl
      have hj : a + j < 260 := by omega
      obtain ⟨q0, s, q1, q2, q3, q4, q5, q6, q7⟩ := h4 j q (by have := hr 0 q rfl; rw [Nat.add_zero] at this; exact this)
      have g : ∀ (z : MzM), zFr zRE0 m z → ∀ b i, 259 ≤ b ∧ b ≤ 268 → mz_rd z b i = mz_rd m b i := fun z Z b i w => Z.1 b i (by unfold zRE0; omega)
      obtain ⟨m1, e1, f1, b1⟩ := r_term (d := d) (f := f) hlv (zRPt_f q5 (fun b i z _ _ => g y F b i (by omega))) (fun i hi => (g y F _ _ (by omega)).trans (hf i hi)) B
      have F1 := zFr_t F f1
      obtain ⟨m2, e2, f2, b2⟩ := r_term (d := d) (f := f) hlv (zRPt_f q6 (fun b i z _ _ => g m1 F1 b i (by omega))) (fun i hi => (g m1 F1 _ _ (by omega)).trans (hf i hi)) b1
      have F2 := zFr_t F1 f2
      rw [H_X12_lawTells_39_eq, n_ok (show o < 2 ^ 31 by omega), n_gd ho, nI_clamp (show o < 2 ^ 31 by omega), g y F 259 o (by omega), h2, if_neg (nI_ge (by omega) (by omega)), n_ok (show a + j < 2 ^ 31 by omega), n_gd hj, nI_clamp (show a + j < 2 ^ 31 by omega), g y F 260 _ (by omega), q0, if_neg (by decide), n_gd hj, n_gd hj, g y F 261 _ (by omega), q1, g y F 262 _ (by omega), q2, e1, Option.bind_some]
      dsimp only
      rw [n_gd hj, n_gd hj, g m1 F1 262 _ (by omega), q2, g m1 F1 263 _ (by omega), q3, e2, Option.bind_some]
      dsimp only
      have uf : zlw f last (q :: rest) false = if zval f q.1 < zval f q.2.1 then (if ((false || zbrk f q.1 || zbrk f q.2.1) || zbrk f q.2.2) = true then 0 else zval f q.2.2) else zlw f last rest (false || zbrk f q.1 || zbrk f q.2.1) := rfl
      rw [uf, b2]
      by_cases k : (false || zbrk f q.1 || zbrk f q.2.1) = true
      · rw [k, zlw_t, if_neg (by decide)]
        refine ⟨m2, ?_, F2⟩
        by_cases w : zval f q.1 < zval f q.2.1
        · rw [if_pos w, Bool.true_or, if_pos rfl]
        · rw [if_neg w]
      · have k := Bool.eq_false_iff.mpr k
        have k1 : zbrk f q.1 = false := by
          cases hh : zbrk f q.1
          · rfl
          · rw [hh] at k; exact absurd k (by simp)
        have k2 : zbrk f q.2.1 = false := by
          cases hh : zbrk f q.2.1
          · rfl
          · rw [hh] at k; exact absurd k (by simp)
        rw [k] at b2
        rw [k, if_pos (show zb false = 0 from rfl), k1, k2, if_neg (show ¬ false = true by decide), if_neg (show ¬ false = true by decide)]
        by_cases w : zval f q.1 < zval f q.2.1
        · obtain ⟨m3, e3, f3, b3⟩ := r_term (d := d) (f := f) hlv (zRPt_f q7 (fun b i z _ _ => g m2 F2 b i (by omega))) (fun i hi => (g m2 F2 _ _ (by omega)).trans (hf i hi)) b2
          rw [if_pos w, if_pos w, n_gd hj, n_gd hj, g m2 F2 263 _ (by omega), q3, g m2 F2 264 _ (by omega), q4, e3, Option.bind_some]
          dsimp only
          rw [b3]
          refine ⟨m3, ?_, zFr_t F2 f3⟩
          rw [Bool.false_or]
          cases zbrk f q.2.2 <;> rfl
        · rw [if_neg w, if_neg w, nI_1, show a + j + 1 = a + (j + 1) by omega]
          exact ih (j + 1) m2 (by omega) (fun i p hi => by
            have := hr (i + 1) p (by rw [List.getElem?_cons_succ]; exact hi)
            rw [show j + 1 + i = j + (i + 1) by omega]
            exact this) F2 b2
  have := go ts 0 m (by omega) (fun i q hi => by rw [Nat.zero_add]; exact hi) zFr_r hb
  rw [Nat.add_zero] at this
  exact this
def zRW (lv : Nat) (m : MzM) (o k : Nat) (ts : List (ZP × ZP × ZP)) (last : ZP) : Prop := (ts = [] ∧ last = zdf0 k ∧ mz_rd m 258 o = mz_rd m 259 o) ∨ ∃ a, zRL lv m o a ts last
theorem zdf0_v {k : Nat} (hk : k < 4) (f : Nat → Int32) : zlw f (zdf0 k) [] false = zpl k f := by
  rcases (show k = 0 ∨ k = 1 ∨ k = 2 ∨ k = 3 by omega) with rfl | rfl | rfl | rfl <;> rfl
theorem zRL_f {m m' : MzM} {lv o a : Nat} {ts : List (ZP × ZP × ZP)} {last : ZP} (ho : 4 * lv ≤ o ∧ o < 4 * lv + 4) (h : zRL lv m o a ts last) (g : ∀ b i, zRl lv b i → mz_rd m' b i = mz_rd m b i) : zRL lv m' o a ts last := by
  obtain ⟨h1, h2, ⟨h30, h31⟩, h4, h5, s, h6, h7, h8⟩ := h
  have gp : ∀ {s P}, zRPt lv m s P → zRPt lv m' s P := fun z => zRPt_f z (fun b i w w1 w2 => g b i (by unfold zRl; omega))
  refine ⟨(g _ _ (by unfold zRl; omega)).trans h1, (g _ _ (by unfold zRl; omega)).trans h2, ⟨h30, h31⟩, fun j q hj => ?_, (g _ _ (by unfold zRl; omega)).trans h5, s, (g _ _ (by unfold zRl; omega)).trans h6, (g _ _ (by unfold zRl; omega)).trans h7, gp h8⟩
  have lj : j < ts.length := (List.getElem?_eq_some_iff.mp hj).1
  obtain ⟨q0, s, q1, q2, q3, q4, q5, q6, q7⟩ := h4 j q hj
  exact ⟨(g _ _ (by unfold zRl; omega)).trans q0, s, (g _ _ (by unfold zRl; omega)).trans q1, (g _ _ (by unfold zRl; omega)).trans q2, (g _ _ (by unfold zRl; omega)).trans q3, (g _ _ (by unfold zRl; omega)).trans q4, gp q5, gp q6, gp q7⟩
theorem zLR_of {m : MzM} {lv : Nat} {ts : Nat → List (ZP × ZP × ZP)} {last : Nat → ZP} (hl : lv < 2) (h18 : mz_rd m 239 18 = nI lv) (h : ∀ k, k < 4 → zRW lv m (4 * lv + k) k (ts k) (last k)) : zLR lv m (fun k f => zlw f (last k) (ts k) false) := by
  intro m1 f k d g hf hk
  have g18 : mz_rd m1 239 18 = nI lv := (g 239 18 (by unfold zRl; omega)).trans h18
  rw [R_X12_lawTells_eq, g18, z_mul4, nI_add, n_ok (show 4 * lv + k < 2 ^ 31 by omega), n_gd (show 4 * lv + k < 8 by omega), n_gd (show 4 * lv + k < 8 by omega), nI_clamp (show 4 * lv + k < 2 ^ 31 by omega)]
  rcases h k hk with ⟨w1, w2, w3⟩ | ⟨a, w⟩
  · rw [g 258 _ (by unfold zRl; omega), g 259 _ (by unfold zRl; omega), if_neg (fun z => z w3)]
    refine ⟨m1, ?_, zFr_r⟩
    dsimp only
    rw [w1, w2, zdf0_v hk]
  · have w' := zRL_f (by omega) w g
    have b := w.2.2.1
    have ne : ¬ mz_rd m1 258 (4 * lv + k) = mz_rd m1 259 (4 * lv + k) := by
      rw [w'.1, w'.2.1]
      intro z
      have := (nI_eq (by omega) (by omega)).mp z
      omega
    rw [if_pos ne, n_gd (show 4 * lv + k < 8 by omega), m_ne (show 258 ≠ 239 by omega), w'.1]
    obtain ⟨m2, e2, f2⟩ := r_lawL (d := d) (o := 4 * lv + k) (f := f) (m := mz_wr m1 239 46 0) hl (by omega) (zRL_f (by omega) w' (fun b i z => by
      rw [m_rw, if_neg (by unfold zRl at z; omega)])) (fun i hi => by rw [m_ne (by omega)]; exact hf i hi) m_eq
    exact ⟨m2, e2, zFr_t (zFr_w (Or.inr ⟨rfl, rfl⟩)) f2⟩
