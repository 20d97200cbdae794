/-! the class reads an expression -/
theorem k_ne {a b : Nat} (ha : a < 2 ^ 31) (hb : b < 2 ^ 31) (h : a ≠ b) : ¬ nI a = nI b := fun z => h ((nI_eq ha hb).mp z)
/-- the class's tokens: kinds, values, names, places -/
def zTok (kd vl nm pl : Nat → Nat) (m : MzM) : Prop := (∀ i, kd i < 34 ∧ vl i < 10000) ∧ (∀ i, 402 ≤ i → kd i = 0) ∧ ∃ sz, (sz ≤ 402 ∧ (sz = 402 ∨ (0 < sz ∧ kd (sz - 1) = 0))) ∧ mz_rd m 23 4 = nI sz ∧ (∀ i, sz ≤ i → kd i = 0) ∧ ∀ i, i < sz → mz_rd m 24 i = nI (kd i) ∧ mz_rd m 25 i = nI (pl i) ∧ (kd i = 3 → mz_rl m 26 i = lN (vl i)) ∧ (kd i = 2 → mz_rl m 26 i = lN (nm i))
def zCX (a i : Nat) : Prop := (a = 22 ∧ 2 ≤ i ∧ i ≤ 5) ∨ a = 18 ∨ (a = 17 ∧ i = 4)
def zCW (a i : Nat) : Prop := a = 18 ∨ (a = 17 ∧ i = 4)
def zAl (kd : Nat → Nat) (m : MzM) (t : Nat) : Prop := mz_rd m 22 4 = 0 ∧ mz_rd m 22 2 = nI t ∧ mz_rd m 22 3 = nI (kd t) ∧ t ≤ 402
def zDe (m : MzM) (f e : Nat) : Prop := mz_rd m 22 4 = nI f ∧ mz_rd m 22 5 = nI e ∧ mz_rd m 22 3 = 0 ∧ (f = 1 ∨ f = 2) ∧ e ≤ 402 ∧ mz_rd m 22 2 = nI e
def zCR (kd : Nat → Nat) (m m' : MzM) (u : Nat) : ZR → Prop
  | .inl e => zDe m' e.1 e.2 ∧ ∃ u', u' ≤ 404 ∧ mz_rd m' 17 4 = nI u'
  | .inr q => zAl kd m' q.1 ∧ mz_rd m' 17 4 = nI (u + q.2.length) ∧ (∀ i c, q.2[i]? = some c → mz_rd m' 18 (u + i) = nI (zenc c)) ∧ ∀ i, i < u → mz_rd m' 18 i = mz_rd m 18 i
section ZCexp
variable {kd vl nm pl : Nat → Nat}
theorem zTok_f {m m' : MzM} {F : Nat → Nat → Prop} (h : zTok kd vl nm pl m) (f : zFr F m m') (hF : ∀ a i, F a i → a < 23 ∨ 26 < a) : zTok kd vl nm pl m' := by
  obtain ⟨h1, h2, sz, s1, s2, s3, s4⟩ := h
  have g : ∀ a i, 23 ≤ a → a ≤ 26 → mz_rd m' a i = mz_rd m a i := fun a i p q => f.1 a i (fun z => by have := hF a i z; omega)
  refine ⟨h1, h2, sz, s1, (g _ _ (by omega) (by omega)).trans s2, s3, fun i hi => ?_⟩
  obtain ⟨k1, k2, k3, k4⟩ := s4 i hi
  have e : ∀ i, mz_rl m' 26 i = mz_rl m 26 i := fun i => by unfold mz_rl; rw [f.2]
  exact ⟨(g _ _ (by omega) (by omega)).trans k1, (g _ _ (by omega) (by omega)).trans k2, fun z => (e i).trans (k3 z), fun z => (e i).trans (k4 z)⟩
theorem zTok_x {m m' : MzM} (h : zTok kd vl nm pl m) (f : zFr zCX m m') : zTok kd vl nm pl m' := zTok_f h f (fun a i z => by unfold zCX at z; omega)
theorem zTok_sz {m : MzM} (h : zTok kd vl nm pl m) {t : Nat} (k : kd t ≠ 0) : ∃ sz, sz ≤ 402 ∧ mz_rd m 23 4 = nI sz ∧ t < sz ∧ (∀ i, sz ≤ i → kd i = 0) ∧ ∀ i, i < sz → mz_rd m 24 i = nI (kd i) ∧ mz_rd m 25 i = nI (pl i) ∧ (kd i = 3 → mz_rl m 26 i = lN (vl i)) ∧ (kd i = 2 → mz_rl m 26 i = lN (nm i)) := by
  obtain ⟨h1, h2, sz, s1, s2, s3, s4⟩ := h
  refine ⟨sz, s1.1, s2, ?_, s3, s4⟩
  rcases Nat.lt_or_ge t sz with c | c
  · exact c
  · exact absurd (s3 t c) k
theorem c_tk {d t : Nat} {m : MzM} (h : zTok kd vl nm pl m) (a : zAl kd m t) (k : kd t ≠ 0) : ∃ m', R_X4_take d m = some m' ∧ zFr (fun a i => a = 22 ∧ (i = 2 ∨ i = 3)) m m' ∧ zAl kd m' (t + 1) := by
  obtain ⟨sz, s1, s2, s3, s4, s5⟩ := zTok_sz h k
  obtain ⟨a1, a2, a3, a4⟩ := a
  have x := R_X4_take_eq d m
  rw [if_neg (show ¬ ¬ mz_rd m 22 4 = 0 from fun z => z a1), a2, nI_1, m_ne (show 23 ≠ 22 by omega), m_eq, s2] at x
  by_cases c : sz ≤ t + 1
  · rw [if_pos (nI_le c (by omega))] at x
    refine ⟨_, x, ⟨fun b j z => ?_, rfl⟩, ?_, ?_, ?_, by omega⟩
    · rw [m_rw, if_neg (fun w => z ⟨w.1, Or.inr w.2⟩), m_rw, if_neg (fun w => z ⟨w.1, Or.inl w.2⟩)]
    · rw [m_ni (by omega), m_ni (by omega)]; exact a1
    · rw [m_ni (by omega), m_eq]
    · rw [m_eq, s4 _ c]; rfl
  · rw [if_neg (nI_ge (by omega) (by omega)), n_ok (by omega), n_gd (by omega), nI_clamp (by omega), m_ne (show 24 ≠ 22 by omega), (s5 (t + 1) (by omega)).1] at x
    refine ⟨_, x, ⟨fun b j z => ?_, rfl⟩, ?_, ?_, ?_, by omega⟩
    · rw [m_rw, if_neg (fun w => z ⟨w.1, Or.inr w.2⟩), m_rw, if_neg (fun w => z ⟨w.1, Or.inl w.2⟩)]
    · rw [m_ni (by omega), m_ni (by omega)]; exact a1
    · rw [m_ni (by omega), m_eq]
    · rw [m_eq]
theorem c_fl {d t f : Nat} {m : MzM} (a : zAl kd m t) (hf : f = 1 ∨ f = 2) : ∃ m', R_X4_fail d (nI f) m = some m' ∧ zFr (fun a i => a = 22 ∧ 3 ≤ i ∧ i ≤ 5) m m' ∧ zDe m' f t := by
  obtain ⟨a1, a2, a3, a4⟩ := a
  have x := R_X4_fail_eq d (nI f) m
  rw [if_neg (show ¬ ¬ mz_rd m 22 4 = 0 from fun z => z a1), m_ni (show 2 ≠ 4 by omega), a2] at x
  refine ⟨_, x, ⟨fun b j z => ?_, rfl⟩, ?_, ?_, m_eq, hf, a4, by rw [m_ni (by omega), m_ni (by omega), m_ni (by omega)]; exact a2⟩
  · rw [m_rw, if_neg (fun w => z ⟨w.1, by omega⟩), m_rw, if_neg (fun w => z ⟨w.1, by omega⟩), m_rw, if_neg (fun w => z ⟨w.1, by omega⟩)]
  · rw [m_ni (by omega), m_ni (by omega), m_eq]
  · rw [m_ni (by omega), m_eq]
theorem c_flD {d f e : Nat} {y : Int32} {m : MzM} (a : zDe m f e) : ∃ m', R_X4_fail d y m = some m' ∧ zFr (fun a i => a = 22 ∧ i = 3) m m' ∧ zDe m' f e := by
  obtain ⟨a1, a2, a3, a4, a5⟩ := a
  have x := R_X4_fail_eq d y m
  rw [if_pos (show ¬ mz_rd m 22 4 = 0 from fun z => by rw [a1] at z; have := (nI_eq (a := f) (b := 0) (by omega) (by omega)).mp z; omega)] at x
  exact ⟨_, x, zFr_w ⟨rfl, rfl⟩, by rw [m_ni (by omega)]; exact a1, by rw [m_ni (by omega)]; exact a2, m_eq, a4, a5.1, by rw [m_ni (by omega)]; exact a5.2⟩
/-- what is due stands there -/
theorem c_ex {d t k : Nat} {m : MzM} (h : zTok kd vl nm pl m) (a : zAl kd m t) (k0 : k ≠ 0) (e : kd t = k) : ∃ m', R_X4_expect d (nI k) m = some m' ∧ zFr (fun a i => a = 22 ∧ (i = 2 ∨ i = 3)) m m' ∧ zAl kd m' (t + 1) := by
  have x := R_X4_expect_eq d (nI k) m
  obtain ⟨m', e1, e2, e3⟩ := c_tk (d := d) h a (by omega)
  rw [if_neg (show ¬ ¬ mz_rd m 22 3 = nI k from fun z => z (by rw [a.2.2.1, e])), e1, Option.bind_some] at x
  exact ⟨m', x, e2, e3⟩
theorem c_exN {d t k : Nat} {m : MzM} (h : zTok kd vl nm pl m) (a : zAl kd m t) (hk : k < 34) (e : kd t ≠ k) : ∃ m', R_X4_expect d (nI k) m = some m' ∧ zFr (fun a i => a = 22 ∧ 3 ≤ i ∧ i ≤ 5) m m' ∧ zDe m' 1 t := by
  have x := R_X4_expect_eq d (nI k) m
  obtain ⟨m', e1, e2, e3⟩ := c_fl (d := d) (f := 1) a (Or.inl rfl)
  have e1 : R_X4_fail d 1 m = some m' := e1
  rw [if_pos (show ¬ mz_rd m 22 3 = nI k from fun z => by rw [a.2.2.1] at z; have := (h.1 t).1; exact e ((nI_eq (by omega) (by omega)).mp z)), e1, Option.bind_some] at x
  exact ⟨m', x, e2, e3⟩
theorem c_exD {d f e k : Nat} {m : MzM} (a : zDe m f e) (k0 : k ≠ 0) (hk : k < 34) : ∃ m', R_X4_expect d (nI k) m = some m' ∧ zFr (fun a i => a = 22 ∧ i = 3) m m' ∧ zDe m' f e := by
  have x := R_X4_expect_eq d (nI k) m
  obtain ⟨m', e1, e2, e3⟩ := c_flD (d := d) (y := 1) a
  rw [if_pos (show ¬ mz_rd m 22 3 = nI k from fun z => by rw [a.2.2.1] at z; have := (nI_eq (a := 0) (b := k) (by omega) (by omega)).mp z; omega), e1, Option.bind_some] at x
  exact ⟨m', x, e2, e3⟩
theorem c_addSignD {d u : Nat} {y : Int32} {m : MzM} (h : mz_rd m 17 4 = nI u) (hu : u ≤ 404) : ∃ m', R_X2_addSign d 17 y m = some m' ∧ zFr zCW m m' ∧ ∃ u', u' ≤ 404 ∧ mz_rd m' 17 4 = nI u' := by
  have x := R_X2_addSign_eq d 17 y m z_w17
  by_cases c : u < 404
  · rw [c_addCell h c, Option.bind_some] at x
    exact ⟨_, x, zFr_w2 (zFr_w (Or.inl rfl)) (Or.inr ⟨rfl, rfl⟩), u + 1, by omega, m_eq⟩
  · have hu : u = 404 := by omega
    subst hu
    rw [c_addCellF h, Option.bind_some] at x
    exact ⟨_, x, zFr_r, 404, by omega, h⟩
theorem zDe_f {m m' : MzM} {f e : Nat} {F : Nat → Nat → Prop} (a : zDe m f e) (g : zFr F m m') (hF : ∀ a i, F a i → a ≠ 22) : zDe m' f e := by
  obtain ⟨a1, a2, a3, a4, a5⟩ := a
  have k : ∀ i, mz_rd m' 22 i = mz_rd m 22 i := fun i => g.1 22 i (fun z => hF _ _ z rfl)
  exact ⟨(k 4).trans a1, (k 5).trans a2, (k 3).trans a3, a4, a5.1, (k 2).trans a5.2⟩
theorem zAl_f {m m' : MzM} {t : Nat} {F : Nat → Nat → Prop} (a : zAl kd m t) (g : zFr F m m') (hF : ∀ a i, F a i → a ≠ 22) : zAl kd m' t := by
  obtain ⟨a1, a2, a3, a4⟩ := a
  have k : ∀ i, mz_rd m' 22 i = mz_rd m 22 i := fun i => g.1 22 i (fun z => hF _ _ z rfl)
  exact ⟨(k 4).trans a1, (k 2).trans a2, (k 3).trans a3, a4⟩
theorem zCW_n {a i : Nat} (h : zCW a i) : a ≠ 22 := by unfold zCW at h; omega
theorem zCW_x {a i : Nat} (h : zCW a i) : zCX a i := by unfold zCX; exact Or.inr h
/-- what a reading from u cells keeps -/
theorem zCR_app {m m1 m2 : MzM} {u t2 t3 : Nat} {P Q : ZP} (h1 : zCR kd m m1 u (.inr (t2, P))) (h2 : zCR kd m1 m2 (u + P.length) (.inr (t3, Q))) : zCR kd m m2 u (.inr (t3, P ++ Q)) := by
  obtain ⟨a1, a2, a3, a4⟩ := h1
  obtain ⟨b1, b2, b3, b4⟩ := h2
  refine ⟨b1, ?_, fun i c hi => ?_, fun i hi => ?_⟩
  · show mz_rd m2 17 4 = nI (u + (P ++ Q).length)
    rw [List.length_append, ← Nat.add_assoc]
    exact b2
  · have hi : (P ++ Q)[i]? = some c := hi
    by_cases q : i < P.length
    · rw [List.getElem?_append_left q] at hi
      exact (b4 _ (by omega)).trans (a3 i c hi)
    · rw [List.getElem?_append_right (by omega)] at hi
      have := b3 (i - P.length) c hi
      rw [show u + P.length + (i - P.length) = u + i by omega] at this
      exact this
  · exact (b4 i (by omega)).trans (a4 i hi)
theorem zCR_bad {m m1 m2 : MzM} {u w : Nat} {e : Nat × Nat} (h : zCR kd m1 m2 w (.inl e)) : zCR kd m m2 u (.inl e) := h
/-- a sign behind -/
theorem c_sgn {d u t : Nat} {m : MzM} (k : Nat) (h6 : 6 ≤ k) (h9 : k ≤ 9) (a : zAl kd m t) (h : mz_rd m 17 4 = nI u) (hu : u < 404) : ∃ m', R_X2_addSign d 17 (nI k) m = some m' ∧ zFr zCW m m' ∧ zCR kd m m' u (.inr (t, [(k - 4, 0)])) := by
  have x := c_addSign (d := d) (k := k - 4) (x := 0) h hu (by omega) (by omega)
  rw [show k - 4 + 4 = k by omega] at x
  have f : zFr zCW m (mz_wr (mz_wr m 18 u (nI (zenc (k - 4, 0)))) 17 4 (nI (u + 1))) := zFr_w2 (zFr_w (Or.inl rfl)) (Or.inr ⟨rfl, rfl⟩)
  refine ⟨_, x, f, zAl_f a f (fun _ _ => zCW_n), m_eq, fun i c hi => ?_, fun i hi => ?_⟩
  · have li : i < 1 := (List.getElem?_eq_some_iff.mp hi).1
    have : i = 0 := by omega
    subst this
    have hc : (k - 4, 0) = c := Option.some.inj hi
    rw [m_ne (by omega), ← hc]
    exact m_eq
  · rw [m_ne (by omega), m_ni (by omega)]
def zUnitP (kd vl nm pl : Nat → Nat) (d n : Nat) : Prop := ∀ m t u, zTok kd vl nm pl m → zAl kd m t → mz_rd m 17 4 = nI u → u ≤ t + 2 → ∃ R m', zG kd vl 0 n t R ∧ R_X4_readUnit d (nI n) m = some m' ∧ zFr zCX m m' ∧ zCR kd m m' u R
def zSumP (kd vl nm pl : Nat → Nat) (d n : Nat) : Prop := ∀ m t u, zTok kd vl nm pl m → zAl kd m t → mz_rd m 17 4 = nI u → u ≤ t + 2 → ∃ R m', zG kd vl 4 n t R ∧ R_X4_readSum d (nI n) m = some m' ∧ zFr zCX m m' ∧ zCR kd m m' u R
/-- behind a product -/
noncomputable def zEnd (d : Nat) (y1 y2 y4 : Int32) (m : MzM) : Option MzM := if y2 = (-1) then (if (mz_rd m 22 3) = 6 then ((R_X4_take d m).bind (fun m40 => H_X4_readSum_7 d y1 (mz_rd m 22 3) 0 (y4 + 1) m40)) else (if (mz_rd m 22 3) = 7 then ((R_X4_take d m).bind (fun m44 => H_X4_readSum_7 d y1 (mz_rd m 22 3) 0 (y4 + 1) m44)) else (H_X4_readSum_7 d y1 (mz_rd m 22 3) 1 (y4 + 1) m))) else ((R_X2_addSign d 17 y2 m).bind (fun m47 => if (mz_rd m47 22 3) = 6 then ((R_X4_take d m47).bind (fun m51 => H_X4_readSum_7 d y1 (mz_rd m47 22 3) 0 (y4 + 1) m51)) else (if (mz_rd m47 22 3) = 7 then ((R_X4_take d m47).bind (fun m55 => H_X4_readSum_7 d y1 (mz_rd m47 22 3) 0 (y4 + 1) m55)) else (H_X4_readSum_7 d y1 (mz_rd m47 22 3) 1 (y4 + 1) m47))))
theorem zEnd_w {d : Nat} {y1 y2 y4 : Int32} {m m1 : MzM} (h : R_X2_addSign d 17 y2 m = some m1) (n : ¬ y2 = -1) : zEnd d y1 y2 y4 m = zEnd d y1 (-1) y4 m1 := by
  unfold zEnd
  rw [if_neg n, if_pos rfl, h, Option.bind_some]
theorem zS7_1 {d : Nat} {y1 y2 y4 : Int32} {m : MzM} : H_X4_readSum_7 d y1 y2 1 y4 m = some m := by
  rw [H_X4_readSum_7_eq, if_pos (show ¬ (1 : Int32) = 0 by decide)]
  by_cases c : (400 : Int32) < y4
  · rw [if_pos c]
  · rw [if_neg c]
theorem zEnd_D1 {d f e : Nat} {y1 y4 : Int32} {m : MzM} (a : zDe m f e) : zEnd d y1 (-1) y4 m = some m := by
  unfold zEnd
  rw [if_pos rfl, a.2.2.1, if_neg (show ¬ (0 : Int32) = 6 by decide), if_neg (show ¬ (0 : Int32) = 7 by decide), zS7_1]
theorem zEnd_D {d f e u : Nat} {y1 y2 y4 : Int32} {m : MzM} (a : zDe m f e) (h : mz_rd m 17 4 = nI u) (hu : u ≤ 404) : ∃ m', zEnd d y1 y2 y4 m = some m' ∧ zFr zCW m m' ∧ zDe m' f e ∧ ∃ u', u' ≤ 404 ∧ mz_rd m' 17 4 = nI u' := by
  by_cases c : y2 = -1
  · subst c
    exact ⟨m, zEnd_D1 a, zFr_r, a, u, hu, h⟩
  · obtain ⟨m1, e1, f1, u1, k1, k2⟩ := c_addSignD (d := d) (y := y2) h hu
    have a1 := zDe_f a f1 (fun _ _ => zCW_n)
    exact ⟨m1, by rw [zEnd_w e1 c]; exact zEnd_D1 a1, f1, a1, u1, k1, k2⟩
theorem z27_end {d : Nat} {y1 y2 y4 y5 : Int32} {m : MzM} (h8 : ¬ mz_rd m 22 3 = 8) (h9 : ¬ mz_rd m 22 3 = 9) : H_X4_readSum_27 d y1 y2 y4 y5 m = zEnd d y1 y2 y4 m := by
  rw [H_X4_readSum_27_eq, if_neg h8, if_pos h9]
  unfold zEnd
  by_cases c : (400 : Int32) ≤ y5
  · rw [if_pos c]
  · rw [if_neg c]
theorem z27_D {d f e : Nat} {y1 y2 y4 y5 : Int32} {m : MzM} (a : zDe m f e) : H_X4_readSum_27 d y1 y2 y4 y5 m = zEnd d y1 y2 y4 m :=
  z27_end (by rw [a.2.2.1]; decide) (by rw [a.2.2.1]; decide)
theorem z27_go {d y5 k : Nat} {y1 y2 y4 : Int32} {m : MzM} (h5 : y5 < 400) (hk : mz_rd m 22 3 = nI k) (h : k = 8 ∨ k = 9) : H_X4_readSum_27 d y1 y2 y4 (nI y5) m = (R_X4_take d m).bind (fun m28 => (R_X4_readUnit d y1 m28).bind (fun m31 => (R_X2_addSign d 17 (nI k) m31).bind (fun m34 => H_X4_readSum_27 d y1 y2 y4 (nI (y5 + 1)) m34))) := by
  rw [H_X4_readSum_27_eq, if_neg (show ¬ (400 : Int32) ≤ nI y5 from nI_ge (b := 400) h5 (by omega)), hk, nI_1]
  rcases h with rfl | rfl
  · rw [if_pos (show nI 8 = (8 : Int32) from rfl)]
  · rw [if_neg (show ¬ nI 9 = (8 : Int32) by decide), if_neg (show ¬ ¬ nI 9 = (9 : Int32) from fun z => z rfl)]
theorem zAl_ne {m : MzM} {t : Nat} (h : zTok kd vl nm pl m) (a : zAl kd m t) {k : Nat} (hk : k < 34) (n : kd t ≠ k) : ¬ mz_rd m 22 3 = nI k := by
  rw [a.2.2.1]
  have := (h.1 t).1
  exact k_ne (by omega) (by omega) n
theorem zFx2 {m m' : MzM} (f : zFr (fun a i => a = 22 ∧ (i = 2 ∨ i = 3)) m m') : zFr zCX m m' := zFr_m f (fun a i z => by unfold zCX; omega)
theorem zFx3 {m m' : MzM} (f : zFr (fun a i => a = 22 ∧ 3 ≤ i ∧ i ≤ 5) m m') : zFr zCX m m' := zFr_m f (fun a i z => by unfold zCX; omega)
theorem zFx4 {m m' : MzM} (f : zFr (fun a i => a = 22 ∧ i = 3) m m') : zFr zCX m m' := zFr_m f (fun a i z => by unfold zCX; omega)
theorem zFxW {m m' : MzM} (f : zFr zCW m m') : zFr zCX m m' := zFr_m f (fun _ _ z => zCW_x z)
/-- the cells below stay where only the reader's own fields change -/
theorem zCR_pre {m m1 m2 : MzM} {u : Nat} {R : ZR} (f : ∀ i, mz_rd m1 18 i = mz_rd m 18 i) (h : zCR kd m1 m2 u R) : zCR kd m m2 u R := by
  match R, h with
  | .inl e, h => exact h
  | .inr q, h => exact ⟨h.1, h.2.1, h.2.2.1, fun i hi => (h.2.2.2 i hi).trans (f i)⟩
theorem c_ptail {d n : Nat} {y2 y4 : Int32} (hU : zUnitP kd vl nm pl d n) : ∀ k m t u y5, 402 - t ≤ k → zTok kd vl nm pl m → zAl kd m t → mz_rd m 17 4 = nI u → u ≤ t + 2 → 2 * y5 ≤ t → ∃ R m', zG kd vl 1 n t R ∧ H_X4_readSum_27 d (nI n) y2 y4 (nI y5) m = zEnd d (nI n) y2 y4 m' ∧ zFr zCX m m' ∧ zCR kd m m' u R := by
  intro k
  induction k with
  | zero =>
    intro m t u y5 hk h a hu hut h5
    have k0 : kd t = 0 := h.2.1 t (by omega)
    refine ⟨_, m, zG_m0 (j := 0) (by omega) (by unfold zop; omega), z27_end (zAl_ne h a (k := 8) (by omega) (by omega)) (zAl_ne h a (k := 9) (by omega) (by omega)), zFr_r, a, hu, fun i c hi => absurd (List.getElem?_eq_some_iff.mp hi).1 (by simp), fun _ _ => rfl⟩
  | succ k ih =>
    intro m t u y5 hk h a hu hut h5
    by_cases c : kd t = 8 ∨ kd t = 9
    · have ht : t < 402 := by
        rcases Nat.lt_or_ge t 402 with z | z
        · exact z
        · have := h.2.1 t z; omega
      obtain ⟨m1, e1, f1, a1⟩ := c_tk (d := d) h a (by omega)
      have g1 : ∀ i, mz_rd m1 18 i = mz_rd m 18 i := fun i => f1.1 _ _ (by omega)
      have u1 : mz_rd m1 17 4 = nI u := (f1.1 _ _ (by omega)).trans hu
      have t1 := zTok_x h (zFx2 f1)
      obtain ⟨R1, m2, r1, e2, f2, c2⟩ := hU m1 (t + 1) u t1 a1 u1 (by omega)
      have t2 := zTok_x t1 f2
      rw [z27_go (k := kd t) (by omega) a.2.2.1 c, e1, Option.bind_some, e2, Option.bind_some]
      match R1, r1, c2 with
      | .inl e, r1, c2 =>
        obtain ⟨d2, u2, q1, q2⟩ := c2
        obtain ⟨m3, e3, f3, u3, w1, w2⟩ := c_addSignD (d := d) (y := nI (kd t)) q2 q1
        have d3 := zDe_f d2 f3 (fun _ _ => zCW_n)
        rw [e3, Option.bind_some, z27_D d3]
        exact ⟨.inl e, m3, zG_m1 (j := 0) (Or.inl ⟨rfl, c⟩) r1, rfl, zFr_t (zFx2 f1) (zFr_t f2 (zFxW f3)), d3, u3, w1, w2⟩
      | .inr (t2', Q), r1, c2 =>
        have g2 := zG_f h.2.1 r1
        obtain ⟨p1, p2, p3⟩ := g2
        have p1 : t + 1 + Q.length ≤ t2' := p1
        have p3 : t + 1 ≤ 402 → t2' ≤ 402 := p3
        have p3 := p3 (by omega)
        have uq : mz_rd m2 17 4 = nI (u + Q.length) := c2.2.1
        obtain ⟨m3, e3, f3, c3⟩ := c_sgn (d := d) (kd t) (by omega) (by omega) c2.1 uq (by omega)
        have c12 := zCR_app (zCR_pre g1 c2) c3
        have t3 := zTok_x t2 (zFxW f3)
        obtain ⟨R4, m4, r4, e4, f4, c4⟩ := ih m3 t2' (u + (Q ++ [(kd t - 4, 0)]).length) (y5 + 1) (by omega) t3 c12.1 c12.2.1 (by rw [List.length_append]; show u + (Q.length + 1) ≤ t2' + 2; omega) (by omega)
        rw [e3, Option.bind_some, e4]
        match R4, r4, c4 with
        | .inl e, r4, c4 => exact ⟨.inl e, m4, zG_m2 (j := 0) (Or.inl ⟨rfl, c⟩) r1 r4, rfl, zFr_t (zFx2 f1) (zFr_t f2 (zFr_t (zFxW f3) f4)), c4⟩
        | .inr (t4, S), r4, c4 =>
          have c5 := zCR_app c12 c4
          rw [List.append_assoc] at c5
          exact ⟨.inr (t4, Q ++ (kd t - 4, 0) :: S), m4, zG_m (j := 0) (Or.inl ⟨rfl, c⟩) r1 r4, rfl, zFr_t (zFx2 f1) (zFr_t f2 (zFr_t (zFxW f3) f4)), c5⟩
    · refine ⟨_, m, zG_m0 (j := 0) (by omega) (by unfold zop; omega), z27_end (zAl_ne h a (k := 8) (by omega) (by omega)) (zAl_ne h a (k := 9) (by omega) (by omega)), zFr_r, a, hu, fun i c hi => absurd (List.getElem?_eq_some_iff.mp hi).1 (by simp), fun _ _ => rfl⟩
/-- a product from a unit due, up to its end -/
theorem c_prod {d n : Nat} {y2 y4 : Int32} (hU : zUnitP kd vl nm pl d n) {m : MzM} {t u : Nat} (h : zTok kd vl nm pl m) (a : zAl kd m t) (hu : mz_rd m 17 4 = nI u) (hut : u ≤ t + 2) : ∃ R m', zG kd vl 2 n t R ∧ ((R_X4_readUnit d (nI n) m).bind (fun m3 => H_X4_readSum_27 d (nI n) y2 y4 0 m3)) = zEnd d (nI n) y2 y4 m' ∧ zFr zCX m m' ∧ zCR kd m m' u R := by
  obtain ⟨R1, m2, r1, e2, f2, c2⟩ := hU m t u h a hu hut
  have t2 := zTok_x h f2
  rw [e2, Option.bind_some]
  match R1, r1, c2 with
  | .inl e, r1, c2 =>
    rw [z27_D c2.1]
    exact ⟨.inl e, m2, zG_a1 (j := 0) (by omega) r1, rfl, f2, c2⟩
  | .inr (t2', Q), r1, c2 =>
    have g2 := zG_f h.2.1 r1
    obtain ⟨p1, p2, p3⟩ := g2
    have p1 : t + Q.length ≤ t2' := p1
    have p3 : t ≤ 402 → t2' ≤ 402 := p3
    have p3 := p3 a.2.2.2
    obtain ⟨R4, m4, r4, e4, f4, c4⟩ := c_ptail (y2 := y2) (y4 := y4) hU (402 - t2') m2 t2' (u + Q.length) 0 (Nat.le_refl _) t2 c2.1 c2.2.1 (by omega) (by omega)
    have e4 : H_X4_readSum_27 d (nI n) y2 y4 0 m2 = _ := e4
    rw [e4]
    match R4, r4, c4 with
    | .inl e, r4, c4 => exact ⟨.inl e, m4, zG_a2 (j := 0) (by omega) r1 r4, rfl, zFr_t f2 f4, c4⟩
    | .inr (t4, S), r4, c4 => exact ⟨.inr (t4, Q ++ S), m4, zG_a (j := 0) (by omega) r1 r4, rfl, zFr_t f2 f4, zCR_app c2 c4⟩
theorem zEnd_stop {d n t : Nat} {y4 : Int32} {m : MzM} (h : zTok kd vl nm pl m) (a : zAl kd m t) (c : ¬ (kd t = 6 ∨ kd t = 7)) : zEnd d (nI n) (-1) y4 m = some m := by
  unfold zEnd
  rw [if_pos rfl, if_neg (show ¬ mz_rd m 22 3 = 6 from zAl_ne h a (k := 6) (by omega) (by omega)), if_neg (show ¬ mz_rd m 22 3 = 7 from zAl_ne h a (k := 7) (by omega) (by omega)), zS7_1]
theorem zEnd_go {d n t y4 : Nat} {m m1 : MzM} (a : zAl kd m t) (c : kd t = 6 ∨ kd t = 7) (e : R_X4_take d m = some m1) (h4 : y4 < 400) : zEnd d (nI n) (-1) (nI y4) m = (R_X4_readUnit d (nI n) m1).bind (fun m3 => H_X4_readSum_27 d (nI n) (nI (kd t)) (nI (y4 + 1)) 0 m3) := by
  have x : H_X4_readSum_7 d (nI n) (nI (kd t)) 0 (nI (y4 + 1)) m1 = (R_X4_readUnit d (nI n) m1).bind (fun m3 => H_X4_readSum_27 d (nI n) (nI (kd t)) (nI (y4 + 1)) 0 m3) := by
    rw [H_X4_readSum_7_eq, if_neg (show ¬ (400 : Int32) < nI (y4 + 1) from nI_nlt (a := 400) (by omega) (by omega)), if_neg (show ¬ ¬ (0 : Int32) = 0 from fun z => z rfl)]
  rw [← x]
  unfold zEnd
  rw [if_pos rfl, a.2.2.1, e, Option.bind_some, nI_1]
  rcases c with c | c
  · rw [c, if_pos (show nI 6 = (6 : Int32) from rfl)]
  · rw [c, if_neg (show ¬ nI 7 = (6 : Int32) by decide), if_pos (show nI 7 = (7 : Int32) from rfl)]
theorem c_stail {d n : Nat} (hU : zUnitP kd vl nm pl d n) : ∀ k m t u y4, 402 - t ≤ k → zTok kd vl nm pl m → zAl kd m t → mz_rd m 17 4 = nI u → u ≤ t + 2 → 2 * y4 ≤ t → ∃ R m', zG kd vl 3 n t R ∧ zEnd d (nI n) (-1) (nI y4) m = some m' ∧ zFr zCX m m' ∧ zCR kd m m' u R := by
  intro k
  induction k with
  | zero =>
    intro m t u y4 hk h a hu hut h4
    have k0 : kd t = 0 := h.2.1 t (by omega)
    exact ⟨_, m, zG_m0 (j := 1) (by omega) (by unfold zop; omega), zEnd_stop h a (by omega), zFr_r, a, hu, fun i c hi => absurd (List.getElem?_eq_some_iff.mp hi).1 (by simp), fun _ _ => rfl⟩
  | succ k ih =>
    intro m t u y4 hk h a hu hut h4
    by_cases c : kd t = 6 ∨ kd t = 7
    · have ht : t < 402 := by
        rcases Nat.lt_or_ge t 402 with z | z
        · exact z
        · have := h.2.1 t z; omega
      obtain ⟨m1, e1, f1, a1⟩ := c_tk (d := d) h a (by omega)
      have g1 : ∀ i, mz_rd m1 18 i = mz_rd m 18 i := fun i => f1.1 _ _ (by omega)
      have u1 : mz_rd m1 17 4 = nI u := (f1.1 _ _ (by omega)).trans hu
      have t1 := zTok_x h (zFx2 f1)
      obtain ⟨R1, m2, r1, e2, f2, c2⟩ := c_prod (y2 := nI (kd t)) (y4 := nI (y4 + 1)) hU t1 a1 u1 (by omega)
      have t2 := zTok_x t1 f2
      rw [zEnd_go a c e1 (by omega), e2]
      have y1 : ¬ nI (kd t) = -1 := by
        rcases c with c | c
        · rw [c]; decide
        · rw [c]; decide
      match R1, r1, c2 with
      | .inl e, r1, c2 =>
        obtain ⟨d2, u2, q1, q2⟩ := c2
        obtain ⟨m3, e3, f3, d3, u3⟩ := zEnd_D (d := d) (y1 := nI n) (y2 := nI (kd t)) (y4 := nI (y4 + 1)) d2 q2 q1
        exact ⟨.inl e, m3, zG_m1 (j := 1) (Or.inr ⟨rfl, c⟩) r1, e3, zFr_t (zFx2 f1) (zFr_t f2 (zFxW f3)), d3, u3⟩
      | .inr (t2', Q), r1, c2 =>
        have g2 := zG_f h.2.1 r1
        obtain ⟨p1, p2, p3⟩ := g2
        have p1 : t + 1 + Q.length ≤ t2' := p1
        have p2 : 2 % 2 = 0 → t + 1 < t2' := p2
        have p2 := p2 rfl
        have p3 : t + 1 ≤ 402 → t2' ≤ 402 := p3
        have p3 := p3 (by omega)
        have uq : mz_rd m2 17 4 = nI (u + Q.length) := c2.2.1
        obtain ⟨m3, e3, f3, c3⟩ := c_sgn (d := d) (kd t) (by omega) (by omega) c2.1 uq (by omega)
        have c12 := zCR_app (zCR_pre g1 c2) c3
        have t3 := zTok_x t2 (zFxW f3)
        obtain ⟨R4, m4, r4, e4, f4, c4⟩ := ih m3 t2' (u + (Q ++ [(kd t - 4, 0)]).length) (y4 + 1) (by omega) t3 c12.1 c12.2.1 (by rw [List.length_append]; show u + (Q.length + 1) ≤ t2' + 2; omega) (by omega)
        rw [zEnd_w e3 y1, e4]
        match R4, r4, c4 with
        | .inl e, r4, c4 => exact ⟨.inl e, m4, zG_m2 (j := 1) (Or.inr ⟨rfl, c⟩) r1 r4, rfl, zFr_t (zFx2 f1) (zFr_t f2 (zFr_t (zFxW f3) f4)), c4⟩
        | .inr (t4, S), r4, c4 =>
          have c5 := zCR_app c12 c4
          rw [List.append_assoc] at c5
          exact ⟨.inr (t4, Q ++ (kd t - 4, 0) :: S), m4, zG_m (j := 1) (Or.inr ⟨rfl, c⟩) r1 r4, rfl, zFr_t (zFx2 f1) (zFr_t f2 (zFr_t (zFxW f3) f4)), c5⟩
    · exact ⟨_, m, zG_m0 (j := 1) (by omega) (by unfold zop; omega), zEnd_stop h a c, zFr_r, a, hu, fun i c hi => absurd (List.getElem?_eq_some_iff.mp hi).1 (by simp), fun _ _ => rfl⟩
theorem c_sum {d n : Nat} (hU : zUnitP kd vl nm pl d n) : zSumP kd vl nm pl d n := by
  intro m t u h a hu hut
  have x := R_X4_readSum_eq d (nI n) m
  rw [H_X4_readSum_7_eq, if_neg (show ¬ (400 : Int32) < 0 by decide), if_neg (show ¬ ¬ (0 : Int32) = 0 from fun z => z rfl)] at x
  obtain ⟨R1, m2, r1, e2, f2, c2⟩ := c_prod (y2 := -1) (y4 := 0) hU h a hu hut
  rw [x, e2]
  match R1, r1, c2 with
  | .inl e, r1, c2 => exact ⟨.inl e, m2, zG_a1 (j := 1) (by omega) r1, zEnd_D1 c2.1, f2, c2⟩
  | .inr (t2', Q), r1, c2 =>
    have g2 := zG_f h.2.1 r1
    obtain ⟨p1, p2, p3⟩ := g2
    have p1 : t + Q.length ≤ t2' := p1
    obtain ⟨R4, m4, r4, e4, f4, c4⟩ := c_stail hU (402 - t2') m2 t2' (u + Q.length) 0 (Nat.le_refl _) (zTok_x h f2) c2.1 c2.2.1 (by omega) (by omega)
    have e4 : zEnd d (nI n) (-1) 0 m2 = some m4 := e4
    rw [e4]
    match R4, r4, c4 with
    | .inl e, r4, c4 => exact ⟨.inl e, m4, zG_a2 (j := 1) (by omega) r1 r4, rfl, zFr_t f2 f4, c4⟩
    | .inr (t4, S), r4, c4 => exact ⟨.inr (t4, Q ++ S), m4, zG_a (j := 1) (by omega) r1 r4, rfl, zFr_t f2 f4, zCR_app c2 c4⟩
theorem c_val {d t : Nat} {m : MzM} (h : zTok kd vl nm pl m) (k : kd t = 3) : R_X9_value d (nI t) m = some (lN (vl t), m) := by
  obtain ⟨sz, s1, s2, s3, s4, s5⟩ := zTok_sz h (t := t) (by omega)
  rw [R_X9_value_eq, if_neg (nI_pos (by omega)), s2, if_neg (nI_ge s3 (by omega)), n_ok (by omega), n_gd (by omega), nI_clamp (by omega), (s5 t s3).2.2.1 k]
theorem c_valN {d t : Nat} {m : MzM} (h : zTok kd vl nm pl m) (k : kd t = 2) : R_X9_value d (nI t) m = some (lN (nm t), m) := by
  obtain ⟨sz, s1, s2, s3, s4, s5⟩ := zTok_sz h (t := t) (by omega)
  rw [R_X9_value_eq, if_neg (nI_pos (by omega)), s2, if_neg (nI_ge s3 (by omega)), n_ok (by omega), n_gd (by omega), nI_clamp (by omega), (s5 t s3).2.2.2 k]
/-- a cell laid, then a token taken -/
theorem c_cellT {d t u : Nat} {m m1 : MzM} {c : Nat × Nat} (h : zTok kd vl nm pl m) (a : zAl kd m t) (k : kd t ≠ 0) (hm : m1 = mz_wr (mz_wr m 18 u (nI (zenc c))) 17 4 (nI (u + 1))) : ∃ m', R_X4_take d m1 = some m' ∧ zFr zCX m m' ∧ zCR kd m m' u (.inr (t + 1, [c])) := by
  have f1 : zFr zCW m m1 := by rw [hm]; exact zFr_w2 (zFr_w (Or.inl rfl)) (Or.inr ⟨rfl, rfl⟩)
  obtain ⟨m2, e2, f2, a2⟩ := c_tk (d := d) (zTok_x h (zFxW f1)) (zAl_f a f1 (fun _ _ => zCW_n)) k
  refine ⟨m2, e2, zFr_t (zFxW f1) (zFx2 f2), a2, ?_, fun i c' hi => ?_, fun i hi => ?_⟩
  · rw [f2.1 _ _ (by omega), hm, m_eq]
    rfl
  · have li : i < 1 := (List.getElem?_eq_some_iff.mp hi).1
    have : i = 0 := by omega
    subst this
    have hc : c = c' := Option.some.inj hi
    rw [f2.1 _ _ (by omega), hm, m_ne (by omega), ← hc]
    exact m_eq
  · rw [f2.1 _ _ (by omega), hm, m_ne (by omega), m_ni (by omega)]
theorem c_unit : ∀ q n d, n + q = 6 → q < d → zUnitP kd vl nm pl d n := by
  intro q
  induction q with
  | zero =>
    intro n d hn hd m t u h a hu hut
    obtain ⟨d', rfl⟩ : ∃ d', d = d' + 1 := ⟨d - 1, by omega⟩
    have x := R_X4_readUnit_eq d' (nI n) m
    have b := (h.1 t).1
    by_cases c3 : kd t = 3
    · have ht : t < 402 := by
        rcases Nat.lt_or_ge t 402 with z | z
        · exact z
        · have := h.2.1 t z; omega
      rw [if_neg (show ¬ ¬ mz_rd m 22 3 = 3 from fun z => z (by rw [a.2.2.1, c3]; rfl)), a.2.1, c_val h c3, Option.bind_some] at x
      dsimp only at x
      rw [lN_i, c_addInt hu (by omega), Option.bind_some] at x
      obtain ⟨m', e1, f1, r1⟩ := c_cellT (d := d' + 1) (c := (0, vl t)) h a (by omega) rfl
      rw [e1, Option.bind_some] at x
      exact ⟨_, m', zG_i c3, x, f1, r1⟩
    · rw [if_pos (show ¬ mz_rd m 22 3 = 3 from zAl_ne h a (k := 3) (by omega) c3)] at x
      by_cases cv : 25 ≤ kd t ∧ kd t ≤ 33
      · have ht : t < 402 := by
          rcases Nat.lt_or_ge t 402 with z | z
          · exact z
          · have := h.2.1 t z; omega
        rw [a.2.2.1, if_neg (show ¬ nI (kd t) < 25 from nI_nlt (b := 25) cv.1 (by omega)), if_neg (show ¬ (33 : Int32) < nI (kd t) from nI_nlt (a := 33) cv.2 (by omega)), show nI (kd t) - 25 = nI (kd t - 25) from pk_sub (b := 25) cv.1, c_addVar hu (by omega), Option.bind_some] at x
        obtain ⟨m', e1, f1, r1⟩ := c_cellT (d := d' + 1) (c := (1, kd t - 25)) h a (by omega) rfl
        rw [e1, Option.bind_some] at x
        exact ⟨_, m', zG_v cv.1 cv.2, x, f1, r1⟩
      · by_cases c11 : kd t = 11
        · obtain ⟨m', e1, f1, r1⟩ := c_fl (d := d' + 1) (f := 2) a (Or.inr rfl)
          have e1 : R_X4_fail (d' + 1) 2 m = some m' := e1
          rw [a.2.2.1, if_pos (show nI (kd t) < 25 from nI_lt (b := 25) (by omega) (by omega)), if_neg (show ¬ ¬ nI (kd t) = 11 from fun z => z (by rw [c11]; rfl)), if_neg (show ¬ nI n < 6 from nI_nlt (b := 6) (by omega) (by omega)), e1, Option.bind_some] at x
          exact ⟨_, m', zG_r c11 (by omega), x, zFx3 f1, r1, u, by have := a.2.2.2; omega, (f1.1 _ _ (by omega)).trans hu⟩
        · obtain ⟨m', e1, f1, r1⟩ := c_fl (d := d' + 1) (f := 1) a (Or.inl rfl)
          have e1 : R_X4_fail (d' + 1) 1 m = some m' := e1
          have k11 : ¬ nI (kd t) = 11 := by have := zAl_ne h a (k := 11) (by omega) c11; rw [a.2.2.1] at this; exact this
          refine ⟨_, m', zG_x c3 cv c11, ?_, zFx3 f1, r1, u, by have := a.2.2.2; omega, (f1.1 _ _ (by omega)).trans hu⟩
          by_cases c : nI (kd t) < 25
          · rw [a.2.2.1, if_pos c, if_pos k11, if_pos k11, e1, Option.bind_some] at x
            exact x
          · rw [a.2.2.1, if_neg c, if_pos (show (33 : Int32) < nI (kd t) from nI_lt (a := 33) (by have : ¬ kd t < 25 := fun z => c (nI_lt (b := 25) z (by omega)); omega) (by omega)), if_pos k11, if_pos k11, e1, Option.bind_some] at x
            exact x
  | succ q ih =>
    intro n d hn hd m t u h a hu hut
    obtain ⟨d', rfl⟩ : ∃ d', d = d' + 1 := ⟨d - 1, by omega⟩
    have x := R_X4_readUnit_eq d' (nI n) m
    have b := (h.1 t).1
    by_cases c3 : kd t = 3
    · have ht : t < 402 := by
        rcases Nat.lt_or_ge t 402 with z | z
        · exact z
        · have := h.2.1 t z; omega
      rw [if_neg (show ¬ ¬ mz_rd m 22 3 = 3 from fun z => z (by rw [a.2.2.1, c3]; rfl)), a.2.1, c_val h c3, Option.bind_some] at x
      dsimp only at x
      rw [lN_i, c_addInt hu (by omega), Option.bind_some] at x
      obtain ⟨m', e1, f1, r1⟩ := c_cellT (d := d' + 1) (c := (0, vl t)) h a (by omega) rfl
      rw [e1, Option.bind_some] at x
      exact ⟨_, m', zG_i c3, x, f1, r1⟩
    · rw [if_pos (show ¬ mz_rd m 22 3 = 3 from zAl_ne h a (k := 3) (by omega) c3)] at x
      by_cases cv : 25 ≤ kd t ∧ kd t ≤ 33
      · have ht : t < 402 := by
          rcases Nat.lt_or_ge t 402 with z | z
          · exact z
          · have := h.2.1 t z; omega
        rw [a.2.2.1, if_neg (show ¬ nI (kd t) < 25 from nI_nlt (b := 25) cv.1 (by omega)), if_neg (show ¬ (33 : Int32) < nI (kd t) from nI_nlt (a := 33) cv.2 (by omega)), show nI (kd t) - 25 = nI (kd t - 25) from pk_sub (b := 25) cv.1, c_addVar hu (by omega), Option.bind_some] at x
        obtain ⟨m', e1, f1, r1⟩ := c_cellT (d := d' + 1) (c := (1, kd t - 25)) h a (by omega) rfl
        rw [e1, Option.bind_some] at x
        exact ⟨_, m', zG_v cv.1 cv.2, x, f1, r1⟩
      · by_cases c11 : kd t = 11
        · have ht : t < 402 := by
            rcases Nat.lt_or_ge t 402 with z | z
            · exact z
            · have := h.2.1 t z; omega
          obtain ⟨m1, e1, f1, a1⟩ := c_tk (d := d' + 1) h a (by omega)
          have g1 : ∀ i, mz_rd m1 18 i = mz_rd m 18 i := fun i => f1.1 _ _ (by omega)
          have t1 := zTok_x h (zFx2 f1)
          obtain ⟨R1, m2, r1, e2, f2, c2⟩ := c_sum (ih (n + 1) d' (by omega) (by omega)) m1 (t + 1) u t1 a1 ((f1.1 _ _ (by omega)).trans hu) (by omega)
          have t2 := zTok_x t1 f2
          have k11 : nI (kd t) = 11 := by rw [c11]; rfl
          rw [a.2.2.1, if_pos (show nI (kd t) < 25 from nI_lt (b := 25) (by omega) (by omega)), if_neg (show ¬ ¬ nI (kd t) = 11 from fun z => z k11), if_pos (show nI n < 6 from nI_lt (b := 6) (by omega) (by omega)), if_neg (show ¬ ¬ nI (kd t) = 11 from fun z => z k11), e1, Option.bind_some, nI_1, e2, Option.bind_some] at x
          match R1, r1, c2 with
          | .inl e, r1, c2 =>
            obtain ⟨d2, u2, q1, q2⟩ := c2
            obtain ⟨m3, e3, f3, d3⟩ := c_exD (d := d' + 1) (k := 12) d2 (by omega) (by omega)
            have e3 : R_X4_expect (d' + 1) 12 m2 = some m3 := e3
            rw [e3, Option.bind_some] at x
            exact ⟨.inl e, m3, zG_p2 c11 (by omega) r1, x, zFr_t (zFx2 f1) (zFr_t f2 (zFx4 f3)), d3, u2, q1, (f3.1 _ _ (by omega)).trans q2⟩
          | .inr (t2', Q), r1, c2 =>
            have c2' := zCR_pre g1 c2
            by_cases c12 : kd t2' = 12
            · obtain ⟨m3, e3, f3, d3⟩ := c_ex (d := d' + 1) (k := 12) t2 c2.1 (by omega) c12
              have e3 : R_X4_expect (d' + 1) 12 m2 = some m3 := e3
              rw [e3, Option.bind_some] at x
              refine ⟨.inr (t2' + 1, Q), m3, zG_p c11 (by omega) r1 c12, x, zFr_t (zFx2 f1) (zFr_t f2 (zFx2 f3)), d3, (f3.1 _ _ (by omega)).trans c2'.2.1, fun i c hi => (f3.1 _ _ (by omega)).trans (c2'.2.2.1 i c hi), fun i hi => (f3.1 _ _ (by omega)).trans (c2'.2.2.2 i hi)⟩
            · obtain ⟨m3, e3, f3, d3⟩ := c_exN (d := d' + 1) (k := 12) t2 c2.1 (by omega) c12
              have e3 : R_X4_expect (d' + 1) 12 m2 = some m3 := e3
              rw [e3, Option.bind_some] at x
              have g2 := zG_f h.2.1 r1
              obtain ⟨p1, p2, p3⟩ := g2
              have p1 : t + 1 + Q.length ≤ t2' := p1
              have p3 : t + 1 ≤ 402 → t2' ≤ 402 := p3
              have p3 := p3 (by omega)
              exact ⟨.inl (1, t2'), m3, zG_p1 c11 (by omega) r1 c12, x, zFr_t (zFx2 f1) (zFr_t f2 (zFx3 f3)), d3, u + Q.length, by omega, (f3.1 _ _ (by omega)).trans c2'.2.1⟩
        · obtain ⟨m', e1, f1, r1⟩ := c_fl (d := d' + 1) (f := 1) a (Or.inl rfl)
          have e1 : R_X4_fail (d' + 1) 1 m = some m' := e1
          have k11 : ¬ nI (kd t) = 11 := by have := zAl_ne h a (k := 11) (by omega) c11; rw [a.2.2.1] at this; exact this
          refine ⟨_, m', zG_x c3 cv c11, ?_, zFx3 f1, r1, u, by have := a.2.2.2; omega, (f1.1 _ _ (by omega)).trans hu⟩
          by_cases c : nI (kd t) < 25
          · rw [a.2.2.1, if_pos c, if_pos k11, if_pos k11, e1, Option.bind_some] at x
            exact x
          · rw [a.2.2.1, if_neg c, if_pos (show (33 : Int32) < nI (kd t) from nI_lt (a := 33) (by have : ¬ kd t < 25 := fun z => c (nI_lt (b := 25) z (by omega)); omega) (by omega)), if_pos k11, if_pos k11, e1, Option.bind_some] at x
            exact x
theorem c_sumT : zSumP kd vl nm pl 8 0 := c_sum (c_unit 6 0 8 (by omega) (by omega))
/-- a sum where nothing is read any more -/
theorem c_unitD {d f e : Nat} {y : Int32} {m : MzM} (a : zDe m f e) : ∃ m', R_X4_readUnit (d + 1) y m = some m' ∧ zFr (fun a i => a = 22 ∧ i = 3) m m' ∧ zDe m' f e := by
  obtain ⟨m1, e1, f1, a1⟩ := c_flD (d := d + 1) (y := 1) a
  have x := R_X4_readUnit_eq d y m
  rw [a.2.2.1, if_pos (show ¬ (0 : Int32) = 3 by decide), if_pos (show (0 : Int32) < 25 by decide), if_pos (show ¬ (0 : Int32) = 11 by decide), if_pos (show ¬ (0 : Int32) = 11 by decide), e1, Option.bind_some] at x
  exact ⟨m1, x, f1, a1⟩
theorem c_sumD {d f e u : Nat} {y : Int32} {m : MzM} (a : zDe m f e) (h : mz_rd m 17 4 = nI u) (hu : u ≤ 404) : ∃ m', R_X4_readSum (d + 1) y m = some m' ∧ zFr zCX m m' ∧ zDe m' f e ∧ ∃ u', u' ≤ 404 ∧ mz_rd m' 17 4 = nI u' := by
  obtain ⟨m1, e1, f1, a1⟩ := c_unitD (d := d) (y := y) a
  have x := R_X4_readSum_eq (d + 1) y m
  rw [H_X4_readSum_7_eq, if_neg (show ¬ (400 : Int32) < 0 by decide), if_neg (show ¬ ¬ (0 : Int32) = 0 from fun z => z rfl), e1, Option.bind_some, z27_D a1, zEnd_D1 a1] at x
  exact ⟨m1, x, zFx4 f1, a1, u, hu, (f1.1 _ _ (by omega)).trans h⟩
end ZCexp
