/-! what is told, one after the other: the class, all of it -/
def zRun (kd vl nm : Nat → Nat) : Nat → ZX → Nat → ZA → ZX → Prop
  | 0, S, t, A, S' => kd t = 0 ∧ A = .inr t ∧ S' = S
  | k + 1, S, t, A, S' => kd t ≠ 0 ∧ ∃ A1 S1, zTl kd vl nm S t A1 S1 ∧ ((∃ e, A1 = .inl e ∧ A = .inl e) ∨ ∃ t1, A1 = .inr t1 ∧ zRun kd vl nm k S1 t1 A S')
section ZCrun
variable {kd vl nm pl : Nat → Nat}
theorem zcn_s {t : Nat} (k : kd t ≠ 0) : zcnA kd t (.inr (t + 1)) := ⟨by show t ≤ t + 1; omega, fun i p q => by
  have q : i < t + 1 := q
  have : i = t := by omega
  subst this
  exact k⟩
theorem zTl_c {S S' : ZX} {t : Nat} {A : ZA} (h : zTl kd vl nm S t A S') : zcnA kd t A := by
  rcases h with ⟨k, _, e⟩ | ⟨k, _, e, _⟩ | ⟨k, _, e⟩ | ⟨k, _, e, _⟩ | ⟨w, _, k, e, _⟩ | ⟨k, ts, last, _, kk, e, _⟩ | ⟨k, e⟩
  · rw [e]; exact zcn_0
  · rw [e]; exact zcn_ex (by omega) (zcn_it _ _ _ (zcn_ex (by omega) (zcn_s (by omega))))
  · rw [e]; exact zcn_0
  · rw [e]; exact zcn_ex (by omega) (zcn_ex (by omega) (zcn_ex (by omega) (zcn_ex (by omega) (zcn_ex (by omega) (zcn_s (by omega))))))
  · rw [e]; exact zcn_ex (by omega) (zcn_ex (by omega) (zcn_s (by omega)))
  · exact zcn_ll 4 t _ _ ts last (zcn_ex (by omega) (zcn_s (by omega))) e
  · rw [e]; exact zcn_0
theorem zTl_2 {S S' : ZX} {t t' : Nat} {A : ZA} (h : zTl kd vl nm S t A S') (e : A = .inr t') : t + 2 ≤ t' := by
  subst e
  rcases h with ⟨k, _, e⟩ | ⟨k, _, e, _⟩ | ⟨k, _, e⟩ | ⟨k, _, e, _⟩ | ⟨w, _, k, e, _⟩ | ⟨k, ts, last, _, kk, e, _⟩ | ⟨k, e⟩
  · exact absurd e (by simp)
  · obtain ⟨s1, q1, _, r1⟩ := zex_r e.symm
    obtain ⟨s2, q2, r2, _⟩ := zit_r _ _ _ q1
    obtain ⟨s3, q3, _, r3⟩ := zex_r q2
    have : t + 1 = s3 := Sum.inr.inj q3
    omega
  · exact absurd e (by simp)
  · obtain ⟨s1, q1, _, r1⟩ := zex_r e.symm
    obtain ⟨s2, q2, _, r2⟩ := zex_r q1
    obtain ⟨s3, q3, _, r3⟩ := zex_r q2
    obtain ⟨s4, q4, _, r4⟩ := zex_r q3
    obtain ⟨s5, q5, _, r5⟩ := zex_r q4
    have : t + 1 = s5 := Sum.inr.inj q5
    omega
  · obtain ⟨s1, q1, _, r1⟩ := zex_r e.symm
    obtain ⟨s2, q2, _, r2⟩ := zex_r q1
    have : t + 1 = s2 := Sum.inr.inj q2
    omega
  · match hq : zex kd 5 (.inr (t + 1)), e with
    | .inl f, e => exact absurd (zLl_d e) (by simp)
    | .inr s, e =>
      obtain ⟨s2, q2, _, r2⟩ := zex_r hq
      have : t + 1 = s2 := Sum.inr.inj q2
      have := (zcn_ll 4 s _ _ ts last zcn_0 e).1
      have : s ≤ t' := this
      omega
  · exact absurd e (by simp)
theorem zRun_c : ∀ (k : Nat) (S S' : ZX) (t : Nat) (A : ZA), zRun kd vl nm k S t A S' → zcnA kd t A := by
  intro k
  induction k with
  | zero => intro S S' t A h; rw [h.2.1]; exact zcn_0
  | succ k ih =>
    intro S S' t A h
    obtain ⟨_, A1, S1, g, h⟩ := h
    have c := zTl_c g
    rcases h with ⟨e, h1, h2⟩ | ⟨t1, h1, h2⟩
    · rw [h2, ← h1]; exact c
    · have c2 := ih S1 S' t1 A h2
      rw [h1] at c
      refine ⟨Nat.le_trans c.1 c2.1, fun i p q => ?_⟩
      rcases Nat.lt_or_ge i t1 with z | z
      · exact c.2 i p z
      · exact c2.2 i z q
theorem zRun_e : ∀ (k : Nat) (S S' : ZX) (t t' : Nat) (A : ZA), zRun kd vl nm k S t A S' → A = .inr t' → kd t' = 0 := by
  intro k
  induction k with
  | zero =>
    intro S S' t t' A h e
    rw [h.2.1] at e
    have : t = t' := Sum.inr.inj e
    rw [← this]; exact h.1
  | succ k ih =>
    intro S S' t t' A h e
    obtain ⟨_, A1, S1, g, h⟩ := h
    rcases h with ⟨f, h1, h2⟩ | ⟨t1, h1, h2⟩
    · rw [h2] at e; exact absurd e (by simp)
    · exact ih S1 S' t1 t' A h2 e
theorem zTe {y : Int32} {m m' : MzM} (h : R_X4_expect 8 4 m = some m') : (R_X4_expect 8 (nI 4) m).bind (fun m => some m) = some m' := by
  have h : R_X4_expect 8 (nI 4) m = some m' := h
  rw [h, Option.bind_some]
/-- the tells that are no law -/
theorem c_sw {t : Nat} {m : MzM} (h : zTok kd vl nm pl m) (a : zAl kd m t) (k : ¬ (15 ≤ kd t ∧ kd t ≤ 18)) : R_X4_readTell 8 m = (if nI (kd t) = 13 then ((R_X4_readPerson 8 m).bind (fun m3 => (R_X4_expect 8 4 m3).bind (fun m6 => some m6))) else if nI (kd t) = 14 then ((R_X4_readSuit 8 m).bind (fun m10 => (R_X4_expect 8 4 m10).bind (fun m13 => some m13))) else if nI (kd t) = 19 then ((R_X4_take 8 m).bind (fun m17 => (R_X4_readInt 8 1 9 m17).bind (fun u22 => (R_X4_expect 8 4 (mz_wr u22.2 13 6 u22.1)).bind (fun m23 => some m23)))) else if nI (kd t) = 20 then ((R_X4_take 8 m).bind (fun m27 => (R_X4_readInt 8 0 100 m27).bind (fun u32 => (R_X4_expect 8 4 (mz_wr u32.2 13 7 u32.1)).bind (fun m33 => some m33)))) else if nI (kd t) = 21 then ((R_X4_take 8 m).bind (fun m37 => (R_X4_readInt 8 0 9999 m37).bind (fun u42 => (R_X4_expect 8 4 (mz_wr u42.2 13 8 u42.1)).bind (fun m43 => some m43)))) else ((R_X4_fail 8 1 m).bind (fun m46 => (R_X4_expect 8 4 m46).bind (fun m49 => some m49)))) := by
  have b := (h.1 t).1
  rw [R_X4_readTell_eq, a.2.2.1]
  by_cases c : kd t < 15
  · rw [if_pos (show nI (kd t) < 15 from nI_lt (b := 15) c (by omega))]
  · rw [if_neg (show ¬ nI (kd t) < 15 from nI_nlt (b := 15) (by omega) (by omega)), if_pos (show (18 : Int32) < nI (kd t) from nI_lt (a := 18) (by omega) (by omega))]
theorem zXC_22 {m m' : MzM} {t t' : Nat} {S : ZX} {LF : Nat × Nat} (x : zXC kd nm m t S) (l : t ≤ t') (w : ∀ a i, a ≠ 22 → mz_rd m' a i = mz_rd m a i) (v : m'.2 = m.2) (L : zLFc m' LF) (ok : zLok kd t' LF) (hL : LF.1 = 0 → S.2.2.2.1.1 = 0) : zXC kd nm m' t' (S.1, S.2.1, S.2.2.1, LF, S.2.2.2.2) := by
  obtain ⟨x1, x2, x3, x4, x5, x6, x7, u, u1, u2, u3, u4⟩ := x
  have lr : ∀ a i, mz_rl m' a i = mz_rl m a i := fun a i => by unfold mz_rl; rw [v]
  refine ⟨x1, x2, (w _ _ (by omega)).trans x3, (w _ _ (by omega)).trans x4, fun k hk => ⟨(lr _ _).trans (x5 k hk).1, (x5 k hk).2⟩, L, ok, u, u1, by omega, (w _ _ (by omega)).trans u3, fun z => ?_⟩
  obtain ⟨c1, c2, c3, c4, c5, c6⟩ := u4 (hL z)
  exact ⟨(w _ _ (by omega)).trans c1, (w _ _ (by omega)).trans c2, (w _ _ (by omega)).trans c3, fun k hk => (w _ _ (by omega)).trans (c4 k hk), fun i j hi hj => (w _ _ (by omega)).trans (c5 i j hi hj), fun k hk => zCLu_f (c6 k hk) (Nat.le_refl _) hk (fun i _ => w _ _ (by omega)) (fun i _ _ => w _ _ (by omega)) (w _ _ (by omega))⟩
/-- plate, thumb, seed -/
theorem c_num {t w lo hi f : Nat} {m : MzM} {S : ZX} (h : zTok kd vl nm pl m) (a : zAl kd m t) (k0 : kd t ≠ 0) (x : zXC kd nm m t S) (hf : f = 6 + w) (hw : w < 3) (hlo : lo = if w = 0 then 1 else 0) (hhi : hi = if w = 0 then 9 else if w = 1 then 100 else 9999) : ∃ m', ((R_X4_take 8 m).bind (fun m17 => (R_X4_readInt 8 (nI lo) (nI hi) m17).bind (fun u22 => (R_X4_expect 8 4 (mz_wr u22.2 13 f u22.1)).bind (fun m23 => some m23)))) = some m' ∧ zFc m m' ∧ zAD kd m' (zex kd 4 (zex kd 3 (.inr (t + 1)))) ∧ ∀ t', zex kd 4 (zex kd 3 (.inr (t + 1))) = .inr t' → zXC kd nm m' t' (zNumS vl w t S) := by
  have b1 : lo < 10000 := by rw [hlo]; by_cases c : w = 0 <;> simp [c]
  have b2 : hi < 10000 := by rw [hhi]; by_cases c : w = 0 <;> by_cases c2 : w = 1 <;> simp [c, c2]
  obtain ⟨m1, e1, f1, a1⟩ := c_take22 h a k0
  have t1 := zTok_22 h (zFx25 f1)
  have L1 := zLFc_f x.2.2.2.2.2.1 f1
  obtain ⟨v, m2, e2, f2, a2, p2⟩ := c_int (d := 8) (A := .inr (t + 1)) (LF := S.2.2.2.1) t1 a1 (fun _ _ => L1) b1 b2
  obtain ⟨m3, hm3⟩ : ∃ q : MzM, q = mz_wr m2 13 f v := ⟨_, rfl⟩
  have F3 : zFr (fun a i => a = 13 ∧ i = f) m2 m3 := by rw [hm3]; exact zFr_w ⟨rfl, rfl⟩
  have a3 := zAD_f a2 F3 (fun a i z => by omega)
  have t3 : zTok kd vl nm pl m3 := zTok_f (zTok_22 t1 f2) F3 (fun a i z => by omega)
  obtain ⟨m4, e4, f4, a4⟩ := c_exA (d := 8) (k := 4) t3 a3 (by omega) (by omega)
  have e4 : R_X4_expect 8 4 m3 = some m4 := e4
  refine ⟨m4, ?_, zFc_t (zFc_22 (zFx25 f1)) (zFc_t (zFc_22 f2) (zFc_t (zFc_m F3 (fun a i z => by omega)) (zFc_22 (zFx25 f4)))), a4, fun t' z => ?_⟩
  · rw [e1, Option.bind_some, e2, Option.bind_some]
    dsimp only
    rw [← hm3, e4, Option.bind_some]
  · obtain ⟨s1, q1, r1, g1⟩ := zex_r z
    obtain ⟨s2, q2, r2, g2⟩ := zex_r q1
    have : t + 1 = s2 := Sum.inr.inj q2
    subst this
    obtain ⟨hv, L2⟩ := p2 (t + 1) rfl r2
    obtain ⟨x1, x2, x3, x4, x5, x6, x7, u, u1, u2, u3, u4⟩ := x
    have ww : ∀ a i, a ≠ 22 → ¬ (a = 13 ∧ i = f) → mz_rd m4 a i = mz_rd m a i := fun a i p q => by rw [f4.1 a i (by omega), F3.1 a i q, f2.1 a i (by omega), f1.1 a i (by omega)]
    have lr : ∀ a i, mz_rl m4 a i = mz_rl m a i := fun a i => by unfold mz_rl; rw [f4.2, F3.2, f2.2, f1.2]
    have L4 : zLFc m4 (zli vl lo hi (t + 1) S.2.2.2.1) := zLFc_f ⟨(F3.1 _ _ (by omega)).trans L2.1, L2.2.1, fun z => (F3.1 _ _ (by omega)).trans (L2.2.2 z)⟩ f4
    have v13 : mz_rd m4 13 f = nI (vl (t + 1)) := by rw [f4.1 13 f (by omega), hm3, m_eq]; exact hv
    rw [hlo, hhi] at L4
    refine ⟨x1, x2, (ww _ _ (by omega) (by omega)).trans x3, (ww _ _ (by omega) (by omega)).trans x4, fun k hk => ⟨(lr _ _).trans (x5 k hk).1, (x5 k hk).2⟩, L4, zLok_s (zli_ok (zLok_s x7 (by omega)) (by omega)) (show t + 1 + 1 ≤ t' by omega), u, u1, by omega, (ww _ _ (by omega) (by omega)).trans u3, fun z => ?_⟩
    obtain ⟨c1, c2, c3, c4, c5, c6⟩ := u4 (zli_0 z).1
    refine ⟨?_, ?_, ?_, fun k hk => (ww _ _ (by omega) (by omega)).trans (c4 k hk), fun i j hi hj => (ww _ _ (by omega) (by omega)).trans (c5 i j hi hj), fun k hk => zCLu_f (c6 k hk) (Nat.le_refl _) hk (fun i _ => ww _ _ (by omega) (by omega)) (fun i _ _ => ww _ _ (by omega) (by omega)) (ww _ _ (by omega) (by omega))⟩
    · show mz_rd m4 13 6 = nI (if w = 0 then vl (t + 1) else S.2.2.2.2.2.2.2.2.2.2)
      by_cases c : w = 0
      · rw [if_pos c, show 6 = f by omega]; exact v13
      · rw [if_neg c]; exact (ww _ _ (by omega) (by omega)).trans c1
    · show mz_rd m4 13 7 = nI (if w = 1 then vl (t + 1) else S.2.2.2.2.2.2.2.1)
      by_cases c : w = 1
      · rw [if_pos c, show 7 = f by omega]; exact v13
      · rw [if_neg c]; exact (ww _ _ (by omega) (by omega)).trans c2
    · show mz_rd m4 13 8 = nI (if w = 2 then vl (t + 1) else S.2.2.2.2.2.2.2.2.1)
      by_cases c : w = 2
      · rw [if_pos c, show 8 = f by omega]; exact v13
      · rw [if_neg c]; exact (ww _ _ (by omega) (by omega)).trans c3
theorem c_law {t k : Nat} {m : MzM} {S : ZX} (h : zTok kd vl nm pl m) (a : zAl kd m t) (hk : k < 4) (kt : kd t = 15 + k) (x : zXC kd nm m t S) : ∃ ts last A m', zLl kd vl 4 (zex kd 5 (.inr (t + 1))) ts last A ∧ R_X4_readLaw 8 (nI k) m = some m' ∧ zFc m m' ∧ zAD kd m' A ∧ ∀ t', A = .inr t' → zXC kd nm m' t' (zLawS k ts last S) := by
  obtain ⟨m1, e1, f1, a1⟩ := c_take22 h a (by omega)
  have t1 := zTok_22 h (zFx25 f1)
  obtain ⟨m2, e2, f2, a2⟩ := c_exA (d := 8) (k := 5) (A := .inr (t + 1)) t1 a1 (by omega) (by omega)
  have e2 : R_X4_expect 8 5 m1 = some m2 := e2
  have t2 := zTok_22 t1 (zFx25 f2)
  obtain ⟨x1, x2, x3, x4, x5, x6, x7, u, u1, u2, u3, u4⟩ := x
  have w2 : ∀ a i, a ≠ 22 → mz_rd m2 a i = mz_rd m a i := fun a i z => by rw [f2.1 a i (by omega), f1.1 a i (by omega)]
  have bg := c_begin (d := 8) hk ((w2 17 4 (by omega)).trans u3)
  obtain ⟨m3, hm3⟩ : ∃ q : MzM, q = mz_wr (mz_wr m2 20 k 0) 19 (14 * k) (nI u) := ⟨_, rfl⟩
  rw [← hm3] at bg
  have F3 : zFr (fun a i => (a = 20 ∧ i = k) ∨ (a = 19 ∧ i = 14 * k)) m2 m3 := by rw [hm3]; exact zFr_w2 (zFr_w (Or.inl ⟨rfl, rfl⟩)) (Or.inr ⟨rfl, rfl⟩)
  have k20 : mz_rd m3 20 k = nI 0 := by rw [hm3, m_ne (by omega), m_eq]; rfl
  have k19 : mz_rd m3 19 (14 * k + 0) = nI u := by rw [hm3, Nat.add_zero, m_eq]
  have k17 : mz_rd m3 17 4 = nI u := by rw [F3.1 17 4 (by omega), w2 _ _ (by omega)]; exact u3
  have t3 : zTok kd vl nm pl m3 := zTok_f t2 F3 (fun a i z => by omega)
  obtain ⟨ts, last, A, m4, r1, r2, r3, r4, r5⟩ := c_ll 4 k 0 u m3 _ (by omega) (by omega) hk t3 (zAD_f a2 F3 (fun a i z => by omega)) ⟨⟨u, u1, k17⟩, 0, by omega, k20⟩ (fun t' z => by
    obtain ⟨s, q1, _, q3⟩ := zex_r z
    have : t + 1 = s := Sum.inr.inj q1
    exact ⟨⟨k17, k20, k19⟩, by omega⟩)
  have r2 : H_X4_readLaw_22 8 (nI k) 0 m3 = some m4 := r2
  have y := R_X4_readLaw_eq 8 (nI k) m
  rw [e1, Option.bind_some, e2, Option.bind_some, bg, Option.bind_some, r2] at y
  refine ⟨ts, last, A, m4, r1, y, zFc_t (zFc_22 (zFx25 f1)) (zFc_t (zFc_22 (zFx25 f2)) (zFc_t (zFc_m F3 (fun a i z => by omega)) (zFc_m r3 (fun a i z => by unfold zLF at z; omega)))), r4, fun t' z => ?_⟩
  obtain ⟨b1, u', b2, b3, b4, b5, b6, b7, b8⟩ := r5 t' z
  subst z
  have r4 : zAl kd m4 t' := r4
  have tl : t + 2 ≤ t' := zTl_2 (S := S) (S' := zLawS k ts last S) (nm := nm) (vl := vl) (Or.inr (Or.inr (Or.inr (Or.inr (Or.inr (Or.inl ⟨k, ts, last, hk, kt, r1, rfl⟩)))))) rfl
  have ww : ∀ a i, ¬ ((a = 22 ∧ 2 ≤ i ∧ i ≤ 5) ∨ a = 18 ∨ (a = 17 ∧ i = 4) ∨ (a = 20 ∧ i = k) ∨ (a = 19 ∧ 14 * k ≤ i ∧ i < 14 * k + 14)) → mz_rd m4 a i = mz_rd m a i := fun a i z => by
    rw [r3.1 a i (by unfold zLF; exact z), F3.1 a i (by omega), f2.1 a i (by omega), f1.1 a i (by omega)]
  have lr : ∀ a i, mz_rl m4 a i = mz_rl m a i := fun a i => by unfold mz_rl; rw [r3.2, F3.2, f2.2, f1.2]
  refine ⟨x1, x2, (ww _ _ (by omega)).trans x3, (ww _ _ (by omega)).trans x4, fun k hk => ⟨(lr _ _).trans (x5 k hk).1, (x5 k hk).2⟩, ⟨(ww _ _ (by omega)).trans x6.1, x6.2.1, fun z => (ww _ _ (by omega)).trans (x6.2.2 z)⟩, zLok_s x7 (by omega), u', by have := r4.2.2.2; omega, by omega, b4, fun z => ?_⟩
  obtain ⟨c1, c2, c3, c4, c5, c6⟩ := u4 z
  refine ⟨(ww _ _ (by omega)).trans c1, (ww _ _ (by omega)).trans c2, (ww _ _ (by omega)).trans c3, fun k hk => (ww _ _ (by omega)).trans (c4 k hk), fun i j hi hj => (ww _ _ (by omega)).trans (c5 i j hi hj), fun j hj => ?_⟩
  show zCLu m4 u' j (if j = k then ts else S.2.2.2.2.2.1 j) (if j = k then last else S.2.2.2.2.2.2.1 j)
  by_cases c : j = k
  · subst c
    rw [if_pos rfl, if_pos rfl]
    refine ⟨b1, ?_, fun i P hP => ?_⟩
    · rw [b5, Nat.zero_add]
    · have := b6 i P hP
      rw [Nat.add_zero] at this
      exact this
  · rw [if_neg c, if_neg c]
    refine zCLu_f (c6 j hj) b2 hj (fun i hi => ?_) (fun i p q => ww _ _ (by omega)) (ww _ _ (by omega))
    rw [b7 i hi, F3.1 18 i (by omega), w2 _ _ (by omega)]
theorem c_tell {t : Nat} {m : MzM} {S : ZX} (hm : ∀ t, kd t = 2 → nm t < 2 ^ 63) (h : zTok kd vl nm pl m) (a : zAl kd m t) (k0 : kd t ≠ 0) (x : zXC kd nm m t S) : ∃ A S' m', zTl kd vl nm S t A S' ∧ R_X4_readTell 8 m = some m' ∧ zFc m m' ∧ zAD kd m' A ∧ ∀ t', A = .inr t' → zXC kd nm m' t' S' := by
  have b := (h.1 t).1
  by_cases cl : 15 ≤ kd t ∧ kd t ≤ 18
  · obtain ⟨ts, last, A, m', r1, r2, r3, r4, r5⟩ := c_law (k := kd t - 15) h a (by omega) (by omega) x
    refine ⟨A, _, m', Or.inr (Or.inr (Or.inr (Or.inr (Or.inr (Or.inl ⟨kd t - 15, ts, last, by omega, by omega, r1, rfl⟩))))), ?_, r3, r4, r5⟩
    rw [R_X4_readTell_eq, a.2.2.1, if_neg (show ¬ nI (kd t) < 15 from nI_nlt (b := 15) (by omega) (by omega)), if_neg (show ¬ (18 : Int32) < nI (kd t) from nI_nlt (a := 18) (by omega) (by omega)), show nI (kd t) - 15 = nI (kd t - 15) from pk_sub (b := 15) cl.1, r2, Option.bind_some]
  · have sw := c_sw h a cl
    have ne : ∀ j, j < 34 → kd t ≠ j → ¬ nI (kd t) = nI j := fun j hj z => k_ne (by omega) (by omega) z
    by_cases c13 : kd t = 13
    · rw [if_pos (show nI (kd t) = 13 by rw [c13]; rfl)] at sw
      have x0 := x
      obtain ⟨x1, x2, x3, x4, x5, x6, x7, u, u1, u2, u3, u4⟩ := x
      by_cases cn : S.1 < 6
      · obtain ⟨m1, e1, f1, a1, p1⟩ := c_pers hm h a k0 x3 cn x5 x6
        have t1 := zTok_c h f1
        obtain ⟨m2, e2, f2, a2⟩ := c_exA (d := 8) (k := 4) t1 a1 (by omega) (by omega)
        have e2 : R_X4_expect 8 4 m1 = some m2 := e2
        refine ⟨_, _, m2, Or.inr (Or.inl ⟨c13, cn, rfl, rfl⟩), ?_, zFc_t f1 (zFc_22 (zFx25 f2)), a2, fun t' z => ?_⟩
        · rw [sw, e1, Option.bind_some, e2, Option.bind_some]
        · obtain ⟨s1, q1, r1, g1⟩ := zex_r z
          obtain ⟨s2, q2, g2, r2⟩ := zit_r _ _ _ q1
          obtain ⟨s3, q3, r3, g3⟩ := zex_r q2
          have : t + 1 = s3 := Sum.inr.inj q3
          subst this
          subst g3
          obtain ⟨y1, y2, y3, y4, y5, y6, y7, y8⟩ := p1 r3 r2
          have w2 : ∀ a i, a ≠ 22 → mz_rd m2 a i = mz_rd m1 a i := fun a i z => f2.1 a i (by omega)
          have l2 : ∀ a i, mz_rl m2 a i = mz_rl m1 a i := fun a i => by unfold mz_rl; rw [f2.2]
          have ok0 : zLok kd (t + 2) (if (zfn nm S.2.2.1 S.1 (t + 1)).isSome = true then zlt1 3 (t + 1) S.2.2.2.1 else S.2.2.2.1) := by
            by_cases c : (zfn nm S.2.2.1 S.1 (t + 1)).isSome = true
            · rw [if_pos c]; exact zlt1_ok (zLok_s x7 (by omega)) (by omega) (by omega)
            · rw [if_neg c]; exact zLok_s x7 (by omega)
          have ok1 := zlfs_ok (kd := kd) (vl := vl) (lo := 0) (hi := 99) 4 (t + 2) _ ok0 (fun i hi => by rw [r2 i hi]; omega)
          refine ⟨by show S.1 + 1 ≤ 6; omega, x2, ?_, ?_, fun k hk => ?_, zLFc_f y8 f2, zLok_s ok1 (by omega), u, u1, by omega, ?_, fun z => ?_⟩
          · rw [w2 _ _ (by omega)]; exact y1
          · rw [w2 _ _ (by omega), y2 _ (by omega)]; exact x4
          · show mz_rl m2 14 k = lN (nm (if k = S.1 then t + 1 else S.2.2.1 k)) ∧ kd (if k = S.1 then t + 1 else S.2.2.1 k) = 2
            have hk : k < S.1 + 1 := hk
            by_cases c : k = S.1
            · rw [if_pos c, l2, c]; exact ⟨y4, r3⟩
            · rw [if_neg c, l2, y3 k (by omega)]; exact x5 k (by omega)
          · rw [w2 _ _ (by omega), y7 _ _ (by omega) (by omega)]; exact u3
          · obtain ⟨z0, zr⟩ := zlfs_0 4 (t + 2) _ z
            have z1 : S.2.2.2.1.1 = 0 := by
              by_cases c : (zfn nm S.2.2.1 S.1 (t + 1)).isSome = true
              · rw [if_pos c] at z0; exact absurd z0 (zlt1_0 (by omega))
              · rw [if_neg c] at z0; exact z0
            obtain ⟨c1, c2, c3, c4, c5, c6⟩ := u4 z1
            refine ⟨?_, ?_, ?_, fun k hk => ?_, fun i j hi hj => ?_, fun k hk => zCLu_f (c6 k hk) (Nat.le_refl _) hk (fun i _ => ?_) (fun i _ _ => ?_) ?_⟩
            · rw [w2 _ _ (by omega), y2 _ (by omega)]; exact c1
            · rw [w2 _ _ (by omega), y2 _ (by omega)]; exact c2
            · rw [w2 _ _ (by omega), y2 _ (by omega)]; exact c3
            · have hk : k < 4 * (S.1 + 1) := hk
              show mz_rd m2 15 k = nI (if 4 * S.1 ≤ k ∧ k < 4 * S.1 + 4 then vl (t + 2 + (k - 4 * S.1)) else S.2.2.2.2.2.2.2.2.2.1 k)
              rw [w2 _ _ (by omega)]
              by_cases c : 4 * S.1 ≤ k ∧ k < 4 * S.1 + 4
              · rw [if_pos c]
                have := y5 (k - 4 * S.1) (by omega)
                rw [show 4 * S.1 + (k - 4 * S.1) = k by omega] at this
                exact this
              · rw [if_neg c, y6 k (by omega)]; exact c4 k (by omega)
            · rw [w2 _ _ (by omega), y7 _ _ (by omega) (by omega)]; exact c5 i j hi hj
            · rw [w2 _ _ (by omega), y7 _ _ (by omega) (by omega)]
            · rw [w2 _ _ (by omega), y7 _ _ (by omega) (by omega)]
            · rw [w2 _ _ (by omega), y7 _ _ (by omega) (by omega)]
      · obtain ⟨m1, e1, f1, a1⟩ := c_bad (f := 2) h a (Or.inr rfl) (fun m => some m)
        refine ⟨_, S, m1, Or.inl ⟨c13, by omega, rfl⟩, ?_, f1, a1, fun t' z => absurd z (by simp)⟩
        rw [sw, R_X4_readPerson_eq, x3, if_neg (show ¬ nI S.1 < 6 from nI_nlt (b := 6) (by omega) (by omega))]
        have e1 : ((R_X4_fail 8 2 m).bind (fun m1 => (R_X4_expect 8 4 m1).bind (fun m => some m))) = some m1 := e1
        rw [← e1]
        obtain ⟨q, hq, _⟩ := c_fl (d := 8) (f := 2) a (Or.inr rfl)
        have hq : R_X4_fail 8 2 m = some q := hq
        rw [hq, Option.bind_some, Option.bind_some]
    · rw [if_neg (show ¬ nI (kd t) = 13 from ne 13 (by omega) c13)] at sw
      by_cases c14 : kd t = 14
      · rw [if_pos (show nI (kd t) = 14 by rw [c14]; rfl)] at sw
        obtain ⟨x1, x2, x3, x4, x5, x6, x7, u, u1, u2, u3, u4⟩ := x
        by_cases cn : S.2.1 < 8
        · obtain ⟨m1, e1, f1, a1, p1, p2, p3, p4, p5⟩ := c_suit hm h a k0 x3 x1 x4 cn x5 x6
          have t1 := zTok_c h f1
          obtain ⟨m2, e2, f2, a2⟩ := c_exA (d := 8) (k := 4) t1 a1 (by omega) (by omega)
          have e2 : R_X4_expect 8 4 m1 = some m2 := e2
          refine ⟨_, _, m2, Or.inr (Or.inr (Or.inr (Or.inl ⟨c14, cn, rfl, rfl⟩))), ?_, zFc_t f1 (zFc_22 (zFx25 f2)), a2, fun t' z => ?_⟩
          · rw [sw, e1, Option.bind_some, e2, Option.bind_some]
          · obtain ⟨s1, q1, r1, g1⟩ := zex_r z
            obtain ⟨s2, q2, r2, g2⟩ := zex_r q1
            obtain ⟨s3, q3, r3, g3⟩ := zex_r q2
            obtain ⟨s4, q4, r4, g4⟩ := zex_r q3
            obtain ⟨s5, q5, r5, g5⟩ := zex_r q4
            have : t + 1 = s5 := Sum.inr.inj q5
            subst this
            subst g5
            subst g4
            subst g3
            obtain ⟨y1, y2, y3, y4, y5⟩ := p5 r5 r4 r3 r2
            have w2 : ∀ a i, a ≠ 22 → mz_rd m2 a i = mz_rd m1 a i := fun a i z => f2.1 a i (by omega)
            have l2 : ∀ a i, mz_rl m2 a i = mz_rl m a i := fun a i => by unfold mz_rl; rw [f2.2, p2]
            have ok1 : zLok kd (t + 4 + 1) (zli vl 0 29 (t + 4) (zli vl 1 30 (t + 3) (zln (zfn nm S.2.2.1 S.1 (t + 2)) (zfn nm S.2.2.1 S.1 (t + 1)) (t + 2) (zln (zfn nm S.2.2.1 S.1 (t + 1)) none (t + 1) S.2.2.2.1)))) := zli_ok (zli_ok (zln_ok (zln_ok (zLok_s x7 (by omega)) (by rw [r5]; omega)) (by rw [r4]; omega)) (by rw [r3]; omega)) (by rw [r2]; omega)
            refine ⟨x1, by show S.2.1 + 1 ≤ 8; omega, ?_, ?_, fun k hk => ⟨(l2 _ _).trans (x5 k hk).1, (x5 k hk).2⟩, zLFc_f y5 f2, zLok_s ok1 (by omega), u, u1, by omega, ?_, fun z => ?_⟩
            · rw [w2 _ _ (by omega), p1 _ _ (by omega) (by omega) (by omega)]; exact x3
            · rw [w2 _ _ (by omega)]; exact p3
            · rw [w2 _ _ (by omega), p1 _ _ (by omega) (by omega) (by omega)]; exact u3
            · have z1 := (zli_0 (zli_0 z).1).1
              obtain ⟨z2, k2, hk2, _⟩ := zln_0 z1
              obtain ⟨z3, k1, hk1, _⟩ := zln_0 z2
              obtain ⟨c1, c2, c3, c4, c5, c6⟩ := u4 z3
              refine ⟨?_, ?_, ?_, fun k hk => ?_, fun i j hi hj => ?_, fun k hk => zCLu_f (c6 k hk) (Nat.le_refl _) hk (fun i _ => ?_) (fun i _ _ => ?_) ?_⟩
              · rw [w2 _ _ (by omega), p1 _ _ (by omega) (by omega) (by omega)]; exact c1
              · rw [w2 _ _ (by omega), p1 _ _ (by omega) (by omega) (by omega)]; exact c2
              · rw [w2 _ _ (by omega), p1 _ _ (by omega) (by omega) (by omega)]; exact c3
              · rw [w2 _ _ (by omega), p1 _ _ (by omega) (by omega) (by omega)]; exact c4 k hk
              · have hi : i < S.2.1 + 1 := hi
                show mz_rd m2 16 (4 * i + j) = nI (zSuitU vl nm t S i j)
                rw [w2 _ _ (by omega)]
                unfold zSuitU
                by_cases c : i = S.2.1
                · subst c
                  rw [if_pos rfl]
                  rcases (show j = 0 ∨ j = 1 ∨ j = 2 ∨ j = 3 by omega) with rfl | rfl | rfl | rfl
                  · rw [Nat.add_zero, y1, hk1]; rfl
                  · rw [y2, hk2]; rfl
                  · exact y3
                  · exact y4
                · rw [if_neg c, p4 _ (by omega)]; exact c5 i j (by omega) hj
              · rw [w2 _ _ (by omega), p1 _ _ (by omega) (by omega) (by omega)]
              · rw [w2 _ _ (by omega), p1 _ _ (by omega) (by omega) (by omega)]
              · rw [w2 _ _ (by omega), p1 _ _ (by omega) (by omega) (by omega)]
        · obtain ⟨m1, e1, f1, a1⟩ := c_bad (f := 2) h a (Or.inr rfl) (fun m => some m)
          refine ⟨_, S, m1, Or.inr (Or.inr (Or.inl ⟨c14, by omega, rfl⟩)), ?_, f1, a1, fun t' z => absurd z (by simp)⟩
          rw [sw, R_X4_readSuit_eq, x4, if_neg (show ¬ nI S.2.1 < 8 from nI_nlt (b := 8) (by omega) (by omega))]
          have e1 : ((R_X4_fail 8 2 m).bind (fun m1 => (R_X4_expect 8 4 m1).bind (fun m => some m))) = some m1 := e1
          rw [← e1]
          obtain ⟨q, hq, _⟩ := c_fl (d := 8) (f := 2) a (Or.inr rfl)
          have hq : R_X4_fail 8 2 m = some q := hq
          rw [hq, Option.bind_some, Option.bind_some]
      · rw [if_neg (show ¬ nI (kd t) = 14 from ne 14 (by omega) c14)] at sw
        by_cases c19 : kd t = 19
        · obtain ⟨m1, e1, f1, a1, p1⟩ := c_num (w := 0) (lo := 1) (hi := 9) (f := 6) h a k0 x rfl (by omega) rfl rfl
          rw [if_pos (show nI (kd t) = 19 by rw [c19]; rfl)] at sw
          exact ⟨_, _, m1, Or.inr (Or.inr (Or.inr (Or.inr (Or.inl ⟨0, by omega, c19, rfl, rfl⟩)))), sw.trans e1, f1, a1, p1⟩
        · rw [if_neg (show ¬ nI (kd t) = 19 from ne 19 (by omega) c19)] at sw
          by_cases c20 : kd t = 20
          · obtain ⟨m1, e1, f1, a1, p1⟩ := c_num (w := 1) (lo := 0) (hi := 100) (f := 7) h a k0 x rfl (by omega) rfl rfl
            rw [if_pos (show nI (kd t) = 20 by rw [c20]; rfl)] at sw
            exact ⟨_, _, m1, Or.inr (Or.inr (Or.inr (Or.inr (Or.inl ⟨1, by omega, c20, rfl, rfl⟩)))), sw.trans e1, f1, a1, p1⟩
          · rw [if_neg (show ¬ nI (kd t) = 20 from ne 20 (by omega) c20)] at sw
            by_cases c21 : kd t = 21
            · obtain ⟨m1, e1, f1, a1, p1⟩ := c_num (w := 2) (lo := 0) (hi := 9999) (f := 8) h a k0 x rfl (by omega) rfl rfl
              rw [if_pos (show nI (kd t) = 21 by rw [c21]; rfl)] at sw
              exact ⟨_, _, m1, Or.inr (Or.inr (Or.inr (Or.inr (Or.inl ⟨2, by omega, c21, rfl, rfl⟩)))), sw.trans e1, f1, a1, p1⟩
            · rw [if_neg (show ¬ nI (kd t) = 21 from ne 21 (by omega) c21)] at sw
              obtain ⟨m1, e1, f1, a1⟩ := c_bad (f := 1) h a (Or.inl rfl) (fun m => some m)
              exact ⟨_, S, m1, Or.inr (Or.inr (Or.inr (Or.inr (Or.inr (Or.inr ⟨by omega, rfl⟩))))), sw.trans e1, f1, a1, fun t' z => absurd z (by simp)⟩
/-- all that is told -/
theorem c_run (hm : ∀ t, kd t = 2 → nm t < 2 ^ 63) : ∀ (n t y : Nat) (m : MzM) (S : ZX), 402 - t ≤ n → zTok kd vl nm pl m → zAl kd m t → zXC kd nm m t S → 2 * y ≤ t → ∃ k A S' m', zRun kd vl nm k S t A S' ∧ H_X4_readTape_43 8 (nI y) m = ((R_X4_checkRoomForTokens 8 m').bind (fun m16 => if ¬ (mz_rd m16 22 4) = 0 then (some ((mz_rd m16 22 4), m16)) else (some ((mz_rd m16 22 6), m16)))) ∧ zFc m m' ∧ zAD kd m' A ∧ ∀ t', A = .inr t' → zXC kd nm m' t' S' := by
  intro n
  induction n with
  | zero =>
    intro t y m S hn h a x hy
    have k0 : kd t = 0 := h.2.1 t (by omega)
    refine ⟨0, .inr t, S, m, ⟨k0, rfl, rfl⟩, ?_, zFc_r, a, fun t' z => by have : t = t' := Sum.inr.inj z; rw [← this]; exact x⟩
    rw [H_X4_readTape_43_eq, if_pos (show mz_rd m 22 3 = 0 by rw [a.2.2.1, k0]; rfl)]
    by_cases c : (400 : Int32) < nI y
    · rw [if_pos c]
    · rw [if_neg c]
  | succ n ih =>
    intro t y m S hn h a x hy
    by_cases k0 : kd t = 0
    · refine ⟨0, .inr t, S, m, ⟨k0, rfl, rfl⟩, ?_, zFc_r, a, fun t' z => by have : t = t' := Sum.inr.inj z; rw [← this]; exact x⟩
      rw [H_X4_readTape_43_eq, if_pos (show mz_rd m 22 3 = 0 by rw [a.2.2.1, k0]; rfl)]
      by_cases c : (400 : Int32) < nI y
      · rw [if_pos c]
      · rw [if_neg c]
    · obtain ⟨A1, S1, m1, r1, r2, r3, r4, r5⟩ := c_tell hm h a k0 x
      have a402 := a.2.2.2
      have st : H_X4_readTape_43 8 (nI y) m = H_X4_readTape_43 8 (nI (y + 1)) m1 := by
        rw [H_X4_readTape_43_eq, if_neg (show ¬ (400 : Int32) < nI y from nI_nlt (a := 400) (by omega) (by omega)), if_neg (show ¬ mz_rd m 22 3 = 0 from zAl_ne h a (k := 0) (by omega) k0), r2, Option.bind_some, nI_1]
      match A1, r1, r4, r5 with
      | .inl e, r1, r4, r5 =>
        refine ⟨1, .inl e, S, m1, ⟨k0, .inl e, S1, r1, Or.inl ⟨e, rfl, rfl⟩⟩, ?_, r3, r4, fun t' z => absurd z (by simp)⟩
        rw [st, H_X4_readTape_43_eq, if_pos (show mz_rd m1 22 3 = 0 from r4.2.2.1)]
        by_cases c : (400 : Int32) < nI (y + 1)
        · rw [if_pos c]
        · rw [if_neg c]
      | .inr t1, r1, r4, r5 =>
        have t2 := zTl_2 r1 rfl
        obtain ⟨k, A, S', m2, q1, q2, q3, q4, q5⟩ := ih t1 (y + 1) m1 S1 (by omega) (zTok_c h r3) r4 (r5 t1 rfl) (by omega)
        exact ⟨k + 1, A, S', m2, ⟨k0, .inr t1, S1, r1, Or.inr ⟨t1, rfl, q1⟩⟩, st.trans q2, zFc_t r3 q3, q4, q5⟩
end ZCrun
