/-! where a reading stands: .inl (fault, token) or .inr token; a law, read by the class -/
abbrev ZA : Type := (Nat × Nat) ⊕ Nat
def zex (kd : Nat → Nat) (k : Nat) : ZA → ZA
  | .inl e => .inl e
  | .inr t => if kd t = k then .inr (t + 1) else .inl (1, t)
def zAD (kd : Nat → Nat) (m : MzM) : ZA → Prop
  | .inl e => zDe m e.1 e.2
  | .inr t => zAl kd m t
def zSu (kd vl : Nat → Nat) (P : ZP) : ZA → ZA → Prop
  | .inl e, A => A = .inl e
  | .inr t, A => (∃ e, zG kd vl 4 0 t (.inl e) ∧ A = .inl e) ∨ (∃ t2, zG kd vl 4 0 t (.inr (t2, P)) ∧ A = .inr t2)
def zpo : ZA → Nat
  | .inl e => e.2
  | .inr t => t
/-- from t to where it stands no end was passed over -/
def zcnA (kd : Nat → Nat) (t : Nat) (A : ZA) : Prop := t ≤ zpo A ∧ ∀ i, t ≤ i → i < zpo A → kd i ≠ 0
def zLF (k a i : Nat) : Prop := (a = 22 ∧ 2 ≤ i ∧ i ≤ 5) ∨ a = 18 ∨ (a = 17 ∧ i = 4) ∨ (a = 20 ∧ i = k) ∨ (a = 19 ∧ 14 * k ≤ i ∧ i < 14 * k + 14)
def zPU (m : MzM) (u e : Nat) (P : ZP) : Prop := ∃ fr, mz_rd m 19 e = nI fr ∧ mz_rd m 19 (e + 1) = nI (fr + P.length) ∧ fr + P.length ≤ u ∧ (∀ i c, P[i]? = some c → mz_rd m 18 (fr + i) = nI (zenc c)) ∧ zcs 0 P 1
def zLg (m : MzM) (k : Nat) : Prop := (∃ u, u ≤ 404 ∧ mz_rd m 17 4 = nI u) ∧ ∃ p, p ≤ 13 ∧ mz_rd m 20 k = nI p
def zLa (m : MzM) (k p u : Nat) : Prop := mz_rd m 17 4 = nI u ∧ mz_rd m 20 k = nI p ∧ mz_rd m 19 (14 * k + p) = nI u
def zIf (kd : Nat → Nat) : ZA → Prop
  | .inl _ => False
  | .inr t => kd t = 22
/-- a law behind its =, with at most so many ifs -/
def zLl (kd vl : Nat → Nat) : Nat → ZA → List (ZP × ZP × ZP) → ZP → ZA → Prop
  | 0, A, ts, last, A' => (¬ zIf kd A ∧ ts = [] ∧ ∃ A1, zSu kd vl last A A1 ∧ A' = zex kd 4 A1) ∨ (∃ t, A = .inr t ∧ kd t = 22 ∧ A' = .inl (2, t))
  | k + 1, A, ts, last, A' => (¬ zIf kd A ∧ ts = [] ∧ ∃ A1, zSu kd vl last A A1 ∧ A' = zex kd 4 A1) ∨ (∃ t, A = .inr t ∧ kd t = 22 ∧ ∃ P1 A1 P2 A2 P3 A3 ts', zSu kd vl P1 (.inr (t + 1)) A1 ∧ zSu kd vl P2 (zex kd 10 A1) A2 ∧ zSu kd vl P3 (zex kd 23 A2) A3 ∧ zLl kd vl k (zex kd 24 A3) ts' last A' ∧ ts = (P1, P2, P3) :: ts')
section ZStat
variable {kd vl nm pl : Nat → Nat}
theorem zex_r {k t : Nat} {A : ZA} (h : zex kd k A = .inr t) : ∃ s, A = .inr s ∧ kd s = k ∧ t = s + 1 := by
  match A, h with
  | .inl e, h => exact absurd h (by unfold zex; simp)
  | .inr s, h =>
    unfold zex at h
    by_cases c : kd s = k
    · simp only [if_pos c] at h
      exact ⟨s, rfl, c, (Sum.inr.inj h).symm⟩
    · simp only [if_neg c] at h
      exact absurd h (by simp)
theorem zcn_ex {k t : Nat} {A : ZA} (k0 : k ≠ 0) (h : zcnA kd t A) : zcnA kd t (zex kd k A) := by
  match A, h with
  | .inl e, h => exact h
  | .inr s, h =>
    by_cases c : kd s = k
    · have e : zex kd k (.inr s) = .inr (s + 1) := if_pos c
      rw [e]
      refine ⟨by have := h.1; show t ≤ s + 1; have : t ≤ s := h.1; omega, fun i p q => ?_⟩
      have q : i < s + 1 := q
      rcases Nat.lt_or_ge i s with z | z
      · exact h.2 i p z
      · have : i = s := by omega
        subst this
        omega
    · have e : zex kd k (.inr s) = .inl (1, s) := if_neg c
      rw [e]
      exact h
theorem zcn_su {t : Nat} {A A' : ZA} {P : ZP} (h : zcnA kd t A) (g : zSu kd vl P A A') : zcnA kd t A' := by
  match A, h, g with
  | .inl e, h, g =>
    have g : A' = .inl e := g
    rw [g]; exact h
  | .inr s, h, g =>
    have hs : t ≤ s := h.1
    rcases g with ⟨e, g', rfl⟩ | ⟨t2, g', rfl⟩
    · have c := zG_c g'
      refine ⟨Nat.le_trans hs c.1, fun i p q => ?_⟩
      rcases Nat.lt_or_ge i s with z | z
      · exact h.2 i p z
      · exact c.2 i z q
    · have c := zG_c g'
      refine ⟨Nat.le_trans hs c.1, fun i p q => ?_⟩
      rcases Nat.lt_or_ge i s with z | z
      · exact h.2 i p z
      · exact c.2 i z q
theorem zcn_ll : ∀ (k t : Nat) (A A' : ZA) (ts : List (ZP × ZP × ZP)) (last : ZP), zcnA kd t A → zLl kd vl k A ts last A' → zcnA kd t A' := by
  have fin : ∀ (t : Nat) (A A' : ZA) (ts : List (ZP × ZP × ZP)) (last : ZP), zcnA kd t A → (¬ zIf kd A ∧ ts = [] ∧ ∃ A1, zSu kd vl last A A1 ∧ A' = zex kd 4 A1) → zcnA kd t A' := by
    intro t A A' ts last h ⟨_, _, A1, g, e⟩
    rw [e]
    exact zcn_ex (by omega) (zcn_su h g)
  intro k
  induction k with
  | zero =>
    intro t A A' ts last h g
    rcases g with g | ⟨s, rfl, ks, rfl⟩
    · exact fin t A A' ts last h g
    · exact h
  | succ k ih =>
    intro t A A' ts last h g
    rcases g with g | ⟨s, rfl, ks, P1, A1, P2, A2, P3, A3, ts', g1, g2, g3, g4, _⟩
    · exact fin t A A' ts last h g
    · have h1 : zcnA kd t (.inr (s + 1)) := by
        have := zcn_ex (k := 22) (by omega) h
        have e : zex kd 22 (.inr s) = .inr (s + 1) := if_pos ks
        rw [e] at this
        exact this
      exact ih t _ _ ts' last (zcn_ex (by omega) (zcn_su (zcn_ex (by omega) (zcn_su (zcn_ex (by omega) (zcn_su h1 g1)) g2)) g3)) g4
theorem zcn_402 (hk : ∀ i, 402 ≤ i → kd i = 0) {t : Nat} {A : ZA} (h : zcnA kd t A) (ht : t ≤ 402) : zpo A ≤ 402 := by
  rcases Nat.lt_or_ge 402 (zpo A) with c | c
  · exact absurd (hk 402 (Nat.le_refl _)) (h.2 402 ht c)
  · exact c
theorem c_exA {d k : Nat} {m : MzM} {A : ZA} (h : zTok kd vl nm pl m) (a : zAD kd m A) (k0 : k ≠ 0) (hk : k < 34) : ∃ m', R_X4_expect d (nI k) m = some m' ∧ zFr (fun a i => a = 22 ∧ 2 ≤ i ∧ i ≤ 5) m m' ∧ zAD kd m' (zex kd k A) := by
  match A, a with
  | .inl e, a =>
    obtain ⟨m1, e1, f1, a1⟩ := c_exD (d := d) (k := k) a k0 hk
    exact ⟨m1, e1, zFr_m f1 (fun a i z => by omega), a1⟩
  | .inr t, a =>
    by_cases c : kd t = k
    · obtain ⟨m1, e1, f1, a1⟩ := c_ex (d := d) h a k0 c
      refine ⟨m1, e1, zFr_m f1 (fun a i z => by omega), ?_⟩
      rw [show zex kd k (.inr t) = .inr (t + 1) from if_pos c]
      exact a1
    · obtain ⟨m1, e1, f1, a1⟩ := c_exN (d := d) h a hk c
      refine ⟨m1, e1, zFr_m f1 (fun a i z => by omega), ?_⟩
      rw [show zex kd k (.inr t) = .inl (1, t) from if_neg c]
      exact a1
theorem c_endPartD {d k p : Nat} {m : MzM} (hk : k < 4) (h : ∃ u, u ≤ 404 ∧ mz_rd m 17 4 = nI u) (hp : mz_rd m 20 k = nI p) (hp2 : p ≤ 13) : ∃ m', R_X2_endPart d 17 (nI k) m = some m' ∧ zFr (fun a i => (a = 20 ∧ i = k) ∨ (a = 19 ∧ 14 * k ≤ i ∧ i < 14 * k + 14)) m m' ∧ zLg m' k := by
  obtain ⟨u, u4, hu⟩ := h
  by_cases c : p < 13
  · refine ⟨_, c_endPart hk hu hp c, zFr_w2 (zFr_w (Or.inl ⟨rfl, rfl⟩)) (Or.inr ⟨rfl, by omega, by omega⟩), ⟨u, u4, ?_⟩, p + 1, by omega, ?_⟩
    · rw [m_ne (by omega), m_ne (by omega)]; exact hu
    · rw [m_ne (by omega), m_eq]
  · have p13 : p = 13 := by omega
    subst p13
    have hp' : mz_rd m (17 + 3) k = nI 13 := hp
    refine ⟨m, ?_, zFr_r, ⟨u, u4, hu⟩, 13, by omega, hp⟩
    rw [R_X2_endPart_eq d 17 _ m z_w17, n_ok (show k < 2 ^ 31 by omega), n_gd hk, nI_clamp (show k < 2 ^ 31 by omega), hp', if_pos (show (13 : Int32) ≤ nI 13 by decide)]
theorem zFe {k : Nat} {m m' : MzM} (f : zFr (fun a i => (a = 20 ∧ i = k) ∨ (a = 19 ∧ 14 * k ≤ i ∧ i < 14 * k + 14)) m m') : zFr (zLF k) m m' := zFr_m f (fun a i z => by unfold zLF; omega)
theorem zFx {k : Nat} {m m' : MzM} (f : zFr zCX m m') : zFr (zLF k) m m' := zFr_m f (fun a i z => by unfold zLF; unfold zCX at z; omega)
theorem zFq {k : Nat} {m m' : MzM} (f : zFr (fun a i => a = 22 ∧ 2 ≤ i ∧ i ≤ 5) m m') : zFr (zLF k) m m' := zFr_m f (fun a i z => by unfold zLF; omega)
theorem zTok_l {m m' : MzM} {k : Nat} (h : zTok kd vl nm pl m) (f : zFr (zLF k) m m') : zTok kd vl nm pl m' := zTok_f h f (fun a i z => by unfold zLF at z; omega)
theorem zAD_f {m m' : MzM} {A : ZA} {F : Nat → Nat → Prop} (a : zAD kd m A) (g : zFr F m m') (hF : ∀ a i, F a i → a ≠ 22) : zAD kd m' A := by
  match A, a with
  | .inl e, a => exact zDe_f a g hF
  | .inr t, a => exact zAl_f a g hF
/-- a sum is a law's next part -/
theorem c_se {k p u : Nat} {m : MzM} {A : ZA} {β : Type} (G : MzM → Option β) (h : zTok kd vl nm pl m) (a : zAD kd m A) (g : zLg m k) (hk : k < 4) (al : ∀ t, A = .inr t → zLa m k p u ∧ u ≤ t + 2 ∧ p < 13) : ∃ P A1 m', zSu kd vl P A A1 ∧ ((R_X4_readSum 8 0 m).bind (fun a => (R_X2_endPart 8 17 (nI k) a).bind G)) = G m' ∧ zFr (zLF k) m m' ∧ zAD kd m' A1 ∧ zLg m' k ∧ ∀ t, A1 = .inr t → zLa m' k (p + 1) (u + P.length) ∧ zPU m' (u + P.length) (14 * k + p) P ∧ (∀ i, i < u → mz_rd m' 18 i = mz_rd m 18 i) ∧ (∀ i, i ≤ 14 * k + p → mz_rd m' 19 i = mz_rd m 19 i) ∧ u + P.length ≤ t + 2 := by
  obtain ⟨⟨u0, u1, u2⟩, p0, p1, p2⟩ := g
  match A, a, al with
  | .inl e, a, al =>
    obtain ⟨m1, e1, f1, a1, ub⟩ := c_sumD (d := 7) (y := 0) a u2 u1
    have e1 : R_X4_readSum 8 0 m = some m1 := e1
    obtain ⟨m2, e2, f2, g2⟩ := c_endPartD (d := 8) hk ub ((f1.1 20 k (by unfold zCX; omega)).trans p2) p1
    refine ⟨[], .inl e, m2, rfl, ?_, zFr_t (zFx f1) (zFe f2), zDe_f a1 f2 (fun a i z => by omega), g2, fun t z => absurd z (by simp)⟩
    rw [e1, Option.bind_some, e2, Option.bind_some]
  | .inr t, a, al =>
    obtain ⟨⟨q1, q2, q3⟩, ut, p13⟩ := al t rfl
    obtain ⟨R, m1, r1, e1, f1, c1⟩ := c_sumT m t u h a q1 ut
    have e1 : R_X4_readSum 8 0 m = some m1 := e1
    match R, r1, c1 with
    | .inl e, r1, c1 =>
      obtain ⟨m2, e2, f2, g2⟩ := c_endPartD (d := 8) hk c1.2 ((f1.1 20 k (by unfold zCX; omega)).trans p2) p1
      refine ⟨[], .inl e, m2, Or.inl ⟨e, r1, rfl⟩, ?_, zFr_t (zFx f1) (zFe f2), zDe_f c1.1 f2 (fun a i z => by omega), g2, fun t z => absurd z (by simp)⟩
      rw [e1, Option.bind_some, e2, Option.bind_some]
    | .inr (t2, P), r1, c1 =>
      obtain ⟨b1, b2, b3, b4⟩ := c1
      have b1 : zAl kd m1 t2 := b1
      have b2 : mz_rd m1 17 4 = nI (u + P.length) := b2
      have pk : mz_rd m1 20 k = nI p := (f1.1 20 k (by unfold zCX; omega)).trans q2
      have gf := zG_f h.2.1 r1
      have gf1 : t + P.length ≤ t2 := gf.1
      have gf3 : t ≤ 402 → t2 ≤ 402 := gf.2.2
      have gf3 := gf3 a.2.2.2
      have ep := c_endPart (d := 8) hk b2 pk p13
      obtain ⟨m2, hm⟩ : ∃ q : MzM, q = mz_wr (mz_wr m1 20 k (nI (p + 1))) 19 (14 * k + (p + 1)) (nI (u + P.length)) := ⟨_, rfl⟩
      rw [← hm] at ep
      have f2 : zFr (fun a i => (a = 20 ∧ i = k) ∨ (a = 19 ∧ 14 * k ≤ i ∧ i < 14 * k + 14)) m1 m2 := by
        rw [hm]
        exact zFr_w2 (zFr_w (Or.inl ⟨rfl, rfl⟩)) (Or.inr ⟨rfl, by omega, by omega⟩)
      have k17 : mz_rd m2 17 4 = nI (u + P.length) := (f2.1 _ _ (by omega)).trans b2
      have k20 : mz_rd m2 20 k = nI (p + 1) := by rw [hm, m_ne (by omega), m_eq]
      have k19 : mz_rd m2 19 (14 * k + (p + 1)) = nI (u + P.length) := by rw [hm, m_eq]
      have k19' : ∀ i, i ≤ 14 * k + p → mz_rd m2 19 i = mz_rd m 19 i := fun i hi => by
        rw [hm, m_ni (by omega), m_ne (by omega)]
        exact f1.1 19 i (by unfold zCX; omega)
      refine ⟨P, .inr t2, m2, Or.inr ⟨t2, r1, rfl⟩, ?_, zFr_t (zFx f1) (zFe f2), zAl_f b1 f2 (fun a i z => by omega), ⟨⟨_, by omega, k17⟩, _, by omega, k20⟩, fun t' z => ?_⟩
      · rw [e1, Option.bind_some, ep, Option.bind_some]
      · have z : t2 = t' := Sum.inr.inj z
        subst z
        refine ⟨⟨k17, k20, k19⟩, ⟨u, ?_, k19, Nat.le_refl _, fun i c hi => ?_, zG_s (fun i => (h.1 i).2) r1⟩, fun i hi => ?_, k19', by omega⟩
        · rw [k19' _ (Nat.le_refl _)]; exact q3
        · rw [f2.1 18 _ (by omega)]; exact b3 i c hi
        · rw [f2.1 18 _ (by omega)]; exact b4 i hi
theorem c_sx {k p u q : Nat} {m : MzM} {A : ZA} {β : Type} (G : MzM → Option β) (h : zTok kd vl nm pl m) (a : zAD kd m A) (g : zLg m k) (hk : k < 4) (q0 : q ≠ 0) (q34 : q < 34) (al : ∀ t, A = .inr t → zLa m k p u ∧ u ≤ t + 2 ∧ p < 13) : ∃ P A1 m', zSu kd vl P A A1 ∧ ((R_X4_readSum 8 0 m).bind (fun a => (R_X2_endPart 8 17 (nI k) a).bind (fun b => (R_X4_expect 8 (nI q) b).bind G))) = G m' ∧ zFr (zLF k) m m' ∧ zAD kd m' (zex kd q A1) ∧ zLg m' k ∧ ∀ t, zex kd q A1 = .inr t → zLa m' k (p + 1) (u + P.length) ∧ zPU m' (u + P.length) (14 * k + p) P ∧ (∀ i, i < u → mz_rd m' 18 i = mz_rd m 18 i) ∧ (∀ i, i ≤ 14 * k + p → mz_rd m' 19 i = mz_rd m 19 i) ∧ u + P.length ≤ t + 1 := by
  obtain ⟨P, A1, m1, s1, e1, f1, a1, g1, l1⟩ := c_se (k := k) (p := p) (u := u) (fun b => (R_X4_expect 8 (nI q) b).bind G) h a g hk al
  obtain ⟨m2, e2, f2, a2⟩ := c_exA (d := 8) (k := q) (zTok_l h f1) a1 q0 q34
  have w : ∀ a i, a ≠ 22 → mz_rd m2 a i = mz_rd m1 a i := fun a i z => f2.1 a i (by omega)
  refine ⟨P, A1, m2, s1, ?_, zFr_t f1 (zFq f2), a2, ?_, fun t z => ?_⟩
  · rw [e1, e2, Option.bind_some]
  · obtain ⟨⟨x1, x2, x3⟩, x4, x5, x6⟩ := g1
    exact ⟨⟨x1, x2, (w _ _ (by omega)).trans x3⟩, x4, x5, (w _ _ (by omega)).trans x6⟩
  · obtain ⟨s, hs, _, ts⟩ := zex_r z
    obtain ⟨⟨b1, b2, b3⟩, ⟨fr, b4, b5, b6, b7, b8⟩, b9, b10, b11⟩ := l1 s hs
    refine ⟨⟨(w _ _ (by omega)).trans b1, (w _ _ (by omega)).trans b2, (w _ _ (by omega)).trans b3⟩, ⟨fr, (w _ _ (by omega)).trans b4, (w _ _ (by omega)).trans b5, b6, fun i c hi => (w _ _ (by omega)).trans (b7 i c hi), b8⟩, fun i hi => (w _ _ (by omega)).trans (b9 i hi), fun i hi => (w _ _ (by omega)).trans (b10 i hi), by omega⟩
theorem zPU_f {m m' : MzM} {u u' e : Nat} {P : ZP} (h : zPU m u e P) (l : u ≤ u') (g1 : ∀ i, i < u → mz_rd m' 18 i = mz_rd m 18 i) (g2 : mz_rd m' 19 e = mz_rd m 19 e) (g3 : mz_rd m' 19 (e + 1) = mz_rd m 19 (e + 1)) : zPU m' u' e P := by
  obtain ⟨fr, b4, b5, b6, b7, b8⟩ := h
  refine ⟨fr, g2.trans b4, g3.trans b5, by omega, fun i c hi => ?_, b8⟩
  have li : i < P.length := (List.getElem?_eq_some_iff.mp hi).1
  exact (g1 _ (by omega)).trans (b7 i c hi)
/-- behind the loop: the last part -/
theorem c_llE {k p u : Nat} {y : Int32} {m : MzM} {A : ZA} (h : zTok kd vl nm pl m) (a : zAD kd m A) (g : zLg m k) (hk : k < 4) (al : ∀ t, A = .inr t → zLa m k p u ∧ u ≤ t + 2 ∧ p < 13) (hi : ¬ zIf kd A) : ∃ last A1 m', zSu kd vl last A A1 ∧ H_X4_readLaw_22 8 (nI k) y m = some m' ∧ zFr (zLF k) m m' ∧ zAD kd m' (zex kd 4 A1) ∧ zLg m' k ∧ ∀ t, zex kd 4 A1 = .inr t → zLa m' k (p + 1) (u + last.length) ∧ zPU m' (u + last.length) (14 * k + p) last ∧ (∀ i, i < u → mz_rd m' 18 i = mz_rd m 18 i) ∧ (∀ i, i ≤ 14 * k + p → mz_rd m' 19 i = mz_rd m 19 i) ∧ u + last.length ≤ t + 1 := by
  obtain ⟨P, A1, m1, s1, e1, f1, a1, g1, l1⟩ := c_sx (k := k) (p := p) (u := u) (q := 4) (fun b => some b) h a g hk (by omega) (by omega) al
  refine ⟨P, A1, m1, s1, ?_, f1, a1, g1, l1⟩
  have n22 : ¬ mz_rd m 22 3 = 22 := by
    match A, a, hi with
    | .inl e, a, hi => rw [a.2.2.1]; decide
    | .inr t, a, hi => exact zAl_ne h a (k := 22) (by omega) hi
  rw [H_X4_readLaw_22_eq, if_pos n22]
  exact e1
theorem c_ll : ∀ (j k p u : Nat) (m : MzM) (A : ZA), j ≤ 4 → p = 3 * (4 - j) → k < 4 → zTok kd vl nm pl m → zAD kd m A → zLg m k → (∀ t, A = .inr t → zLa m k p u ∧ u ≤ t + 2) → ∃ ts last A' m', zLl kd vl j A ts last A' ∧ H_X4_readLaw_22 8 (nI k) (nI (4 - j)) m = some m' ∧ zFr (zLF k) m m' ∧ zAD kd m' A' ∧ ∀ t, A' = .inr t → ts.length ≤ j ∧ ∃ u', u ≤ u' ∧ u' ≤ t + 1 ∧ mz_rd m' 17 4 = nI u' ∧ mz_rd m' 20 k = nI (p + 3 * ts.length + 1) ∧ (∀ i P, (zpls last ts)[i]? = some P → zPU m' u' (14 * k + p + i) P) ∧ (∀ i, i < u → mz_rd m' 18 i = mz_rd m 18 i) ∧ (∀ i, i ≤ 14 * k + p → mz_rd m' 19 i = mz_rd m 19 i) := by
  have fin : ∀ (j k p u : Nat) (y : Int32) (m : MzM) (A : ZA), p ≤ 12 → k < 4 → zTok kd vl nm pl m → zAD kd m A → zLg m k → (∀ t, A = .inr t → zLa m k p u ∧ u ≤ t + 2) → ¬ zIf kd A → ∃ ts last A' m', (¬ zIf kd A ∧ ts = [] ∧ ∃ A1, zSu kd vl last A A1 ∧ A' = zex kd 4 A1) ∧ H_X4_readLaw_22 8 (nI k) y m = some m' ∧ zFr (zLF k) m m' ∧ zAD kd m' A' ∧ ∀ t, A' = .inr t → ts.length ≤ j ∧ ∃ u', u ≤ u' ∧ u' ≤ t + 1 ∧ mz_rd m' 17 4 = nI u' ∧ mz_rd m' 20 k = nI (p + 3 * ts.length + 1) ∧ (∀ i P, (zpls last ts)[i]? = some P → zPU m' u' (14 * k + p + i) P) ∧ (∀ i, i < u → mz_rd m' 18 i = mz_rd m 18 i) ∧ (∀ i, i ≤ 14 * k + p → mz_rd m' 19 i = mz_rd m 19 i) := by
    intro j k p u y m A hp hk h a g al hi
    obtain ⟨last, A1, m1, s1, e1, f1, a1, g1, l1⟩ := c_llE (y := y) (p := p) (u := u) h a g hk (fun t z => ⟨(al t z).1, (al t z).2, by omega⟩) hi
    refine ⟨[], last, _, m1, ⟨hi, rfl, A1, s1, rfl⟩, e1, f1, a1, fun t z => ⟨Nat.zero_le _, ?_⟩⟩
    obtain ⟨b1, b2, b3, b4, b5⟩ := l1 t z
    refine ⟨_, Nat.le_add_right _ _, b5, b1.1, b1.2.1, fun i P hP => ?_, b3, b4⟩
    have li : i < 1 := (List.getElem?_eq_some_iff.mp hP).1
    have i0 : i = 0 := by omega
    subst i0
    have : last = P := Option.some.inj hP
    rw [← this]
    exact b2
  intro j
  induction j with
  | zero =>
    intro k p u m A hj hp hk h a g al
    by_cases hi : zIf kd A
    · match A, a, al, hi with
      | .inr t, a, al, hi =>
        have hi : kd t = 22 := hi
        obtain ⟨m1, e1, f1, a1⟩ := c_fl (d := 8) (f := 2) a (Or.inr rfl)
        have e1 : R_X4_fail 8 2 m = some m1 := e1
        have w1 : ∀ a i, a ≠ 22 → mz_rd m1 a i = mz_rd m a i := fun a i z => f1.1 a i (by omega)
        have F1 : zFr (zLF k) m m1 := zFr_m f1 (fun a i z => by unfold zLF; omega)
        have g1 : zLg m1 k := by
          obtain ⟨⟨x1, x2, x3⟩, x4, x5, x6⟩ := g
          exact ⟨⟨x1, x2, (w1 _ _ (by omega)).trans x3⟩, x4, x5, (w1 _ _ (by omega)).trans x6⟩
        have t1 := zTok_l h F1
        obtain ⟨m2, e2, f2, a2⟩ := c_exA (d := 8) (k := 22) (A := .inl (2, t)) t1 a1 (by omega) (by omega)
        have e2 : R_X4_expect 8 22 m1 = some m2 := e2
        have w2 : ∀ a i, a ≠ 22 → mz_rd m2 a i = mz_rd m1 a i := fun a i z => f2.1 a i (by omega)
        have g2 : zLg m2 k := by
          obtain ⟨⟨x1, x2, x3⟩, x4, x5, x6⟩ := g1
          exact ⟨⟨x1, x2, (w2 _ _ (by omega)).trans x3⟩, x4, x5, (w2 _ _ (by omega)).trans x6⟩
        have t2 := zTok_l t1 (zFq (k := k) f2)
        have nil : ∀ (m : MzM) t', (.inl (2, t) : ZA) = .inr t' → zLa m k 0 0 ∧ 0 ≤ t' + 2 ∧ 0 < 13 := fun _ _ z => absurd z (by simp)
        obtain ⟨P3, A3, m3, s3, e3, f3, a3, g3, _⟩ := c_sx (k := k) (p := 0) (u := 0) (q := 10) (fun m73 => (R_X4_readSum 8 0 m73).bind (fun m76 => (R_X2_endPart 8 17 (nI k) m76).bind (fun m79 => (R_X4_expect 8 (nI 23) m79).bind (fun m82 => (R_X4_readSum 8 0 m82).bind (fun m85 => (R_X2_endPart 8 17 (nI k) m85).bind (fun m88 => (R_X4_expect 8 (nI 24) m88).bind (fun m91 => H_X4_readLaw_22 8 (nI k) (nI 4 + 1) m91))))))) t2 a2 g2 hk (by omega) (by omega) (nil _)
        have s3 : A3 = .inl (2, t) := s3
        subst s3
        have t3 := zTok_l t2 f3
        obtain ⟨P4, A4, m4, s4, e4, f4, a4, g4, _⟩ := c_sx (k := k) (p := 0) (u := 0) (q := 23) (fun m82 => (R_X4_readSum 8 0 m82).bind (fun m85 => (R_X2_endPart 8 17 (nI k) m85).bind (fun m88 => (R_X4_expect 8 (nI 24) m88).bind (fun m91 => H_X4_readLaw_22 8 (nI k) (nI 4 + 1) m91)))) t3 a3 g3 hk (by omega) (by omega) (nil _)
        have s4 : A4 = .inl (2, t) := s4
        subst s4
        have t4 := zTok_l t3 f4
        obtain ⟨P5, A5, m5, s5, e5, f5, a5, g5, _⟩ := c_sx (k := k) (p := 0) (u := 0) (q := 24) (fun m91 => H_X4_readLaw_22 8 (nI k) (nI 4 + 1) m91) t4 a4 g4 hk (by omega) (by omega) (nil _)
        have s5 : A5 = .inl (2, t) := s5
        subst s5
        have t5 := zTok_l t4 f5
        obtain ⟨P6, A6, m6, s6, e6, f6, a6, g6, _⟩ := c_llE (y := nI 4 + 1) (p := 0) (u := 0) t5 a5 g5 hk (nil _) (fun z => z)
        have s6 : A6 = .inl (2, t) := s6
        subst s6
        have x := H_X4_readLaw_22_eq 8 (nI k) (nI 4) m
        rw [if_neg (show ¬ ¬ mz_rd m 22 3 = 22 from fun z => z (by rw [a.2.2.1, hi]; rfl)), if_neg (show ¬ (4 : Int32) < nI 4 by decide), if_neg (show ¬ ¬ nI 4 = 4 from fun z => z rfl), e1, Option.bind_some, e2, Option.bind_some] at x
        exact ⟨[], [], .inl (2, t), m6, Or.inr ⟨t, rfl, hi, rfl⟩, (x.trans e3).trans (e4.trans (e5.trans e6)), zFr_t F1 (zFr_t (zFq f2) (zFr_t f3 (zFr_t f4 (zFr_t f5 f6)))), a6, fun t z => absurd z (by simp)⟩
    · obtain ⟨ts, last, A', m', r1, r2, r3, r4, r5⟩ := fin 0 k p u (nI (4 - 0)) m A (by omega) hk h a g al hi
      exact ⟨ts, last, A', m', Or.inl r1, r2, r3, r4, r5⟩
  | succ j ih =>
    intro k p u m A hj hp hk h a g al
    by_cases hi : zIf kd A
    · match A, a, al, hi with
      | .inr t, a, al, hi =>
        have hi : kd t = 22 := hi
        obtain ⟨q1, q2⟩ := al t rfl
        obtain ⟨m2, e2, f2, a2⟩ := c_exA (d := 8) (k := 22) (A := .inr t) h a (by omega) (by omega)
        have e2 : R_X4_expect 8 22 m = some m2 := e2
        rw [show zex kd 22 (.inr t) = .inr (t + 1) from if_pos hi] at a2
        have w2 : ∀ a i, a ≠ 22 → mz_rd m2 a i = mz_rd m a i := fun a i z => f2.1 a i (by omega)
        have g2 : zLg m2 k := by
          obtain ⟨⟨x1, x2, x3⟩, x4, x5, x6⟩ := g
          exact ⟨⟨x1, x2, (w2 _ _ (by omega)).trans x3⟩, x4, x5, (w2 _ _ (by omega)).trans x6⟩
        have t2 := zTok_l h (zFq (k := k) f2)
        have al2 : ∀ t', (.inr (t + 1) : ZA) = .inr t' → zLa m2 k p u ∧ u ≤ t' + 2 ∧ p < 13 := fun t' z => by
          have z : t + 1 = t' := Sum.inr.inj z
          exact ⟨⟨(w2 _ _ (by omega)).trans q1.1, (w2 _ _ (by omega)).trans q1.2.1, (w2 _ _ (by omega)).trans q1.2.2⟩, by omega, by omega⟩
        obtain ⟨P3, A3, m3, s3, e3, f3, a3, g3, l3⟩ := c_sx (k := k) (p := p) (u := u) (q := 10) (fun m73 => (R_X4_readSum 8 0 m73).bind (fun m76 => (R_X2_endPart 8 17 (nI k) m76).bind (fun m79 => (R_X4_expect 8 (nI 23) m79).bind (fun m82 => (R_X4_readSum 8 0 m82).bind (fun m85 => (R_X2_endPart 8 17 (nI k) m85).bind (fun m88 => (R_X4_expect 8 (nI 24) m88).bind (fun m91 => H_X4_readLaw_22 8 (nI k) (nI (4 - (j + 1)) + 1) m91))))))) t2 a2 g2 hk (by omega) (by omega) al2
        have t3 := zTok_l t2 f3
        obtain ⟨P4, A4, m4, s4, e4, f4, a4, g4, l4⟩ := c_sx (k := k) (p := p + 1) (u := u + P3.length) (q := 23) (fun m82 => (R_X4_readSum 8 0 m82).bind (fun m85 => (R_X2_endPart 8 17 (nI k) m85).bind (fun m88 => (R_X4_expect 8 (nI 24) m88).bind (fun m91 => H_X4_readLaw_22 8 (nI k) (nI (4 - (j + 1)) + 1) m91)))) t3 a3 g3 hk (by omega) (by omega) (fun t' z => ⟨(l3 t' z).1, by have := (l3 t' z).2.2.2.2; omega, by omega⟩)
        have t4 := zTok_l t3 f4
        obtain ⟨P5, A5, m5, s5, e5, f5, a5, g5, l5⟩ := c_sx (k := k) (p := p + 1 + 1) (u := u + P3.length + P4.length) (q := 24) (fun m91 => H_X4_readLaw_22 8 (nI k) (nI (4 - (j + 1)) + 1) m91) t4 a4 g4 hk (by omega) (by omega) (fun t' z => ⟨(l4 t' z).1, by have := (l4 t' z).2.2.2.2; omega, by omega⟩)
        have t5 := zTok_l t4 f5
        obtain ⟨ts, last, A', m6, r1, r2, r3, r4, r5⟩ := ih k (p + 1 + 1 + 1) (u + P3.length + P4.length + P5.length) m5 (zex kd 24 A5) (by omega) (by omega) hk t5 a5 g5 (fun t' z => ⟨(l5 t' z).1, by have := (l5 t' z).2.2.2.2; omega⟩)
        have x := H_X4_readLaw_22_eq 8 (nI k) (nI (4 - (j + 1))) m
        rw [if_neg (show ¬ ¬ mz_rd m 22 3 = 22 from fun z => z (by rw [a.2.2.1, hi]; rfl)), if_neg (show ¬ (4 : Int32) < nI (4 - (j + 1)) from nI_nlt (a := 4) (by omega) (by omega)), if_pos (show ¬ nI (4 - (j + 1)) = 4 from k_ne (b := 4) (by omega) (by omega) (by omega)), e2, Option.bind_some] at x
        have y : H_X4_readLaw_22 8 (nI k) (nI (4 - (j + 1)) + 1) m5 = some m6 := by
          rw [nI_1, show 4 - (j + 1) + 1 = 4 - j by omega]
          exact r2
        refine ⟨(P3, P4, P5) :: ts, last, A', m6, Or.inr ⟨t, rfl, hi, P3, A3, P4, A4, P5, A5, ts, s3, s4, s5, r1, rfl⟩, (x.trans e3).trans (e4.trans (e5.trans y)), zFr_t (zFq f2) (zFr_t f3 (zFr_t f4 (zFr_t f5 r3))), r4, fun t' z => ?_⟩
        obtain ⟨c1, u', c2, c3, c4, c5, c6, c7, c8⟩ := r5 t' z
        have al5 : ∃ t5, zex kd 24 A5 = .inr t5 := by
          subst z
          match hq : zex kd 24 A5, r1 with
          | .inr s, _ => exact ⟨s, rfl⟩
          | .inl e, r1 =>
            have := zcn_ll (kd := kd) (vl := vl)
            match j, r1 with
            | 0, Or.inl ⟨_, _, B, sb, eb⟩ =>
              have sb : B = .inl e := sb
              rw [sb] at eb
              exact absurd eb (by unfold zex; simp)
            | 0, Or.inr ⟨s, es, _⟩ => exact absurd es (by simp)
            | j + 1, Or.inl ⟨_, _, B, sb, eb⟩ =>
              have sb : B = .inl e := sb
              rw [sb] at eb
              exact absurd eb (by unfold zex; simp)
            | j + 1, Or.inr ⟨s, es, _⟩ => exact absurd es (by simp)
        obtain ⟨t5', h5⟩ := al5
        obtain ⟨_, v1, v2, v3, _⟩ := l5 t5' h5
        have al4 : ∃ t4, zex kd 23 A4 = .inr t4 := by
          match hq : zex kd 23 A4, s5 with
          | .inr s, _ => exact ⟨s, rfl⟩
          | .inl e, s5 =>
            have s5 : A5 = .inl e := s5
            rw [s5] at h5
            exact absurd h5 (by unfold zex; simp)
        obtain ⟨t4', h4⟩ := al4
        obtain ⟨_, w1, w3, w4, _⟩ := l4 t4' h4
        have al3 : ∃ t3, zex kd 10 A3 = .inr t3 := by
          match hq : zex kd 10 A3, s4 with
          | .inr s, _ => exact ⟨s, rfl⟩
          | .inl e, s4 =>
            have s4 : A4 = .inl e := s4
            rw [s4] at h4
            exact absurd h4 (by unfold zex; simp)
        obtain ⟨t3', h3⟩ := al3
        obtain ⟨_, x1, x3, x4, _⟩ := l3 t3' h3
        refine ⟨by rw [List.length_cons]; omega, u', by omega, c3, c4, by rw [c5, List.length_cons]; congr 1; omega, fun i P hP => ?_, fun i hi => ?_, fun i hi => ?_⟩
        · have hP : (P3 :: P4 :: P5 :: zpls last ts)[i]? = some P := hP
          match i, hP with
          | 0, hP =>
            have : P3 = P := Option.some.inj hP
            rw [← this]
            refine zPU_f (m := m3) x1 (by omega) (fun i hi => ?_) ?_ ?_
            · rw [c7 i (by omega), v2 i (by omega), w3 i (by omega)]
            · rw [c8 _ (by omega), v3 _ (by omega), w4 _ (by omega)]
            · rw [c8 _ (by omega), v3 _ (by omega), w4 _ (by omega)]
          | 1, hP =>
            have : P4 = P := Option.some.inj hP
            rw [← this, show 14 * k + p + 1 = 14 * k + (p + 1) by omega]
            refine zPU_f (m := m4) w1 (by omega) (fun i hi => ?_) ?_ ?_
            · rw [c7 i (by omega), v2 i (by omega)]
            · rw [c8 _ (by omega), v3 _ (by omega)]
            · rw [c8 _ (by omega), v3 _ (by omega)]
          | 2, hP =>
            have : P5 = P := Option.some.inj hP
            rw [← this, show 14 * k + p + 2 = 14 * k + (p + 1 + 1) by omega]
            refine zPU_f (m := m5) v1 (by omega) (fun i hi => c7 i (by omega)) (c8 _ (by omega)) (c8 _ (by omega))
          | i + 3, hP =>
            have := c6 i P hP
            rw [show 14 * k + (p + 1 + 1 + 1) + i = 14 * k + p + (i + 3) by omega] at this
            exact this
        · rw [c7 i (by omega), v2 i (by omega), w3 i (by omega), x3 i (by omega)]
          exact w2 _ _ (by omega)
        · rw [c8 i (by omega), v3 i (by omega), w4 i (by omega), x4 i (by omega)]
          exact w2 _ _ (by omega)
    · obtain ⟨ts, last, A', m', r1, r2, r3, r4, r5⟩ := fin (j + 1) k p u (nI (4 - (j + 1))) m A (by omega) hk h a g al hi
      exact ⟨ts, last, A', m', Or.inl r1, r2, r3, r4, r5⟩
end ZStat
