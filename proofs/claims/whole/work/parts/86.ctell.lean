/-! what is told, one after the other: the class -/
/-- suits, ifs, last parts, thumb, seed, cases, plate -/
abbrev ZDt : Type := (Nat → Nat → Nat) × (Nat → List (ZP × ZP × ZP)) × (Nat → ZP) × Nat × Nat × (Nat → Nat) × Nat
/-- people, suits told, tokens of names, the later fault, what is told -/
abbrev ZX : Type := Nat × Nat × (Nat → Nat) × (Nat × Nat) × ZDt
def zff (p : Nat → Bool) : Nat → Nat → Option Nat
  | 0, _ => none
  | f + 1, k => if p k = true then some k else zff p f (k + 1)
def zfi : Option Nat → Int32
  | none => -1
  | some k => nI k
def zfn (nm tn : Nat → Nat) (np t : Nat) : Option Nat := zff (fun k => decide (nm (tn k) = nm t)) np 0
/-- a later fault: the first stays -/
def zlt1 (f t : Nat) (LF : Nat × Nat) : Nat × Nat := if LF.1 = 0 then (f, t) else LF
def zli (vl : Nat → Nat) (lo hi t : Nat) (LF : Nat × Nat) : Nat × Nat := if vl t < lo ∨ hi < vl t then zlt1 5 t LF else LF
def zlfs (vl : Nat → Nat) (lo hi : Nat) : Nat → Nat → Nat × Nat → Nat × Nat
  | 0, _, LF => LF
  | n + 1, t, LF => zlfs vl lo hi n (t + 1) (zli vl lo hi t LF)
def zit (kd : Nat → Nat) : Nat → ZA → ZA
  | 0, A => A
  | n + 1, A => zit kd n (zex kd 3 A)
def zln (o tk : Option Nat) (t : Nat) (LF : Nat × Nat) : Nat × Nat := match o with
  | none => zlt1 4 t LF
  | some k => if tk = some k then zlt1 3 t LF else LF
def zLok (kd : Nat → Nat) (t : Nat) (LF : Nat × Nat) : Prop := LF.1 < 10 ∧ (LF.1 ≠ 0 → LF.2 < t ∧ kd LF.2 ≠ 0)
def zLFc (m : MzM) (LF : Nat × Nat) : Prop := mz_rd m 22 6 = nI LF.1 ∧ LF.1 < 10 ∧ (LF.1 ≠ 0 → mz_rd m 22 7 = nI LF.2)
def zCLu (m : MzM) (u k : Nat) (ts : List (ZP × ZP × ZP)) (last : ZP) : Prop := ts.length ≤ 4 ∧ mz_rd m 20 k = nI (3 * ts.length + 1) ∧ ∀ j P, (zpls last ts)[j]? = some P → zPU m u (14 * k + j) P
def zCln (m : MzM) (u np ns : Nat) (D : ZDt) : Prop := mz_rd m 13 6 = nI D.2.2.2.2.2.2 ∧ mz_rd m 13 7 = nI D.2.2.2.1 ∧ mz_rd m 13 8 = nI D.2.2.2.2.1 ∧ (∀ k, k < 4 * np → mz_rd m 15 k = nI (D.2.2.2.2.2.1 k)) ∧ (∀ i j, i < ns → j < 4 → mz_rd m 16 (4 * i + j) = nI (D.1 i j)) ∧ ∀ k, k < 4 → zCLu m u k (D.2.1 k) (D.2.2.1 k)
def zXC (kd nm : Nat → Nat) (m : MzM) (t : Nat) (S : ZX) : Prop := S.1 ≤ 6 ∧ S.2.1 ≤ 8 ∧ mz_rd m 13 4 = nI S.1 ∧ mz_rd m 13 5 = nI S.2.1 ∧ (∀ k, k < S.1 → mz_rl m 14 k = lN (nm (S.2.2.1 k)) ∧ kd (S.2.2.1 k) = 2) ∧ zLFc m S.2.2.2.1 ∧ zLok kd t S.2.2.2.1 ∧ ∃ u, u ≤ 404 ∧ u ≤ t + 4 ∧ mz_rd m 17 4 = nI u ∧ (S.2.2.2.1.1 = 0 → zCln m u S.1 S.2.1 S.2.2.2.2)
/-- what the class may touch while it reads -/
def zFc (m m' : MzM) : Prop := (∀ a i, ¬ (zCP a i ∧ ¬ (23 ≤ a ∧ a ≤ 26)) → mz_rd m' a i = mz_rd m a i) ∧ ∀ a, a ≠ 14 → m'.2 a = m.2 a
def zPers (vl nm : Nat → Nat) (t : Nat) (S : ZX) : ZX := (S.1 + 1, S.2.1, (fun k => if k = S.1 then t + 1 else S.2.2.1 k), zlfs vl 0 99 4 (t + 2) (if (zfn nm S.2.2.1 S.1 (t + 1)).isSome = true then zlt1 3 (t + 1) S.2.2.2.1 else S.2.2.2.1), S.2.2.2.2.1, S.2.2.2.2.2.1, S.2.2.2.2.2.2.1, S.2.2.2.2.2.2.2.1, S.2.2.2.2.2.2.2.2.1, (fun k => if 4 * S.1 ≤ k ∧ k < 4 * S.1 + 4 then vl (t + 2 + (k - 4 * S.1)) else S.2.2.2.2.2.2.2.2.2.1 k), S.2.2.2.2.2.2.2.2.2.2)
def zSuitU (vl nm : Nat → Nat) (t : Nat) (S : ZX) (i j : Nat) : Nat := if i = S.2.1 then (match j with
  | 0 => (zfn nm S.2.2.1 S.1 (t + 1)).getD 0
  | 1 => (zfn nm S.2.2.1 S.1 (t + 2)).getD 0
  | 2 => vl (t + 3)
  | _ => vl (t + 4)) else S.2.2.2.2.1 i j
def zSuitS (vl nm : Nat → Nat) (t : Nat) (S : ZX) : ZX := (S.1, S.2.1 + 1, S.2.2.1, zli vl 0 29 (t + 4) (zli vl 1 30 (t + 3) (zln (zfn nm S.2.2.1 S.1 (t + 2)) (zfn nm S.2.2.1 S.1 (t + 1)) (t + 2) (zln (zfn nm S.2.2.1 S.1 (t + 1)) none (t + 1) S.2.2.2.1))), zSuitU vl nm t S, S.2.2.2.2.2)
/-- plate, thumb, seed -/
def zNumS (vl : Nat → Nat) (w t : Nat) (S : ZX) : ZX := (S.1, S.2.1, S.2.2.1, zli vl (if w = 0 then 1 else 0) (if w = 0 then 9 else if w = 1 then 100 else 9999) (t + 1) S.2.2.2.1, S.2.2.2.2.1, S.2.2.2.2.2.1, S.2.2.2.2.2.2.1, (if w = 1 then vl (t + 1) else S.2.2.2.2.2.2.2.1), (if w = 2 then vl (t + 1) else S.2.2.2.2.2.2.2.2.1), S.2.2.2.2.2.2.2.2.2.1, (if w = 0 then vl (t + 1) else S.2.2.2.2.2.2.2.2.2.2))
def zLawS (k : Nat) (ts : List (ZP × ZP × ZP)) (last : ZP) (S : ZX) : ZX := (S.1, S.2.1, S.2.2.1, S.2.2.2.1, S.2.2.2.2.1, (fun j => if j = k then ts else S.2.2.2.2.2.1 j), (fun j => if j = k then last else S.2.2.2.2.2.2.1 j), S.2.2.2.2.2.2.2)
/-- one told -/
def zTl (kd vl nm : Nat → Nat) (S : ZX) (t : Nat) (A : ZA) (S' : ZX) : Prop :=
  (kd t = 13 ∧ 6 ≤ S.1 ∧ A = .inl (2, t))
  ∨ (kd t = 13 ∧ S.1 < 6 ∧ A = zex kd 4 (zit kd 4 (zex kd 2 (.inr (t + 1)))) ∧ S' = zPers vl nm t S)
  ∨ (kd t = 14 ∧ 8 ≤ S.2.1 ∧ A = .inl (2, t))
  ∨ (kd t = 14 ∧ S.2.1 < 8 ∧ A = zex kd 4 (zex kd 3 (zex kd 3 (zex kd 2 (zex kd 2 (.inr (t + 1)))))) ∧ S' = zSuitS vl nm t S)
  ∨ (∃ w, w < 3 ∧ kd t = 19 + w ∧ A = zex kd 4 (zex kd 3 (.inr (t + 1))) ∧ S' = zNumS vl w t S)
  ∨ (∃ k ts last, k < 4 ∧ kd t = 15 + k ∧ zLl kd vl 4 (zex kd 5 (.inr (t + 1))) ts last A ∧ S' = zLawS k ts last S)
  ∨ (¬ (13 ≤ kd t ∧ kd t ≤ 21) ∧ A = .inl (1, t))
theorem lg_eq {x y : Int64} : lg_cmp x y = 0 ↔ x = y := by
  unfold lg_cmp
  by_cases h : x > y
  · rw [if_pos h]
    refine ⟨fun z => absurd z (by decide), fun e => ?_⟩
    subst e
    have := Int64.lt_iff_toInt_lt.mp h
    omega
  · rw [if_neg h]
    by_cases e : x = y
    · rw [if_pos e]
      exact ⟨fun _ => e, fun _ => rfl⟩
    · rw [if_neg e]
      exact ⟨fun z => absurd z (by decide), fun z => absurd z e⟩
theorem zfi_none {o : Option Nat} (h : zfi o = -1) (hk : ∀ k, o = some k → k < 100) : o = none := by
  match o, h, hk with
  | none, h, _ => rfl
  | some k, h, hk =>
    have b := hk k rfl
    have h : nI k = -1 := h
    exact absurd (show nI k < 0 by rw [h]; decide) (nI_pos (by omega))
theorem zff_lt {p : Nat → Bool} : ∀ (f k j : Nat), zff p f k = some j → k ≤ j ∧ j < k + f ∧ p j = true := by
  intro f
  induction f with
  | zero => intro k j h; exact absurd h (by unfold zff; simp)
  | succ f ih =>
    intro k j h
    unfold zff at h
    by_cases c : p k = true
    · rw [if_pos c] at h
      have : k = j := Option.some.inj h
      subst this
      exact ⟨Nat.le_refl _, by omega, c⟩
    · rw [if_neg c] at h
      obtain ⟨a, b, e⟩ := ih (k + 1) j h
      exact ⟨by omega, by omega, e⟩
theorem zfn_lt {nm tn : Nat → Nat} {np t k : Nat} (h : zfn nm tn np t = some k) : k < np := by
  have := (zff_lt np 0 k h).2.1
  omega
theorem zlt1_ok {kd : Nat → Nat} {f t : Nat} {LF : Nat × Nat} (h : zLok kd t LF) (hf : f < 10) (k : kd t ≠ 0) : zLok kd (t + 1) (zlt1 f t LF) := by
  unfold zlt1
  by_cases c : LF.1 = 0
  · rw [if_pos c]; exact ⟨hf, fun _ => ⟨Nat.lt_succ_self t, k⟩⟩
  · rw [if_neg c]; exact ⟨h.1, fun z => ⟨by have := (h.2 z).1; omega, (h.2 z).2⟩⟩
theorem zLok_s {kd : Nat → Nat} {t t' : Nat} {LF : Nat × Nat} (h : zLok kd t LF) (l : t ≤ t') : zLok kd t' LF := ⟨h.1, fun z => ⟨by have := (h.2 z).1; omega, (h.2 z).2⟩⟩
theorem zli_ok {kd vl : Nat → Nat} {lo hi t : Nat} {LF : Nat × Nat} (h : zLok kd t LF) (k : kd t ≠ 0) : zLok kd (t + 1) (zli vl lo hi t LF) := by
  unfold zli
  by_cases c : vl t < lo ∨ hi < vl t
  · rw [if_pos c]; exact zlt1_ok h (by omega) k
  · rw [if_neg c]; exact zLok_s h (by omega)
theorem zln_ok {kd : Nat → Nat} {o tk : Option Nat} {t : Nat} {LF : Nat × Nat} (h : zLok kd t LF) (k : kd t ≠ 0) : zLok kd (t + 1) (zln o tk t LF) := by
  match o with
  | none => exact zlt1_ok h (by omega) k
  | some j =>
    show zLok kd (t + 1) (if tk = some j then zlt1 3 t LF else LF)
    by_cases c : tk = some j
    · rw [if_pos c]; exact zlt1_ok h (by omega) k
    · rw [if_neg c]; exact zLok_s h (by omega)
theorem zlt1_0 {f t : Nat} {LF : Nat × Nat} (f0 : f ≠ 0) : (zlt1 f t LF).1 ≠ 0 := by
  unfold zlt1
  by_cases c : LF.1 = 0
  · rw [if_pos c]; exact f0
  · rw [if_neg c]; exact c
theorem zli_0 {vl : Nat → Nat} {lo hi t : Nat} {LF : Nat × Nat} (h : (zli vl lo hi t LF).1 = 0) : LF.1 = 0 ∧ lo ≤ vl t ∧ vl t ≤ hi ∧ zli vl lo hi t LF = LF := by
  unfold zli at h ⊢
  by_cases c : vl t < lo ∨ hi < vl t
  · rw [if_pos c] at h; exact absurd h (zlt1_0 (by omega))
  · rw [if_neg c] at h ⊢; exact ⟨h, by omega, by omega, rfl⟩
theorem zln_0 {o tk : Option Nat} {t : Nat} {LF : Nat × Nat} (h : (zln o tk t LF).1 = 0) : LF.1 = 0 ∧ ∃ k, o = some k ∧ tk ≠ some k := by
  match o, h with
  | none, h => exact absurd h (zlt1_0 (by omega))
  | some j, h =>
    have h : (if tk = some j then zlt1 3 t LF else LF).1 = 0 := h
    by_cases c : tk = some j
    · rw [if_pos c] at h; exact absurd h (zlt1_0 (by omega))
    · rw [if_neg c] at h; exact ⟨h, j, rfl, c⟩
theorem zlfs_0 {vl : Nat → Nat} {lo hi : Nat} : ∀ (n t : Nat) (LF : Nat × Nat), (zlfs vl lo hi n t LF).1 = 0 → LF.1 = 0 ∧ ∀ i, i < n → lo ≤ vl (t + i) ∧ vl (t + i) ≤ hi := by
  intro n
  induction n with
  | zero => intro t LF h; exact ⟨h, fun i hi => absurd hi (by omega)⟩
  | succ n ih =>
    intro t LF h
    obtain ⟨a, b⟩ := ih (t + 1) _ h
    obtain ⟨c1, c2, c3, c4⟩ := zli_0 a
    refine ⟨c1, fun i hi => ?_⟩
    match i with
    | 0 => exact ⟨c2, c3⟩
    | i + 1 =>
      have := b i (by omega)
      rw [show t + 1 + i = t + (i + 1) by omega] at this
      exact this
theorem zlfs_ok {kd vl : Nat → Nat} {lo hi : Nat} : ∀ (n t : Nat) (LF : Nat × Nat), zLok kd t LF → (∀ i, i < n → kd (t + i) ≠ 0) → zLok kd (t + n) (zlfs vl lo hi n t LF) := by
  intro n
  induction n with
  | zero => intro t LF h _; exact h
  | succ n ih =>
    intro t LF h k
    have := ih (t + 1) _ (zli_ok (vl := vl) (lo := lo) (hi := hi) h (k 0 (by omega))) (fun i hi => by rw [show t + 1 + i = t + (i + 1) by omega]; exact k (i + 1) (by omega))
    rw [show t + 1 + n = t + (n + 1) by omega] at this
    exact this
theorem zit_r {kd : Nat → Nat} : ∀ (n : Nat) (A : ZA) (t' : Nat), zit kd n A = .inr t' → ∃ t, A = .inr t ∧ t' = t + n ∧ ∀ i, i < n → kd (t + i) = 3 := by
  intro n
  induction n with
  | zero => intro A t' h; exact ⟨t', h, rfl, fun i hi => absurd hi (by omega)⟩
  | succ n ih =>
    intro A t' h
    obtain ⟨t, h1, h2, h3⟩ := ih _ t' h
    obtain ⟨s, q1, q2, q3⟩ := zex_r h1
    refine ⟨s, q1, by omega, fun i hi => ?_⟩
    match i with
    | 0 => exact q2
    | i + 1 =>
      have := h3 i (by omega)
      rw [q3, show s + 1 + i = s + (i + 1) by omega] at this
      exact this
theorem zcn_it {kd : Nat → Nat} : ∀ (n t : Nat) (A : ZA), zcnA kd t A → zcnA kd t (zit kd n A) := by
  intro n
  induction n with
  | zero => intro t A h; exact h
  | succ n ih => intro t A h; exact ih t _ (zcn_ex (by omega) h)
section ZCtell
variable {kd vl nm pl : Nat → Nat}
theorem zAD_2 {m : MzM} {A : ZA} (a : zAD kd m A) : ∃ t, t ≤ 402 ∧ mz_rd m 22 2 = nI t := by
  match A, a with
  | .inl e, a => exact ⟨e.2, a.2.2.2.2.1, a.2.2.2.2.2⟩
  | .inr t, a => exact ⟨t, a.2.2.2, a.2.1⟩
theorem c_lat {d t f : Nat} {m : MzM} {LF : Nat × Nat} (h : zLFc m LF) (h2 : mz_rd m 22 2 = nI t) (hf : f < 10) : ∃ m', R_X4_failLater d (nI f) m = some m' ∧ zFr (fun a i => a = 22 ∧ (i = 6 ∨ i = 7)) m m' ∧ zLFc m' (zlt1 f t LF) := by
  obtain ⟨h6, h10, h7⟩ := h
  have x := R_X4_failLater_eq d (nI f) m
  unfold zlt1
  by_cases c : LF.1 = 0
  · rw [h6, if_neg (show ¬ ¬ nI LF.1 = 0 from fun z => z (by rw [c]; rfl)), m_ni (show 2 ≠ 6 by omega), h2] at x
    rw [if_pos c]
    exact ⟨_, x, zFr_w2 (zFr_w ⟨rfl, Or.inl rfl⟩) ⟨rfl, Or.inr rfl⟩, by rw [m_ni (by omega), m_eq], hf, fun _ => m_eq⟩
  · rw [h6, if_pos (show ¬ nI LF.1 = 0 from k_ne (b := 0) (by omega) (by omega) c)] at x
    rw [if_neg c]
    exact ⟨m, x, zFr_r, h6, h10, h7⟩
theorem c_valG {d t : Nat} {m : MzM} (h : zTok kd vl nm pl m) (ht : t ≤ 402) : ∃ w, R_X9_value d (nI t) m = some (w, m) := by
  obtain ⟨h1, h2, sz, s1, s2, s3, s4⟩ := h
  have x := R_X9_value_eq d (nI t) m
  rw [if_neg (nI_pos (by omega)), s2] at x
  by_cases c : sz ≤ t
  · rw [if_pos (nI_le c (by omega))] at x
    exact ⟨_, x⟩
  · rw [if_neg (nI_ge (by omega) (by omega)), n_ok (by omega), n_gd (by omega)] at x
    exact ⟨_, x⟩
theorem zFx67 {m m' : MzM} (f : zFr (fun a i => a = 22 ∧ (i = 6 ∨ i = 7)) m m') : zFr (fun a i => a = 22 ∧ 2 ≤ i ∧ i ≤ 7) m m' := zFr_m f (fun a i z => by omega)
theorem zFx25 {m m' : MzM} (f : zFr (fun a i => a = 22 ∧ 2 ≤ i ∧ i ≤ 5) m m') : zFr (fun a i => a = 22 ∧ 2 ≤ i ∧ i ≤ 7) m m' := zFr_m f (fun a i z => by omega)
theorem zTok_22 {m m' : MzM} (h : zTok kd vl nm pl m) (f : zFr (fun a i => a = 22 ∧ 2 ≤ i ∧ i ≤ 7) m m') : zTok kd vl nm pl m' := zTok_f h f (fun a i z => by omega)
theorem zLFc_f {m m' : MzM} {LF : Nat × Nat} (h : zLFc m LF) (f : zFr (fun a i => a = 22 ∧ 2 ≤ i ∧ i ≤ 5) m m') : zLFc m' LF := ⟨(f.1 _ _ (by omega)).trans h.1, h.2.1, fun z => (f.1 _ _ (by omega)).trans (h.2.2 z)⟩
theorem zAl_67 {m m' : MzM} {t : Nat} (a : zAl kd m t) (f : zFr (fun a i => a = 22 ∧ (i = 6 ∨ i = 7)) m m') : zAl kd m' t := ⟨(f.1 _ _ (by omega)).trans a.1, (f.1 _ _ (by omega)).trans a.2.1, (f.1 _ _ (by omega)).trans a.2.2.1, a.2.2.2⟩
/-- an int within bounds -/
theorem c_int {d lo hi : Nat} {m : MzM} {A : ZA} {LF : Nat × Nat} (h : zTok kd vl nm pl m) (a : zAD kd m A) (hl : ∀ t, A = .inr t → zLFc m LF) (b1 : lo < 10000) (b2 : hi < 10000) : ∃ v m', R_X4_readInt d (nI lo) (nI hi) m = some (v, m') ∧ zFr (fun a i => a = 22 ∧ 2 ≤ i ∧ i ≤ 7) m m' ∧ zAD kd m' (zex kd 3 A) ∧ ∀ t, A = .inr t → kd t = 3 → v = nI (vl t) ∧ zLFc m' (zli vl lo hi t LF) := by
  have x := R_X4_readInt_eq d (nI lo) (nI hi) m
  by_cases c : ∃ t, A = .inr t ∧ kd t = 3
  · obtain ⟨t, rfl, k⟩ := c
    have bv := (h.1 t).2
    have L := hl t rfl
    have a' : zAl kd m t := a
    rw [a'.2.1, c_val h k, Option.bind_some] at x
    dsimp only at x
    rw [lN_i, if_neg (show ¬ ¬ mz_rd m 22 3 = 3 from fun z => z (by rw [a'.2.2.1, k]; rfl))] at x
    obtain ⟨m1, e1, f1, L1⟩ := c_lat (d := d) (f := 5) L a'.2.1 (by omega)
    have e1 : R_X4_failLater d 5 m = some m1 := e1
    by_cases o : vl t < lo ∨ hi < vl t
    · obtain ⟨m2, e2, f2, a2⟩ := c_exA (d := d) (k := 3) (A := .inr t) (zTok_22 h (zFx67 f1)) (zAl_67 a' f1) (by omega) (by omega)
      have e2 : R_X4_expect d 3 m1 = some m2 := e2
      refine ⟨nI (vl t), m2, ?_, zFr_t (zFx67 f1) (zFx25 f2), a2, fun t' z _ => ?_⟩
      · rw [x, e1, Option.bind_some, e2, Option.bind_some]
        by_cases o1 : vl t < lo
        · rw [if_pos (nI_lt o1 (by omega))]
        · rw [if_neg (nI_nlt (by omega) (by omega)), if_neg (nI_ge (by omega) (by omega))]
      · have : t = t' := Sum.inr.inj z
        subst this
        refine ⟨rfl, zLFc_f ?_ f2⟩
        unfold zli
        rw [if_pos o]
        exact L1
    · obtain ⟨m2, e2, f2, a2⟩ := c_exA (d := d) (k := 3) (A := .inr t) h a (by omega) (by omega)
      have e2 : R_X4_expect d 3 m = some m2 := e2
      refine ⟨nI (vl t), m2, ?_, zFx25 f2, a2, fun t' z _ => ?_⟩
      · rw [x, if_neg (nI_nlt (by omega) (by omega)), if_pos (nI_le (by omega) (by omega)), e2, Option.bind_some]
      · have : t = t' := Sum.inr.inj z
        subst this
        refine ⟨rfl, zLFc_f ?_ f2⟩
        unfold zli
        rw [if_neg o]
        exact L
  · obtain ⟨t2, t2b, h2⟩ := zAD_2 a
    obtain ⟨w, hw⟩ := c_valG (d := d) h t2b
    have k3 : ¬ mz_rd m 22 3 = 3 := by
      match A, a, c with
      | .inl e, a, c => rw [a.2.2.1]; decide
      | .inr t, a, c => exact zAl_ne h a (k := 3) (by omega) (fun z => c ⟨t, rfl, z⟩)
    obtain ⟨m2, e2, f2, a2⟩ := c_exA (d := d) (k := 3) h a (by omega) (by omega)
    have e2 : R_X4_expect d 3 m = some m2 := e2
    rw [h2, hw, Option.bind_some] at x
    dsimp only at x
    rw [if_pos k3, e2, Option.bind_some] at x
    exact ⟨_, m2, x, zFx25 f2, a2, fun t z k => absurd ⟨t, z, k⟩ c⟩
theorem c_named {d np v : Nat} {tn : Nat → Nat} {m : MzM} (h4 : mz_rd m 13 4 = nI np) (hp : np ≤ 6) (hn : ∀ k, k < np → mz_rl m 14 k = lN (nm (tn k)) ∧ nm (tn k) < 2 ^ 63) (hv : v < 2 ^ 63) : ∀ f k, k + f = np → H_X8_personNamed_2 d 13 (lN v) (nI k) m = some (zfi (zff (fun k => decide (nm (tn k) = v)) f k), m) := by
  have t13 : mz_isT 13 = true := by decide +kernel
  intro f
  induction f with
  | zero =>
    intro k e
    rw [H_X8_personNamed_2_eq d 13 _ _ m t13, h4, if_pos (nI_le (by omega) (by omega))]
    rfl
  | succ f ih =>
    intro k e
    have q := hn k (by omega)
    have q1 : mz_rl m (13 + 1) k = lN (nm (tn k)) := q.1
    rw [H_X8_personNamed_2_eq d 13 _ _ m t13, h4, if_neg (nI_ge (by omega) (by omega)), n_ok (by omega), n_gd (by omega), nI_clamp (by omega), q1, nI_1]
    unfold zff
    by_cases c : nm (tn k) = v
    · rw [if_neg (fun z => z (lg_eq.mpr (by rw [c]))), if_pos (decide_eq_true c)]
      rfl
    · rw [if_pos (fun z => c ((pk_lEQ q.2 hv).mp (lg_eq.mp z))), if_neg (fun z => c (of_decide_eq_true z)), ih (k + 1) (by omega)]
/-- a name -/
theorem c_name {d np : Nat} {tn : Nat → Nat} {m : MzM} {A : ZA} {LF : Nat × Nat} (tkn : Option Nat) (ht : ∀ k, tkn = some k → k < 6) (h : zTok kd vl nm pl m) (a : zAD kd m A) (hl : ∀ t, A = .inr t → zLFc m LF) (hm : ∀ t, kd t = 2 → nm t < 2 ^ 63) (h4 : mz_rd m 13 4 = nI np) (hp : np ≤ 6) (hn : ∀ k, k < np → mz_rl m 14 k = lN (nm (tn k)) ∧ kd (tn k) = 2) : ∃ v m', R_X4_readName d (zfi tkn) m = some (v, m') ∧ zFr (fun a i => a = 22 ∧ 2 ≤ i ∧ i ≤ 7) m m' ∧ zAD kd m' (zex kd 2 A) ∧ ((∀ t, A = .inr t → kd t ≠ 2) → v = -1) ∧ ∀ t, A = .inr t → kd t = 2 → v = zfi (zfn nm tn np t) ∧ zLFc m' (zln (zfn nm tn np t) tkn t LF) := by
  have x := R_X4_readName_eq d (zfi tkn) m
  have t13 : mz_isT 13 = true := by decide +kernel
  by_cases c : ∃ t, A = .inr t ∧ kd t = 2
  · obtain ⟨t, rfl, k⟩ := c
    have L := hl t rfl
    have a' : zAl kd m t := a
    have nd := c_named (d := d) (v := nm t) h4 hp (fun k hk => ⟨(hn k hk).1, hm _ (hn k hk).2⟩) (hm t k) np 0 (by omega)
    have nd : H_X8_personNamed_2 d 13 (lN (nm t)) 0 m = some (zfi (zfn nm tn np t), m) := nd
    rw [if_neg (show ¬ ¬ mz_rd m 22 3 = 2 from fun z => z (by rw [a'.2.2.1, k]; rfl)), a'.2.1, c_valN h k, Option.bind_some] at x
    dsimp only at x
    rw [R_X8_personNamed_eq d 13 _ m t13, nd, Option.bind_some] at x
    dsimp only at x
    have bo : ∀ j, zfn nm tn np t = some j → j < 100 := fun j hj => by have := zfn_lt hj; omega
    match ho : zfn nm tn np t with
    | none =>
      rw [ho] at x
      obtain ⟨m1, e1, f1, L1⟩ := c_lat (d := d) (f := 4) L a'.2.1 (by omega)
      have e1 : R_X4_failLater d 4 m = some m1 := e1
      obtain ⟨m2, e2, f2, a2⟩ := c_exA (d := d) (k := 2) (A := .inr t) (zTok_22 h (zFx67 f1)) (zAl_67 a' f1) (by omega) (by omega)
      have e2 : R_X4_expect d 2 m1 = some m2 := e2
      rw [if_neg (show ¬ ¬ zfi none = -1 from fun z => z rfl), e1, Option.bind_some, e2, Option.bind_some] at x
      refine ⟨_, m2, x, zFr_t (zFx67 f1) (zFx25 f2), a2, fun z => absurd k (z t rfl), fun t' z _ => ?_⟩
      have : t = t' := Sum.inr.inj z
      subst this
      rw [ho]
      exact ⟨rfl, zLFc_f L1 f2⟩
    | some j =>
      rw [ho] at x
      have jb := bo j ho
      have n1 : ¬ zfi (some j) = -1 := fun z => by have := zfi_none z (fun k e => by have := Option.some.inj e; omega); exact absurd this (by simp)
      by_cases c3 : tkn = some j
      · obtain ⟨m1, e1, f1, L1⟩ := c_lat (d := d) (f := 3) L a'.2.1 (by omega)
        have e1 : R_X4_failLater d 3 m = some m1 := e1
        obtain ⟨m2, e2, f2, a2⟩ := c_exA (d := d) (k := 2) (A := .inr t) (zTok_22 h (zFx67 f1)) (zAl_67 a' f1) (by omega) (by omega)
        have e2 : R_X4_expect d 2 m1 = some m2 := e2
        rw [if_pos n1, if_neg (show ¬ ¬ zfi (some j) = zfi tkn from fun z => z (by rw [c3])), e1, Option.bind_some, e2, Option.bind_some] at x
        refine ⟨_, m2, x, zFr_t (zFx67 f1) (zFx25 f2), a2, fun z => absurd k (z t rfl), fun t' z _ => ?_⟩
        have : t = t' := Sum.inr.inj z
        subst this
        rw [ho]
        refine ⟨rfl, ?_⟩
        show zLFc m2 (if tkn = some j then zlt1 3 t LF else LF)
        rw [if_pos c3]
        exact zLFc_f L1 f2
      · obtain ⟨m2, e2, f2, a2⟩ := c_exA (d := d) (k := 2) (A := .inr t) h a (by omega) (by omega)
        have e2 : R_X4_expect d 2 m = some m2 := e2
        have nj : ¬ zfi (some j) = zfi tkn := fun z => by
          match tkn, ht, c3, z with
          | none, _, _, z => exact n1 z
          | some i, ht, c3, z =>
            have := ht i rfl
            exact c3 (by rw [(nI_eq (a := j) (b := i) (by omega) (by omega)).mp z])
        rw [if_pos n1, if_pos nj, e2, Option.bind_some] at x
        refine ⟨_, m2, x, zFx25 f2, a2, fun z => absurd k (z t rfl), fun t' z _ => ?_⟩
        have : t = t' := Sum.inr.inj z
        subst this
        rw [ho]
        refine ⟨rfl, ?_⟩
        show zLFc m2 (if tkn = some j then zlt1 3 t LF else LF)
        rw [if_neg c3]
        exact zLFc_f L f2
  · have k2 : ¬ mz_rd m 22 3 = 2 := by
      match A, a, c with
      | .inl e, a, c => rw [a.2.2.1]; decide
      | .inr t, a, c => exact zAl_ne h a (k := 2) (by omega) (fun z => c ⟨t, rfl, z⟩)
    obtain ⟨m2, e2, f2, a2⟩ := c_exA (d := d) (k := 2) h a (by omega) (by omega)
    have e2 : R_X4_expect d 2 m = some m2 := e2
    rw [if_pos k2, e2, Option.bind_some] at x
    exact ⟨_, m2, x, zFx25 f2, a2, fun _ => rfl, fun t z k => absurd ⟨t, z, k⟩ c⟩
/-- a person's cases -/
theorem c_ints {d np : Nat} (hp : np < 6) : ∀ (n j : Nat) (m : MzM) (A : ZA) (LF : Nat × Nat), j + n = 4 → zTok kd vl nm pl m → zAD kd m A → (∀ t, A = .inr t → zLFc m LF) → ∃ m', H_X4_readPerson_97 d (nI np) (nI j) m = some m' ∧ zFr (fun a i => (a = 22 ∧ 2 ≤ i ∧ i ≤ 7) ∨ (a = 15 ∧ 4 * np + j ≤ i ∧ i < 4 * np + 4)) m m' ∧ zAD kd m' (zit kd n A) ∧ ∀ t, A = .inr t → (∀ i, i < n → kd (t + i) = 3) → (∀ i, i < n → mz_rd m' 15 (4 * np + j + i) = nI (vl (t + i))) ∧ zLFc m' (zlfs vl 0 99 n t LF) := by
  intro n
  induction n with
  | zero =>
    intro j m A LF e h a hl
    refine ⟨m, ?_, zFr_r, a, fun t z _ => ⟨fun i hi => absurd hi (by omega), hl t z⟩⟩
    rw [H_X4_readPerson_97_eq, if_pos (show (4 : Int32) ≤ nI j from nI_le (a := 4) (by omega) (by omega))]
  | succ n ih =>
    intro j m A LF e h a hl
    obtain ⟨v, m1, e1, f1, a1, p1⟩ := c_int (d := d) (lo := 0) (hi := 99) h a hl (by omega) (by omega)
    have e1 : R_X4_readInt d 0 99 m = some (v, m1) := e1
    obtain ⟨m2, hm⟩ : ∃ q : MzM, q = mz_wr m1 15 (4 * np + j) v := ⟨_, rfl⟩
    have F2 : zFr (fun a i => a = 15 ∧ i = 4 * np + j) m1 m2 := by rw [hm]; exact zFr_w ⟨rfl, rfl⟩
    obtain ⟨m3, e3, f3, a3, p3⟩ := ih (j + 1) m2 (zex kd 3 A) (match A with | .inr t => zli vl 0 99 t LF | .inl _ => LF) (by omega) (zTok_f (zTok_22 h f1) F2 (fun a i z => by omega)) (zAD_f a1 F2 (fun a i z => by omega)) (fun t z => by
      obtain ⟨s, q1, q2, q3⟩ := zex_r z
      subst q1
      have L := (p1 s rfl q2).2
      exact ⟨(F2.1 _ _ (by omega)).trans L.1, L.2.1, fun w => (F2.1 _ _ (by omega)).trans (L.2.2 w)⟩)
    refine ⟨m3, ?_, zFr_t (zFr_m f1 (fun a i z => Or.inl z)) (zFr_t (zFr_m F2 (fun a i z => Or.inr (by omega))) (zFr_m f3 (fun a i z => by omega))), a3, fun t z k => ?_⟩
    · have t4 : nI np * 4 + nI j = nI (4 * np + j) := by
        rw [show nI np * 4 = nI (np * 4) from pk_mul np 4, nI_add, Nat.mul_comm]
      rw [H_X4_readPerson_97_eq, if_neg (show ¬ (4 : Int32) ≤ nI j from nI_ge (b := 4) (by omega) (by omega)), e1, Option.bind_some]
      dsimp only
      rw [t4, n_ok (by omega), n_gd (by omega), nI_clamp (by omega), nI_1, ← hm]
      exact e3
    · subst z
      have k0 := k 0 (by omega)
      have k0 : kd t = 3 := k0
      have q := p3 (t + 1) (if_pos k0) (fun i hi => by rw [show t + 1 + i = t + (i + 1) by omega]; exact k (i + 1) (by omega))
      refine ⟨fun i hi => ?_, q.2⟩
      match i with
      | 0 =>
        show mz_rd m3 15 (4 * np + j + 0) = nI (vl (t + 0))
        rw [f3.1 15 _ (by omega), hm, Nat.add_zero, m_eq]
        exact (p1 t rfl k0).1
      | i + 1 =>
        have := q.1 i (by omega)
        rw [show 4 * np + (j + 1) + i = 4 * np + j + (i + 1) by omega, show t + 1 + i = t + (i + 1) by omega] at this
        exact this
end ZCtell
