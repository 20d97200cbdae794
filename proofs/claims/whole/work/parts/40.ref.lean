/-! the reference's turns over rows -/
def zRE0 (a i : Nat) : Prop := a = 269 ∨ (a = 239 ∧ i = 46)
def zRE (a i : Nat) : Prop := a = 268 ∨ a = 269 ∨ (a = 239 ∧ i = 46)
def zRT (a i : Nat) : Prop := a = 271 ∨ a = 272 ∨ a = 268 ∨ a = 269 ∨ (a = 239 ∧ i = 46)
def zRx (a i : Nat) : Prop := (a = 239 ∧ i = 18) ∨ a = 248 ∨ (250 ≤ a ∧ a ≤ 254) ∨ (256 ≤ a ∧ a ≤ 266)
def zpl (k : Nat) (f : Nat → Int32) : Int32 := match k with
  | 1 => f 5
  | 3 => 1
  | _ => 0
/-- what the reference holds of the side lv -/
def zRl (lv a i : Nat) : Prop := (a = 239 ∧ i = 18) ∨ ((a = 248 ∨ a = 250 ∨ a = 256 ∨ a = 257) ∧ i = lv) ∨ (251 ≤ a ∧ a ≤ 254 ∧ 8 * lv ≤ i ∧ i < 8 * lv + 8) ∨ ((a = 258 ∨ a = 259) ∧ 4 * lv ≤ i ∧ i < 4 * lv + 4) ∨ (260 ≤ a ∧ a ≤ 264 ∧ 130 * lv ≤ i ∧ i < 130 * lv + 130) ∨ (265 ≤ a ∧ a ≤ 266 ∧ 420 * lv ≤ i ∧ i < 420 * lv + 420)
/-- the reference's laws tell L -/
def zLR (lv : Nat) (m : MzM) (L : Nat → (Nat → Int32) → Int32) : Prop := ∀ (m1 : MzM) (f : Nat → Int32) (k d : Nat), (∀ a i, zRl lv a i → mz_rd m1 a i = mz_rd m a i) → (∀ i, i < 9 → mz_rd m1 268 i = f i) → k < 4 → ∃ m2, R_X12_lawTells d (nI k) (zpl k f) m1 = some (L k f, m2) ∧ zFr zRE0 m1 m2
def zTR (T : ZT) (lv : Nat) (m : MzM) : Prop := zTW T ∧ lv < 2 ∧ mz_rd m 239 18 = nI lv ∧ mz_rd m 248 lv = nI (tN T) ∧ mz_rd m 250 lv = nI (tS T) ∧ (∀ i, i < tS T → mz_rd m 251 (8 * lv + i) = nI (tU T i 0) ∧ mz_rd m 252 (8 * lv + i) = nI (tU T i 1) ∧ mz_rd m 253 (8 * lv + i) = nI (tU T i 2) ∧ mz_rd m 254 (8 * lv + i) = nI (tU T i 3)) ∧ mz_rd m 256 lv = nI (tH T) ∧ mz_rd m 257 lv = nI (tD T) ∧ zLR lv m (tL T)
theorem zTR_l {T : ZT} {lv : Nat} {m m' : MzM} (h : zTR T lv m) (g : ∀ a i, zRl lv a i → mz_rd m' a i = mz_rd m a i) : zTR T lv m' := by
  obtain ⟨h1, h2, h3, h4, h5, h6, h7, h8, h9⟩ := h
  have s8 := h1.2.1
  refine ⟨h1, h2, (g _ _ (by unfold zRl; omega)).trans h3, (g _ _ (by unfold zRl; omega)).trans h4, (g _ _ (by unfold zRl; omega)).trans h5, fun i hi => ?_, (g _ _ (by unfold zRl; omega)).trans h7, (g _ _ (by unfold zRl; omega)).trans h8, ?_⟩
  · obtain ⟨i1, i2, i3, i4⟩ := h6 i hi
    have hi8 : i < 8 := Nat.lt_of_lt_of_le hi s8
    exact ⟨(g _ _ (by unfold zRl; omega)).trans i1, (g _ _ (by unfold zRl; omega)).trans i2, (g _ _ (by unfold zRl; omega)).trans i3, (g _ _ (by unfold zRl; omega)).trans i4⟩
  · intro m1 f k d e1
    exact h9 m1 f k d (fun a i t => (e1 a i t).trans (g a i t))
theorem zTR_f {T : ZT} {lv : Nat} {m m' : MzM} (h : zTR T lv m) (g : ∀ a i, zRx a i → mz_rd m' a i = mz_rd m a i) : zTR T lv m' := zTR_l h (fun a i t => g a i (by unfold zRl at t; unfold zRx; omega))
def zRA (np : Nat) (m : MzM) (a : Nat) (v : Nat → Nat) : Prop := ∀ k, k < 39 → (k < 4 * np ∨ 24 ≤ k) → mz_rd m a k = nI (v k)
theorem zRA_f {np a : Nat} {m m' : MzM} {v : Nat → Nat} (h : zRA np m a v) (g : ∀ i, mz_rd m' a i = mz_rd m a i) : zRA np m' a v := fun k h1 h2 => (g k).trans (h k h1 h2)
theorem zRA_u {np a : Nat} {m : MzM} {v : Nat → Nat} (h : zRA np m a v) (k x : Nat) : zRA np (mz_wr m a k (nI x)) a (zUpd v k x) := by
  intro j h1 h2
  rw [m_rw]
  by_cases e : j = k
  · subst e
    rw [if_pos ⟨rfl, rfl⟩, zUpd_s]
  · rw [if_neg (fun z => e z.2), zUpd_n e]
    exact h j h1 h2
theorem zRE0_E {m m' : MzM} (f : zFr zRE0 m m') : zFr zRE m m' := zFr_m f (fun a i h => by unfold zRE0 at h; unfold zRE; omega)
theorem zRE_T {m m' : MzM} (f : zFr zRE m m') : zFr zRT m m' := zFr_m f (fun a i h => by unfold zRE at h; unfold zRT; omega)
theorem zTR_T {T : ZT} {lv : Nat} {m m' : MzM} (h : zTR T lv m) (f : zFr zRT m m') : zTR T lv m' := zTR_f h (fun a i t => f.1 a i (by unfold zRT; unfold zRx at t; omega))
theorem zTR_E {T : ZT} {lv : Nat} {m m' : MzM} (h : zTR T lv m) (f : zFr zRE m m') : zTR T lv m' := zTR_T h (zRE_T f)
theorem zRA_E {np : Nat} {m m' : MzM} {v : Nat → Nat} (h : zRA np m 271 v) (f : zFr zRE m m') : zRA np m' 271 v := zRA_f h (fun i => f.1 271 i (by unfold zRE; omega))
theorem zhd_r {n : Nat} (x : Int32) (hn : n < 2 ^ 31) {m : MzM} {d : Nat} : R_X12_within d x 0 (nI n) m = some (nI (zhd n x), m) := by
  rw [R_X12_within_eq]
  unfold zhd
  by_cases h : x ≤ 0
  · rw [if_pos h]
    by_cases h2 : 0 ≤ x
    · have e : x = 0 := Int32.le_antisymm h h2
      subst e
      rw [if_pos h2, if_pos (nI_pos' hn)]
      rfl
    · rw [if_neg h2]; rfl
  · rw [if_neg h, if_pos (Int32.le_of_lt (Int32.not_le.mp h))]
    obtain ⟨j, hj, rfl⟩ := nI_of (x := x) (fun z => h (Int32.le_of_lt z))
    by_cases h2 : j < n
    · rw [if_pos ((nI_leI hj hn).mpr (by omega)), if_pos ((nI_ltI hj hn).mpr h2), nI_clamp hj]
    · rw [if_neg (fun z => h2 ((nI_ltI hj hn).mp z))]
      by_cases h3 : j = n
      · subst h3; rw [if_pos ((nI_leI hj hn).mpr (Nat.le_refl _))]
      · rw [if_neg (fun z => h3 (by have := (nI_leI hj hn).mp z; omega))]
theorem r_off {d x y : Nat} {m : MzM} (hx : x < 2 ^ 31) (hy : y < 2 ^ 31) : R_X12_off d (nI x) (nI y) m = some (nI (zdf x y), m) := by
  rw [R_X12_off_eq]
  unfold zdf
  by_cases c : y ≤ x
  · rw [if_pos ((nI_leI hy hx).mpr c), pk_sub c]
    by_cases c2 : x ≤ y
    · rw [if_pos c2, show x - y = y - x by omega]
    · rw [if_neg c2]
  · rw [if_neg (fun z => c ((nI_leI hy hx).mp z)), if_pos (by omega), pk_sub (by omega)]
section ZRf
variable {T : ZT} {np lv d a b B : Nat} {m : MzM} {v : Nat → Nat}

theorem r_four {k : Nat} (hk : k + 3 < 39) (e0 : mz_rd m 271 k = nI (v k)) (e1 : mz_rd m 271 (k + 1) = nI (v (k + 1))) (e2 : mz_rd m 271 (k + 2) = nI (v (k + 2))) (e3 : mz_rd m 271 (k + 3) = nI (v (k + 3))) : R_X12_fourFrom d (nI k) m = some (nI (v k + v (k + 1) + v (k + 2) + v (k + 3)), m) := by
  have a1 : nI k + 1 = nI (k + 1) := nI_1 k
  have a2 : nI k + 2 = nI (k + 2) := nI_add k 2
  have a3 : nI k + 3 = nI (k + 3) := nI_add k 3
  rw [R_X12_fourFrom_eq, a1, a2, a3, n_ok (by omega), n_ok (by omega), n_ok (by omega), n_ok (by omega), n_gd (by omega), n_gd (by omega), n_gd (by omega), n_gd (by omega), nI_clamp (by omega), nI_clamp (by omega), nI_clamp (by omega), nI_clamp (by omega), e0, e1, e2, e3, nI_add, nI_add, nI_add]
theorem r_of (h : zRA np m 271 v) (hn : np ≤ 6) {p : Nat} (hp : p < np) : R_X12_fourFrom d ((4 : Int32) * nI p) m = some (nI (zof v p), m) := by
  rw [z_mul4, r_four (v := v) (by omega) (h _ (by omega) (by omega)) (h _ (by omega) (by omega)) (h _ (by omega) (by omega)) (h _ (by omega) (by omega))]
  rfl
theorem r_sc (h : zRA np m 271 v) : R_X12_fourFrom d 30 m = some (nI (zsc v), m) := r_four (v := v) (k := 30) (by omega) (h _ (by omega) (by omega)) (h _ (by omega) (by omega)) (h _ (by omega) (by omega)) (h _ (by omega) (by omega))
theorem r_apart (h : zRA np m 271 v) (hn : np ≤ 6) (hB : zB np B v) (ha : a < np) (hb : b < np) : R_X12_apartOf d (nI a) (nI b) m = some (nI (zap v a b), m) := by
  have hB2 := hB.2.2.2
  have st : ∀ t, t < 4 → H_X12_apartOf_5 d (nI a) (nI b) (nI (zapt v a b t)) (nI t) m = H_X12_apartOf_5 d (nI a) (nI b) (nI (zapt v a b (t + 1))) (nI (t + 1)) m := by
    intro t ht
    have b1 := zB_a hB ha ht
    have b2 := zB_a hB hb ht
    rw [H_X12_apartOf_5_eq, if_neg (n_le4 ht), z_mul4, z_mul4, nI_add, nI_add, n_ok (by omega), n_ok (by omega), n_gd (by omega), n_gd (by omega), nI_clamp (by omega), nI_clamp (by omega), h _ (by omega) (by omega), h _ (by omega) (by omega), r_off (by omega) (by omega), Option.bind_some]
    dsimp only
    rw [nI_add, nI_1]
    rfl
  rw [R_X12_apartOf_eq]
  show H_X12_apartOf_5 d (nI a) (nI b) (nI (zapt v a b 0)) (nI 0) m = _
  rw [st 0 (by omega), st 1 (by omega), st 2 (by omega), st 3 (by omega), H_X12_apartOf_5_eq, if_pos n_4le, zapt_4]
def zV5r (m : MzM) (v : Nat → Nat) (a b : Nat) : Prop := ∀ i, i = 1 ∨ i = 2 ∨ i = 5 ∨ i = 6 ∨ i = 7 → mz_rd m 268 i = zqv v a b i
theorem r_looks (h : zRA np m 271 v) (hn : np ≤ 6) (hB : zB np B v) (ha : a < np) (hb : b < np) : ∃ m', R_X12_looks d (nI a) (nI b) m = some m' ∧ zFr zRE m m' ∧ zV5r m' v a b := by
  have e34 := h 34 (by omega) (by omega)
  have e35 := h 35 (by omega) (by omega)
  have e36 := h 36 (by omega) (by omega)
  have e37 := h 37 (by omega) (by omega)
  rw [R_X12_looks_eq, m_ne (show 271 ≠ 268 by omega), e34, e35]
  have f1 : zFr zRE m (mz_wr (mz_wr m 268 1 (nI (v 34))) 268 2 (nI (v 35))) := zFr_w2 (zFr_w (Or.inl rfl)) (Or.inl rfl)
  rw [r_apart (zRA_E h f1) hn hB ha hb, Option.bind_some]
  dsimp only
  rw [m_ne (show 271 ≠ 268 by omega), m_ne (show 271 ≠ 268 by omega), m_ne (show 271 ≠ 268 by omega), m_ne (show 271 ≠ 268 by omega), m_ne (show 271 ≠ 268 by omega), m_ne (show 271 ≠ 268 by omega), m_ne (show 271 ≠ 268 by omega), e36, e37]
  refine ⟨_, rfl, zFr_w2 (zFr_w2 (zFr_w2 f1 (Or.inl rfl)) (Or.inl rfl)) (Or.inl rfl), ?_⟩
  intro i hi
  rcases hi with rfl | rfl | rfl | rfl | rfl <;> simp [m_rw, zqv, zvr]
theorem r_looksBoth (h : zRA np m 271 v) (hn : np ≤ 6) (hB : zB np B v) (ha : a < np) (hb : b < np) : ∃ m', R_X12_looksBoth d (nI a) (nI b) m = some m' ∧ zFr zRE m m' ∧ ∀ i, i < 9 → mz_rd m' 268 i = zqv v a b i := by
  have hB2 := hB.2.2.2
  obtain ⟨m1, e1, f1, g1⟩ := r_looks (d := d) h hn hB ha hb
  have h1 := zRA_E h f1
  have st : ∀ (m2 : MzM) (t : Nat), 0 < t → t < 4 → zFr zRE m m2 → zV5r m2 v a b → mz_rd m2 268 0 = nI (zmo v a b t).2 → mz_rd m2 268 8 = nI (zmo v a b t).1 → mz_rd m2 268 3 = 0 → mz_rd m2 268 4 = 0 → ∃ m3, H_X12_looksBoth_55 d (nI a) (nI b) (nI t) m2 = H_X12_looksBoth_55 d (nI a) (nI b) (nI (t + 1)) m3 ∧ zFr zRE m m3 ∧ zV5r m3 v a b ∧ mz_rd m3 268 0 = nI (zmo v a b (t + 1)).2 ∧ mz_rd m3 268 8 = nI (zmo v a b (t + 1)).1 ∧ mz_rd m3 268 3 = 0 ∧ mz_rd m3 268 4 = 0 := by
    intro m2 t h0 ht F V e0 e8 e3 e4
    have h2 := zRA_E h F
    have b1 := zB_a hB ha ht
    have b2 := zB_a hB hb ht
    have k1 := (zmo_le hB ha hb 4 (by omega)).2 t ht
    have k2 := (zmo_le hB ha hb t (by omega)).1
    rw [H_X12_looksBoth_55_eq, if_neg (n_le4 ht), z_mul4, z_mul4, nI_add, nI_add, n_ok (by omega), n_ok (by omega), n_gd (by omega), n_gd (by omega), nI_clamp (by omega), nI_clamp (by omega), h2 _ (by omega) (by omega), h2 _ (by omega) (by omega), r_off (by omega) (by omega), Option.bind_some]
    dsimp only
    rw [e8]
    show ∃ m3, (if nI (zmo v a b t).1 < nI (zdt v a b t) then _ else _) = _ ∧ _
    have uf : zmo v a b (t + 1) = if zdt v a b t ≤ (zmo v a b t).1 then zmo v a b t else (zdt v a b t, t) := rfl
    by_cases c : zdt v a b t ≤ (zmo v a b t).1
    · rw [if_neg (nI_nlt c (by omega)), nI_1, uf, if_pos c]
      exact ⟨m2, rfl, F, V, e0, e8, e3, e4⟩
    · rw [if_pos (nI_lt (by omega) (by omega)), n_gd (by omega), n_gd (by omega), m_ne (show 271 ≠ 268 by omega), m_ne (show 271 ≠ 268 by omega), h2 _ (by omega) (by omega), h2 _ (by omega) (by omega), r_off (by omega) (by omega), Option.bind_some]
      dsimp only
      rw [nI_1, uf, if_neg c]
      refine ⟨_, rfl, zFr_w2 (zFr_w2 F (Or.inl rfl)) (Or.inl rfl), ?_, ?_, ?_, ?_, ?_⟩
      · intro i hi
        rw [m_ni (by omega), m_ni (by omega)]
        exact V i hi
      · rw [m_ni (by omega), m_eq]
      · rw [m_eq]
        rfl
      · rw [m_ni (by omega), m_ni (by omega), e3]
      · rw [m_ni (by omega), m_ni (by omega), e4]
  rw [R_X12_looksBoth_eq, e1, Option.bind_some, z_mul4, z_mul4, n_ok (by omega), n_ok (by omega), n_gd (by omega), n_gd (by omega), nI_clamp (by omega), nI_clamp (by omega), m_ne (show 271 ≠ 268 by omega), m_ne (show 271 ≠ 268 by omega), m_ne (show 271 ≠ 268 by omega), m_ne (show 271 ≠ 268 by omega), m_ne (show 271 ≠ 268 by omega), m_ne (show 271 ≠ 268 by omega), h1 _ (by omega) (by omega), h1 _ (by omega) (by omega)]
  have b1 : v (4 * a) ≤ B := zB_a hB ha (t := 0) (by omega)
  have b2 : v (4 * b) ≤ B := zB_a hB hb (t := 0) (by omega)
  rw [r_off (by omega) (by omega), Option.bind_some]
  dsimp only
  have z1 : zmo v a b 1 = (zdf (v (4 * a)) (v (4 * b)), 0) := by
    show (if zdt v a b 0 ≤ 0 then ((0, 0) : Nat × Nat) else (zdt v a b 0, 0)) = _
    show (if zdt v a b 0 ≤ 0 then ((0, 0) : Nat × Nat) else (zdt v a b 0, 0)) = (zdt v a b 0, 0)
    by_cases c : zdt v a b 0 ≤ 0
    · rw [if_pos c, show zdt v a b 0 = 0 by omega]
    · rw [if_neg c]
  have F2 : zFr zRE m (mz_wr (mz_wr (mz_wr (mz_wr m1 268 0 0) 268 3 0) 268 4 0) 268 8 (nI (zdf (v (4 * a)) (v (4 * b))))) := zFr_w2 (zFr_w2 (zFr_w2 (zFr_w2 f1 (Or.inl rfl)) (Or.inl rfl)) (Or.inl rfl)) (Or.inl rfl)
  obtain ⟨m3, e3, F3, V3, p3, q3, r3, s3⟩ := st _ 1 (by omega) (by omega) F2 (fun i hi => by rw [m_ni (by omega), m_ni (by omega), m_ni (by omega), m_ni (by omega)]; exact g1 i hi) (by rw [m_ni (by omega), m_ni (by omega), m_ni (by omega), m_eq, z1]; rfl) (by rw [m_eq, z1]) (by rw [m_ni (by omega), m_ni (by omega), m_eq]) (by rw [m_ni (by omega), m_eq])
  obtain ⟨m4, e4, F4, V4, p4, q4, r4, s4⟩ := st _ 2 (by omega) (by omega) F3 V3 p3 q3 r3 s3
  obtain ⟨m5, e5, F5, V5, p5, q5, r5, s5⟩ := st _ 3 (by omega) (by omega) F4 V4 p4 q4 r4 s4
  have e3' : H_X12_looksBoth_55 d (nI a) (nI b) 1 _ = _ := e3
  rw [e3', e4, e5, H_X12_looksBoth_55_eq]
  show ∃ m', (if (4 : Int32) ≤ nI 4 then _ else _) = some m' ∧ _
  rw [if_pos n_4le]
  refine ⟨m5, rfl, F5, ?_⟩
  intro i hi
  rcases (show i = 0 ∨ i = 3 ∨ i = 4 ∨ i = 8 ∨ (i = 1 ∨ i = 2 ∨ i = 5 ∨ i = 6 ∨ i = 7) by omega) with rfl | rfl | rfl | rfl | c
  · rw [p5]; rfl
  · rw [r5]; rfl
  · rw [s5]; rfl
  · rw [q5]; rfl
  · exact V5 i c
theorem r_law (h : zTR T lv m) {f : Nat → Int32} (hf : ∀ i, i < 9 → mz_rd m 268 i = f i) {k : Nat} (hk : k < 4) : ∃ m2, R_X12_lawTells d (nI k) (zpl k f) m = some (tL T k f, m2) ∧ zFr zRE0 m m2 := h.2.2.2.2.2.2.2.2 m f k d (fun _ _ _ => rfl) hf hk
theorem r_quarrel (hT : zTR T lv m) (h : zRA (tN T) m 271 v) (hB : zB (tN T) B v) (ha : a < tN T) (hb : b < tN T) : ∃ m', R_X12_doQuarrel d (nI a) (nI b) m = some (zb (zq T v a b), m') ∧ zFr zRE m m' := by
  obtain ⟨m1, e1, f1, g1⟩ := r_looksBoth (d := d) h hT.1.1 hB ha hb
  rw [R_X12_doQuarrel_eq, e1, Option.bind_some]
  obtain ⟨m2, e2, f2⟩ := r_law (d := d) (zTR_E hT f1) g1 (k := 1) (by omega)
  have e2' : R_X12_lawTells d 1 (zqv v a b 5) m1 = some (tL T 1 (zqv v a b), m2) := e2
  rw [g1 5 (by omega), e2', Option.bind_some]
  dsimp only
  refine ⟨m2, ?_, zFr_t f1 (zRE0_E f2)⟩
  unfold zq
  by_cases c : tL T 1 (zqv v a b) ≤ 0
  · rw [if_pos c, decide_eq_true c]; rfl
  · rw [if_neg c, decide_eq_false c]; rfl
theorem r_turnTells (hT : zTR T lv m) (h : zRA (tN T) m 271 v) (hB : zB (tN T) B v) (ha : a < tN T) (hb : b < tN T) {k : Nat} (hk : k = 2 ∨ k = 3) : ∃ m', R_X12_turnTells d (nI a) (nI b) (nI k) (zpl k (ztv v a b)) m = some (nI (zhd 99 (tL T k (ztv v a b))), m') ∧ zFr zRE m m' := by
  obtain ⟨m1, e1, f1, g1⟩ := r_looksBoth (d := d) h hT.1.1 hB ha hb
  have h1 := zRA_E h f1
  rw [R_X12_turnTells_eq, e1, Option.bind_some, r_sc h1, Option.bind_some]
  dsimp only
  have f2 : zFr zRE m (mz_wr m1 268 3 (nI (zsc v))) := zFr_w2 f1 (Or.inl rfl)
  have h2 := zRA_E h f2
  rw [r_of h2 hT.1.1 ha, Option.bind_some]
  dsimp only
  rw [r_of h2 hT.1.1 hb, Option.bind_some]
  dsimp only
  rw [nI_add]
  have f3 : zFr zRE m (mz_wr (mz_wr m1 268 3 (nI (zsc v))) 268 4 (nI (zof v a + zof v b))) := zFr_w2 f2 (Or.inl rfl)
  obtain ⟨m4, e4, f4⟩ := r_law (d := d) (f := ztv v a b) (k := k) (zTR_E hT f3) (fun i hi => by
    rw [m_rw, m_rw]
    by_cases c3 : i = 3
    · subst c3; simp [ztv, zvr]
    · by_cases c4 : i = 4
      · subst c4; simp [ztv, zvr]
      · rw [if_neg (fun z => c4 z.2), if_neg (fun z => c3 z.2), g1 i hi]
        rcases (show i = 0 ∨ i = 1 ∨ i = 2 ∨ i = 5 ∨ i = 6 ∨ i = 7 ∨ i = 8 by omega) with rfl | rfl | rfl | rfl | rfl | rfl | rfl <;> rfl) (by omega)
  rw [e4, Option.bind_some]
  dsimp only
  have e5 := zhd_r (n := 99) (tL T k (ztv v a b)) (by omega) (m := m4) (d := d)
  have e5' : R_X12_within d (tL T k (ztv v a b)) 0 99 m4 = some (nI (zhd 99 (tL T k (ztv v a b))), m4) := e5
  rw [e5', Option.bind_some]
  exact ⟨m4, rfl, zFr_t f3 (zRE0_E f4)⟩
theorem r_allOf (h : zRA np m 271 v) (hn : np ≤ 6) (ha : a < np) (hb : b < np) {t : Nat} (ht : t < 4) : R_X12_allOf d (nI a) (nI b) (nI t) m = some (nI (zall v a b t), m) := by
  rw [R_X12_allOf_eq, z_mul4, z_mul4, z_add30, nI_add, nI_add, n_ok (by omega), n_ok (by omega), n_ok (by omega), n_gd (by omega), n_gd (by omega), n_gd (by omega), nI_clamp (by omega), nI_clamp (by omega), nI_clamp (by omega), h _ (by omega) (by omega), h _ (by omega) (by omega), h _ (by omega) (by omega), nI_add, nI_add]
  rfl
theorem r_staysOf (hT : zTR T lv m) (h : zRA (tN T) m 271 v) (hB : zB (tN T) B v) (ha : a < tN T) (hb : b < tN T) (hab : a ≠ b) {t : Nat} (ht : t < 4) : ∃ m', R_X12_staysOf d (nI a) (nI b) (nI t) m = some (nI (zst T v a b t), m') ∧ zFr zRE m m' := by
  have hn := hT.1.1
  have hB2 := hB.2.2.2
  have b1 := zB_a hB ha ht
  have b2 := zB_a hB hb ht
  have b3 := zB_all hB ha hb hab ht
  obtain ⟨m1, e1, f1, g1⟩ := r_looks (d := d) h hn hB ha hb
  have h1 := zRA_E h f1
  rw [R_X12_staysOf_eq, e1, Option.bind_some, z_add30, n_ok (by omega), n_gd (by omega), nI_clamp (by omega), m_ne (show 271 ≠ 268 by omega), h1 _ (by omega) (by omega)]
  have f2 : zFr zRE m (mz_wr (mz_wr m1 268 0 (nI t)) 268 3 (nI (v (30 + t)))) := zFr_w2 (zFr_w2 f1 (Or.inl rfl)) (Or.inl rfl)
  have h2 := zRA_E h f2
  rw [r_allOf h2 hn ha hb ht, Option.bind_some]
  dsimp only
  have f3 : zFr zRE m (mz_wr (mz_wr (mz_wr m1 268 0 (nI t)) 268 3 (nI (v (30 + t)))) 268 4 (nI (zall v a b t))) := zFr_w2 f2 (Or.inl rfl)
  have h3 := zRA_E h f3
  rw [z_mul4, z_mul4, nI_add, nI_add, n_ok (by omega), n_ok (by omega), n_gd (by omega), n_gd (by omega), nI_clamp (by omega), nI_clamp (by omega), h3 (4 * a + t) (by omega) (by omega), h3 (4 * b + t) (by omega) (by omega), n_gd (by omega), n_gd (by omega)]
  have go : ∀ x, x = (if v (4 * a + t) < v (4 * b + t) then v (4 * b + t) else v (4 * a + t)) → ∃ m', ((R_X12_lawTells d 0 0 (mz_wr (mz_wr (mz_wr (mz_wr m1 268 0 (nI t)) 268 3 (nI (v (30 + t)))) 268 4 (nI (zall v a b t))) 268 8 (nI x))).bind (fun u14 => (R_X12_within d u14.1 0 (mz_rd u14.2 268 4) u14.2).bind (fun u17 => some (u17.1, u17.2)))) = some (nI (zst T v a b t), m') ∧ zFr zRE m m' := by
    intro x hx
    have f4 : zFr zRE m (mz_wr (mz_wr (mz_wr (mz_wr m1 268 0 (nI t)) 268 3 (nI (v (30 + t)))) 268 4 (nI (zall v a b t))) 268 8 (nI x)) := zFr_w2 f3 (Or.inl rfl)
    obtain ⟨m5, e5, f5⟩ := r_law (d := d) (f := zsv v a b t) (k := 0) (zTR_E hT f4) (fun i hi => by
      rcases (show i = 0 ∨ i = 3 ∨ i = 4 ∨ i = 8 ∨ (i = 1 ∨ i = 2 ∨ i = 5 ∨ i = 6 ∨ i = 7) by omega) with rfl | rfl | rfl | rfl | c
      · simp [m_rw, zsv, zvr]
      · simp [m_rw, zsv, zvr]
      · simp [m_rw, zsv, zvr]
      · simp [m_rw, zsv, zvr, hx]
      · rw [m_ni (by omega), m_ni (by omega), m_ni (by omega), m_ni (by omega), g1 i c]
        rcases c with rfl | rfl | rfl | rfl | rfl <;> rfl) (by omega)
    have e5' : R_X12_lawTells d 0 0 _ = some (tL T 0 (zsv v a b t), m5) := e5
    rw [e5', Option.bind_some]
    dsimp only
    rw [f5.1 268 4 (by unfold zRE0; omega), m_ni (by omega), m_eq, zhd_r _ (by omega), Option.bind_some]
    exact ⟨m5, rfl, zFr_t f4 (zRE0_E f5)⟩
  by_cases c : v (4 * a + t) ≤ v (4 * b + t)
  · rw [if_pos ((nI_leI (by omega) (by omega)).mpr c)]
    refine go _ ?_
    by_cases c2 : v (4 * a + t) < v (4 * b + t)
    · rw [if_pos c2]
    · rw [if_neg c2]; omega
  · rw [if_neg (fun z => c ((nI_leI (by omega) (by omega)).mp z))]
    refine go _ ?_
    rw [if_neg (by omega)]
theorem r_turn (hT : zTR T lv m) (h : zRA (tN T) m 271 v) (hB : zB (tN T) B v) (ha : a < tN T) (hb : b < tN T) (hab : a ≠ b) : ∃ m', R_X12_turnsBoth d (nI a) (nI b) m = some m' ∧ zFr zRT m m' ∧ zRA (tN T) m' 271 (zturn T v a b) := by
  have hn := hT.1.1
  have hB2 := hB.2.2.2
  obtain ⟨m1, e1, f1⟩ := r_turnTells (d := d) (k := 2) hT h hB ha hb (Or.inl rfl)
  have h1 := zRA_E h f1
  have T1 := zTR_E hT f1
  obtain ⟨m2, e2, f2⟩ := r_turnTells (d := d) (k := 3) T1 h1 hB ha hb (Or.inr rfl)
  have e1' : R_X12_turnTells d (nI a) (nI b) 2 0 m = some (nI (zdu T v a b), m1) := e1
  have e2' : R_X12_turnTells d (nI a) (nI b) 3 1 m1 = some (nI (zco T v a b), m2) := e2
  rw [R_X12_turnsBoth_eq, e1', Option.bind_some]
  dsimp only
  rw [e2', Option.bind_some]
  dsimp only
  have F2 : zFr zRT m m2 := zRE_T (zFr_t f1 f2)
  have lp1 : ∀ (m3 : MzM) (t : Nat), t < 4 → zFr zRT m m3 → zRA (tN T) m3 271 v → (∀ u, u < t → mz_rd m3 272 u = nI (zst T v a b u)) → ∃ m4, H_X12_turnsBoth_22 d (nI a) (nI b) (nI (zdu T v a b)) (nI (zco T v a b)) (nI t) m3 = H_X12_turnsBoth_22 d (nI a) (nI b) (nI (zdu T v a b)) (nI (zco T v a b)) (nI (t + 1)) m4 ∧ zFr zRT m m4 ∧ zRA (tN T) m4 271 v ∧ (∀ u, u < t + 1 → mz_rd m4 272 u = nI (zst T v a b u)) := by
    intro m3 t ht F R S
    obtain ⟨m4, e4, f4⟩ := r_staysOf (d := d) (zTR_T hT F) R hB ha hb hab ht
    rw [H_X12_turnsBoth_22_eq, if_neg (n_le4 ht), e4, Option.bind_some]
    dsimp only
    rw [n_ok (by omega), n_gd ht, nI_clamp (by omega), nI_1]
    refine ⟨_, rfl, zFr_w2 (zFr_t F (zRE_T f4)) (Or.inr (Or.inl rfl)), zRA_f (zRA_E R f4) (fun i => m_ne (by omega)), ?_⟩
    intro u hu
    by_cases c : u = t
    · subst c; exact m_eq
    · rw [m_ni c, f4.1 272 u (by unfold zRE; omega)]
      exact S u (by omega)
  have lp2 : ∀ (m3 : MzM) (t : Nat), t < 4 → zFr zRT m m3 → zRA (tN T) m3 271 (zthr T v a b t) → (∀ u, u < 4 → mz_rd m3 272 u = nI (zst T v a b u)) → ∃ m4, H_X12_turnsBoth_52 d (nI a) (nI b) (nI (zdu T v a b)) (nI (zco T v a b)) (nI t) m3 = H_X12_turnsBoth_52 d (nI a) (nI b) (nI (zdu T v a b)) (nI (zco T v a b)) (nI (t + 1)) m4 ∧ zFr zRT m m4 ∧ zRA (tN T) m4 271 (zthr T v a b (t + 1)) ∧ (∀ u, u < 4 → mz_rd m4 272 u = nI (zst T v a b u)) := by
    intro m3 t ht F R S
    obtain ⟨n1, n2⟩ := zthr_n T v a b (by omega) (by omega) t (by omega) t (Nat.le_refl _) ht
    have hw : zall (zthr T v a b t) a b t = zall v a b t := by unfold zall; rw [n1 a (by omega), n1 b (by omega), n2]
    have b3 := zB_all hB ha hb hab ht
    have b4 := zst_le (T := T) hB ha hb hab ht
    have e5 : nI (zall v a b t) - nI (zst T v a b t) = nI (zall v a b t - zst T v a b t) := pk_sub b4
    have e6 : nI (zall v a b t - zst T v a b t) - nI (zall v a b t - zst T v a b t) / 2 * 2 = nI ((zall v a b t - zst T v a b t) % 2) := pk_rem (d := 2) (by omega) (by omega) (by omega)
    have e7 : nI (zst T v a b t) + nI ((zall v a b t - zst T v a b t) % 2) = nI (zall v a b t - 2 * zhf T v a b t) := by
      rw [nI_add]
      congr 1
      unfold zhf
      omega
    rw [H_X12_turnsBoth_52_eq, if_neg (n_le4 ht), r_allOf R hn ha hb ht, Option.bind_some]
    dsimp only
    rw [z_mul4, z_mul4, z_add30, nI_add, nI_add, n_ok (by omega), n_ok (by omega), n_ok (by omega), n_ok (by omega), n_gd (by omega), n_gd (by omega), n_gd (by omega), n_gd (by omega), n_gd (by omega), nI_clamp (by omega), nI_clamp (by omega), nI_clamp (by omega), nI_clamp (by omega), m_ne (show 272 ≠ 271 by omega), m_ne (show 272 ≠ 271 by omega), S t ht, hw, e5, e6, e7, z_div2 (by omega), nI_1]
    refine ⟨_, rfl, zFr_w2 (zFr_w2 (zFr_w2 F (Or.inl rfl)) (Or.inl rfl)) (Or.inl rfl), ?_, ?_⟩
    · exact zRA_u (zRA_u (zRA_u R (4 * a + t) (zhf T v a b t)) (4 * b + t) (zhf T v a b t)) (30 + t) (zall v a b t - 2 * zhf T v a b t)
    · intro u hu
      rw [m_ne (by omega), m_ne (by omega), m_ne (by omega)]
      exact S u hu
  obtain ⟨p0, q0, F0, R0, S0⟩ := lp1 m2 0 (by omega) F2 (zRA_E h1 f2) (fun u hu => by omega)
  obtain ⟨p1, q1, F1, R1, S1⟩ := lp1 p0 1 (by omega) F0 R0 S0
  obtain ⟨p2, q2, F2, R2, S2⟩ := lp1 p1 2 (by omega) F1 R1 S1
  obtain ⟨p3, q3, F3, R3, S3⟩ := lp1 p2 3 (by omega) F2 R2 S2
  have q0' : H_X12_turnsBoth_22 d (nI a) (nI b) (nI (zdu T v a b)) (nI (zco T v a b)) 0 m2 = _ := q0
  rw [q0', q1, q2, q3, H_X12_turnsBoth_22_eq]
  show ∃ m', (if (4 : Int32) ≤ nI 4 then _ else _) = some m' ∧ _
  rw [if_pos n_4le]
  obtain ⟨p4, q4, F4, R4, S4⟩ := lp2 p3 0 (by omega) F3 R3 S3
  obtain ⟨p5, q5, F5, R5, S5⟩ := lp2 p4 1 (by omega) F4 R4 S4
  obtain ⟨p6, q6, F6, R6, S6⟩ := lp2 p5 2 (by omega) F5 R5 S5
  obtain ⟨p7, q7, F7, R7, S7⟩ := lp2 p6 3 (by omega) F6 R6 S6
  have q4' : H_X12_turnsBoth_52 d (nI a) (nI b) (nI (zdu T v a b)) (nI (zco T v a b)) 0 p3 = _ := q4
  rw [q4', q5, q6, q7, H_X12_turnsBoth_52_eq]
  show ∃ m', (if (4 : Int32) ≤ nI 4 then _ else _) = some m' ∧ _
  rw [if_pos n_4le, z_add24, z_add24, n_ok (by omega), n_ok (by omega), n_gd (by omega), n_gd (by omega), n_gd (by omega), n_gd (by omega), nI_clamp (by omega), nI_clamp (by omega)]
  have q35 : zthr T v a b 4 35 = v 35 := zthr_o T v a b (fun u hu => by omega) 4 (Nat.le_refl _)
  have q36 : zthr T v a b 4 36 = v 36 := zthr_o T v a b (fun u hu => by omega) 4 (Nat.le_refl _)
  have q38 : zthr T v a b 4 38 = v 38 := zthr_o T v a b (fun u hu => by omega) 4 (Nat.le_refl _)
  have qa : zthr T v a b 4 (24 + a) = v (24 + a) := zthr_o T v a b (fun u hu => by omega) 4 (Nat.le_refl _)
  have qb : zthr T v a b 4 (24 + b) = v (24 + b) := zthr_o T v a b (fun u hu => by omega) 4 (Nat.le_refl _)
  have d1 : zdu T v a b ≤ 99 := zhd_le (by omega)
  have d2 := hB.2.1
  have x1 := R7 (24 + a) (by omega) (by omega)
  rw [qa] at x1
  rw [x1, nI_1]
  have k1 := zRA_u R7 (24 + a) (v (24 + a) + 1)
  have x2 := k1 (24 + b) (by omega) (by omega)
  rw [zUpd_n (by omega), qb] at x2
  rw [x2, nI_1]
  have k2 := zRA_u k1 (24 + b) (v (24 + b) + 1)
  have x3 := k2 35 (by omega) (by omega)
  rw [zUpd_n (by omega), zUpd_n (by omega), q35] at x3
  rw [x3, nI_add]
  have e9 : ∀ mm : MzM, R_X12_within d (nI (v 35 + zdu T v a b)) 0 99 mm = some (nI (if v 35 + zdu T v a b < 99 then v 35 + zdu T v a b else 99), mm) := by
    intro mm
    rw [R_X12_within_eq, if_pos (nI_pos' (by omega))]
    by_cases c : v 35 + zdu T v a b < 99
    · rw [if_pos c, if_pos (show nI (v 35 + zdu T v a b) ≤ (99 : Int32) from nI_le (b := 99) (by omega) (by omega))]
    · rw [if_neg c]
      by_cases c2 : v 35 + zdu T v a b = 99
      · rw [c2, if_pos (show nI 99 ≤ (99 : Int32) from nI_le (b := 99) (by omega) (by omega))]
      · rw [if_neg (show ¬ nI (v 35 + zdu T v a b) ≤ (99 : Int32) from nI_ge (a := 99) (by omega) (by omega))]
        rfl
  rw [e9, Option.bind_some]
  dsimp only
  have k3 := zRA_u k2 35 (if v 35 + zdu T v a b < 99 then v 35 + zdu T v a b else 99)
  have x4 := k3 36 (by omega) (by omega)
  rw [zUpd_n (by omega), zUpd_n (by omega), zUpd_n (by omega), q36] at x4
  rw [x4, nI_1]
  have k4 := zRA_u k3 36 (v 36 + 1)
  have x5 := k4 38 (by omega) (by omega)
  rw [zUpd_n (by omega), zUpd_n (by omega), zUpd_n (by omega), zUpd_n (by omega), q38] at x5
  rw [x5, nI_add]
  have k5 := zRA_u k4 38 (v 38 + zco T v a b)
  refine ⟨_, rfl, zFr_w2 (zFr_w2 (zFr_w2 (zFr_w2 (zFr_w2 F7 (Or.inl rfl)) (Or.inl rfl)) (Or.inl rfl)) (Or.inl rfl)) (Or.inl rfl), ?_⟩
  rw [zUpd_c (k := 36) (j := 38) (by omega), zUpd_c (k := 24 + b) (j := 35) (by omega), zUpd_c (k := 24 + a) (j := 35) (by omega), zUpd_c (k := 24 + b) (j := 38) (by omega), zUpd_c (k := 24 + a) (j := 38) (by omega), zUpd_c (k := 24 + b) (j := 36) (by omega), zUpd_c (k := 24 + a) (j := 36) (by omega)] at k5
  exact k5
end ZRf
