/-! the invariant between the class and the reference -/
def zBn (n : Nat) : Nat := 1000 + 200 * n
theorem zBn_s (n : Nat) : zBn n + 200 = zBn (n + 1) := by unfold zBn; omega
theorem zBn_1 (n : Nat) : zBn n ≤ zBn (n + 1) := by unfold zBn; omega
theorem zBn_2 {n : Nat} (h : n < 512) : zBn (n + 1) < 2 ^ 20 := by unfold zBn; omega
theorem zBn_3 {n : Nat} (h : n < 512) : zBn n < 200000 := by unfold zBn; omega
def zRO (np : Nat) (m : MzM) (a o : Nat) (v : Nat → Nat) : Prop := ∀ k, k < 39 → (k < 4 * np ∨ 24 ≤ k) → mz_rd m a (o + k) = nI (v k)
theorem zRO_f {np a o : Nat} {m m' : MzM} {v : Nat → Nat} (h : zRO np m a o v) (g : ∀ k, k < 39 → mz_rd m' a (o + k) = mz_rd m a (o + k)) : zRO np m' a o v := fun k h1 h2 => (g k h1).trans (h k h1 h2)
def zTape (m : MzM) : Prop := ∃ z, z ≤ 2000 ∧ mz_rd m 2 1 = nI z ∧ mz_rd m 239 2 = nI z ∧ ∀ i, i < z → mz_rd m 3 i = mz_rd m 240 i
def zTapeG (a i : Nat) : Prop := (a = 2 ∧ i = 1) ∨ (a = 239 ∧ i = 2) ∨ a = 3 ∨ a = 240
theorem zTape_f {m m' : MzM} (h : zTape m) (g : ∀ a i, zTapeG a i → mz_rd m' a i = mz_rd m a i) : zTape m' := by
  obtain ⟨z, h1, h2, h3, h4⟩ := h
  refine ⟨z, h1, (g _ _ (by unfold zTapeG; omega)).trans h2, (g _ _ (by unfold zTapeG; omega)).trans h3, fun i hi => ?_⟩
  rw [g 3 i (by unfold zTapeG; omega), g 240 i (by unfold zTapeG; omega)]
  exact h4 i hi
def zHi (np B : Nat) (m : MzM) : Prop := ∃ u x, u ≤ 40 ∧ x < 40 ∧ mz_rd m 37 2 = nI u ∧ mz_rd m 37 1 = nI x ∧ mz_rd m 239 52 = nI u ∧ ∀ j, j < u → ∃ w, zB np B w ∧ zSC np m (39 + 4 * ((x + 39 - j) % 40)) w ∧ zRO np m 273 (39 * (u - 1 - j)) w
def zHiG (a i : Nat) : Prop := (37 ≤ a ∧ a ≤ 198) ∨ (a = 239 ∧ i = 52) ∨ a = 273
theorem zHi_f {np B C : Nat} {m m' : MzM} (h : zHi np B m) (hC : B ≤ C) (hC2 : C < 2 ^ 20) (g : ∀ a i, zHiG a i → mz_rd m' a i = mz_rd m a i) : zHi np C m' := by
  obtain ⟨u, x, h1, h2, h3, h4, h5, h6⟩ := h
  refine ⟨u, x, h1, h2, (g _ _ (by unfold zHiG; omega)).trans h3, (g _ _ (by unfold zHiG; omega)).trans h4, (g _ _ (by unfold zHiG; omega)).trans h5, fun j hj => ?_⟩
  obtain ⟨w, w1, w2, w3⟩ := h6 j hj
  have hm := Nat.mod_lt (x + 39 - j) (show 40 > 0 by omega)
  exact ⟨w, zB_mono w1 hC hC2, zSC_f w2 (fun a i p q => g a i (by unfold zHiG; omega)), zRO_f w3 (fun k hk => g _ _ (by unfold zHiG; omega))⟩
def zSl (np B : Nat) (m : MzM) : Prop := ∀ j, j < 3 → ∃ h : Bool, mz_rd m 200 j = zb h ∧ mz_rd m 282 j = zb h ∧ (h = true → ∃ w, zB np B w ∧ zSC np m (227 + 4 * j) w ∧ zRO np m 283 (39 * j) w)
def zSlG (a : Nat) (_ : Nat) : Prop := a = 200 ∨ (227 ≤ a ∧ a ≤ 238) ∨ a = 282 ∨ a = 283
theorem zSl_f {np B C : Nat} {m m' : MzM} (h : zSl np B m) (hC : B ≤ C) (hC2 : C < 2 ^ 20) (g : ∀ a i, zSlG a i → mz_rd m' a i = mz_rd m a i) : zSl np C m' := by
  intro j hj
  obtain ⟨b, h1, h2, h3⟩ := h j hj
  refine ⟨b, (g _ _ (by unfold zSlG; omega)).trans h1, (g _ _ (by unfold zSlG; omega)).trans h2, fun hb => ?_⟩
  obtain ⟨w, w1, w2, w3⟩ := h3 hb
  exact ⟨w, zB_mono w1 hC hC2, zSC_f w2 (fun a i p q => g a i (by unfold zSlG; omega)), zRO_f w3 (fun k hk => g _ _ (by unfold zSlG; omega))⟩
def zTold (np : Nat) (m : MzM) (j : Nat) (p t x : Nat) (so : Bool) : Prop := p < np ∧ t < 4 ∧ x ≤ 999 ∧ mz_rd m 223 j = nI p ∧ mz_rd m 224 j = nI t ∧ mz_rd m 225 j = nI x ∧ mz_rd m 226 j = zb so ∧ mz_rd m 277 j = nI (4 * p + t) ∧ mz_rd m 278 j = nI x ∧ mz_rd m 279 j = zb so
def zTo (np : Nat) (m : MzM) : Prop := ∃ u, u ≤ 20 ∧ mz_rd m 222 6 = nI u ∧ mz_rd m 239 62 = nI u ∧ ∀ j, j < u → ∃ p t x so, zTold np m j p t x so
def zToG (a i : Nat) : Prop := (222 ≤ a ∧ a ≤ 226) ∨ (a = 239 ∧ i = 62) ∨ (277 ≤ a ∧ a ≤ 279)
theorem zTo_f {np : Nat} {m m' : MzM} (h : zTo np m) (g : ∀ a i, zToG a i → mz_rd m' a i = mz_rd m a i) : zTo np m' := by
  obtain ⟨u, h1, h2, h3, h4⟩ := h
  refine ⟨u, h1, (g _ _ (by unfold zToG; omega)).trans h2, (g _ _ (by unfold zToG; omega)).trans h3, fun j hj => ?_⟩
  obtain ⟨p, t, x, so, q1, q2, q3, q4, q5, q6, q7, q8, q9, q10⟩ := h4 j hj
  exact ⟨p, t, x, so, q1, q2, q3, (g _ _ (by unfold zToG; omega)).trans q4, (g _ _ (by unfold zToG; omega)).trans q5, (g _ _ (by unfold zToG; omega)).trans q6, (g _ _ (by unfold zToG; omega)).trans q7, (g _ _ (by unfold zToG; omega)).trans q8, (g _ _ (by unfold zToG; omega)).trans q9, (g _ _ (by unfold zToG; omega)).trans q10⟩
/-- the rows: all ways of n turns, in order -/
def zways (np : Nat) : Nat → List (List (Nat × Nat))
  | 0 => [[]]
  | n + 1 => (zprs np).flatMap fun q => (zways np n).map fun w => q :: w
def zwalk (T : ZT) (v : Nat → Nat) (w : List (Nat × Nat)) : Nat → Nat := w.foldl (fun v q => zturn T v q.1 q.2) v
/-- goal 0: nobody quarrels; 1: p has x or more of q; 2: p and q don't differ -/
def zgoal (T : ZT) (g p q x : Nat) (v : Nat → Nat) : Bool := match g with
  | 0 => decide (zcnt T v (zprs (tN T)) = 0)
  | 1 => decide (x ≤ v (4 * p + q))
  | _ => decide (zap v p q = 0)
def zrow (T : ZT) (v : Nat → Nat) (g p q x : Nat) : Option (List (Nat × Nat)) := (zways (tN T) 0 ++ zways (tN T) 1 ++ zways (tN T) 2 ++ zways (tN T) 3).find? fun w => zgoal T g p q x (zwalk T v w)
/-- the answer: how many, or the i-th -/
def zrowN (r : Option (List (Nat × Nat))) : Int32 := match r with
  | none => -2
  | some w => nI w.length
def zrowA (r : Option (List (Nat × Nat))) (i : Nat) : Int32 := match r with
  | none => -2
  | some w => match w[i]? with
    | some (a, b) => nI (10 * a + b)
    | none => -1
/-- the class keeps the row that it found last -/
def zRo (T : ZT) (v : Nat → Nat) (m : MzM) : Prop := mz_rd m 201 4 = 0 ∨ ∃ g p q x, g < 3 ∧ p < 2 ^ 31 ∧ q < 2 ^ 31 ∧ x < 2 ^ 31 ∧ mz_rd m 201 6 = nI g ∧ mz_rd m 201 7 = nI p ∧ mz_rd m 201 8 = nI q ∧ mz_rd m 201 9 = nI x ∧ mz_rd m 201 5 = zrowN (zrow T v g p q x) ∧ ∀ w, zrow T v g p q x = some w → ∀ i, i < w.length → mz_rd m 203 i = zrowA (some w) i
def zRoG (a : Nat) (_ : Nat) : Prop := a = 201 ∨ a = 203
theorem zRo_f {T : ZT} {v : Nat → Nat} {m m' : MzM} (h : zRo T v m) (g : ∀ a i, zRoG a i → mz_rd m' a i = mz_rd m a i) : zRo T v m' := by
  rcases h with h | ⟨k, p, q, x, h1, h2, h3, h4, h5, h6, h7, h8, h9, h10⟩
  · exact Or.inl ((g _ _ (Or.inl rfl)).trans h)
  · exact Or.inr ⟨k, p, q, x, h1, h2, h3, h4, (g _ _ (Or.inl rfl)).trans h5, (g _ _ (Or.inl rfl)).trans h6, (g _ _ (Or.inl rfl)).trans h7, (g _ _ (Or.inl rfl)).trans h8, (g _ _ (Or.inl rfl)).trans h9, fun w hw i hi => (g _ _ (Or.inr rfl)).trans (h10 w hw i hi)⟩
/-- what the reference's words are -/
def zKy (m : MzM) : Prop := m.2 246 = mz_m0.2 246
def zIv (T : ZT) (lv : Nat) (v : Nat → Nat) (n : Nat) (m : MzM) : Prop := zTC T m ∧ zTR T lv m ∧ zSC (tN T) m 29 v ∧ zRA (tN T) m 270 v ∧ zB (tN T) (zBn n) v ∧ zTape m ∧ mz_rd m 1 13 = mz_rd m 239 17 ∧ zHi (tN T) (zBn n) m ∧ zSl (tN T) (zBn n) m ∧ zTo (tN T) m ∧ zRo T v m ∧ zKy m
def zI (n : Nat) (m : MzM) : Prop := ∃ T lv v, zIv T lv v n m
/-- what a question may write -/
def zCQ (a i : Nat) : Prop := zE a i ∨ (33 ≤ a ∧ a ≤ 36) ∨ a = 221
def zRQ (a i : Nat) : Prop := (a = 271 ∨ a = 272 ∨ a = 268 ∨ a = 269 ∨ a = 274 ∨ a = 275 ∨ a = 276 ∨ a = 280 ∨ a = 281) ∨ (a = 239 ∧ (i = 46 ∨ i = 49 ∨ i = 50 ∨ i = 54 ∨ (56 ≤ i ∧ i ≤ 59)))
def zQ (a i : Nat) : Prop := zCQ a i ∨ zRQ a i
theorem zIv_q {T : ZT} {lv n : Nat} {v : Nat → Nat} {m m' : MzM} (hn : n < 512) (h : zIv T lv v n m) (f : zFr zQ m m') : zIv T lv v (n + 1) m' := by
  obtain ⟨h1, h2, h3, h4, h5, h6, h7, h8, h9, h10, h11, h12⟩ := h
  refine ⟨zTC_f h1 (fun a i t => f.1 a i ?_), zTR_f h2 (fun a i t => f.1 a i ?_), zSC_f h3 (fun a i p q => f.1 a i ?_), zRA_f h4 (fun i => f.1 _ i ?_), zB_mono h5 (zBn_1 n) (zBn_2 hn), zTape_f h6 (fun a i t => f.1 a i ?_), ?_, zHi_f h8 (zBn_1 n) (zBn_2 hn) (fun a i t => f.1 a i ?_), zSl_f h9 (zBn_1 n) (zBn_2 hn) (fun a i t => f.1 a i ?_), zTo_f h10 (fun a i t => f.1 a i ?_), zRo_f h11 (fun a i t => f.1 a i ?_), ?_⟩
  · unfold zQ zCQ zE zRQ; unfold zTx at t; omega
  · unfold zQ zCQ zE zRQ; unfold zRx at t; omega
  · unfold zQ zCQ zE zRQ; omega
  · unfold zQ zCQ zE zRQ; omega
  · unfold zQ zCQ zE zRQ; unfold zTapeG at t; omega
  · rw [f.1 1 13 (by unfold zQ zCQ zE zRQ; omega), f.1 239 17 (by unfold zQ zCQ zE zRQ; omega)]
    exact h7
  · unfold zQ zCQ zE zRQ; unfold zHiG at t; omega
  · unfold zQ zCQ zE zRQ; unfold zSlG at t; omega
  · unfold zQ zCQ zE zRQ; unfold zToG at t; omega
  · unfold zQ zCQ zE zRQ; unfold zRoG at t; omega
  · unfold zKy
    rw [f.2]
    exact h12
theorem zI_q {n : Nat} {m m1 m2 : MzM} (hn : n < 512) (h : zI n m) (f : zFr zCQ m m1) (g : zFr zRQ m1 m2) : zI (n + 1) m2 := by
  obtain ⟨T, lv, v, hh⟩ := h
  exact ⟨T, lv, v, zIv_q hn hh (zFr_t (zFr_m f (fun _ _ z => Or.inl z)) (zFr_m g (fun _ _ z => Or.inr z)))⟩
theorem zI_s (n : Nat) (m : MzM) (hn : n < 512) (h : zI n m) : zI (n + 1) m := zI_q hn h zFr_r zFr_r
theorem zTR_q {T : ZT} {lv : Nat} {m m' : MzM} (h : zTR T lv m) (f : zFr zCQ m m') : zTR T lv m' := zTR_f h (fun a i t => f.1 a i (by unfold zCQ zE; unfold zRx at t; omega))
theorem zRA_q {np : Nat} {m m' : MzM} {v : Nat → Nat} (h : zRA np m 270 v) (f : zFr zCQ m m') : zRA np m' 270 v := zRA_f h (fun i => f.1 270 i (by unfold zCQ zE; omega))
theorem zE_Q {m m' : MzM} (f : zFr zE m m') : zFr zCQ m m' := zFr_m f (fun _ _ z => Or.inl z)
theorem zT_Q {m m' : MzM} (f : zFr (zES 33) m m') : zFr zCQ m m' := zFr_m f (fun a i z => by
  rcases z with z | z
  · exact Or.inl z
  · exact Or.inr (Or.inl (by omega)))
theorem zR_Q {m m' : MzM} (f : zFr zRT m m') : zFr zRQ m m' := zFr_m f (fun a i z => by unfold zRT at z; unfold zRQ; omega)
theorem zR_QE {m m' : MzM} (f : zFr zRE m m') : zFr zRQ m m' := zR_Q (zRE_T f)
/-- copies: the reference's row is what is now -/
def zRC (a i : Nat) : Prop := a = 271 ∨ (a = 239 ∧ (i = 49 ∨ i = 50))
theorem r_copies {T : ZT} {lv d : Nat} {v : Nat → Nat} {m : MzM} (hT : zTR T lv m) (h : zRA (tN T) m 270 v) : ∃ m', R_X12_copies d m = some m' ∧ zFr zRC m m' ∧ zRA (tN T) m' 271 v ∧ mz_rd m' 239 49 = nI (tD T) ∧ mz_rd m' 239 50 = zb false := by
  rw [R_X12_copies_eq]
  refine zlp (fun k x => H_X12_copies_2 d (nI k) x) (fun m' => zFr zRC m m' ∧ zRA (tN T) m' 271 v ∧ mz_rd m' 239 49 = nI (tD T) ∧ mz_rd m' 239 50 = zb false) (fun k x => zFr zRC m x ∧ ∀ j, j < k → mz_rd x 271 j = mz_rd m 270 j) 39 ?_ ?_ 0 m (Nat.zero_le _) ⟨zFr_r, fun j hj => by omega⟩
  · rintro k x hk ⟨F, S⟩
    left
    show ∃ y, (zFr zRC m y ∧ ∀ j, j < k + 1 → mz_rd y 271 j = mz_rd m 270 j) ∧ H_X12_copies_2 d (nI k) x = H_X12_copies_2 d (nI (k + 1)) y
    have g39 : ¬ (39 : Int32) ≤ nI k := nI_ge (b := 39) hk (by omega)
    rw [H_X12_copies_2_eq, if_neg g39, n_ok (by omega), n_gd hk, n_gd hk, nI_clamp (by omega), nI_1]
    refine ⟨_, ⟨zFr_w2 F (Or.inl rfl), fun j hj => ?_⟩, rfl⟩
    by_cases c : j = k
    · subst c
      rw [m_eq, F.1 270 j (by unfold zRC; omega)]
    · rw [m_ni c]
      exact S j (by omega)
  · rintro x ⟨F, S⟩
    have l3 : mz_rd x 239 18 = nI lv := (F.1 _ _ (by unfold zRC; omega)).trans hT.2.2.1
    have l8 : mz_rd x 257 lv = nI (tD T) := (F.1 _ _ (by unfold zRC; omega)).trans hT.2.2.2.2.2.2.2.1
    have l2 := hT.2.1
    have g39 : (39 : Int32) ≤ nI 39 := by decide
    show ∃ r, H_X12_copies_2 d (nI 39) x = some r ∧ _
    rw [H_X12_copies_2_eq, if_pos g39, l3, n_ok (by omega), n_gd l2, nI_clamp (by omega), l8]
    refine ⟨_, rfl, zFr_w2 (zFr_w2 F (Or.inr ⟨rfl, Or.inl rfl⟩)) (Or.inr ⟨rfl, Or.inr rfl⟩), ?_, ?_, ?_⟩
    · intro k h1 h2
      rw [m_ne (by omega), m_ne (by omega), S k h1]
      exact h k h1 h2
    · rw [m_ni (by omega), m_eq]
    · rw [m_eq]
      rfl
theorem zRC_Q {m m' : MzM} (f : zFr zRC m m') : zFr zRQ m m' := zFr_m f (fun a i z => by unfold zRC at z; unfold zRQ; omega)
theorem zTR_C {T : ZT} {lv : Nat} {m m' : MzM} (h : zTR T lv m) (f : zFr zRC m m') : zTR T lv m' := zTR_f h (fun a i t => f.1 a i (by unfold zRC; unfold zRx at t; omega))
theorem zTR_Q {T : ZT} {lv : Nat} {m m' : MzM} (h : zTR T lv m) (f : zFr zRQ m m') : zTR T lv m' := zTR_f h (fun a i t => f.1 a i (by unfold zRQ; unfold zRx at t; omega))
theorem zRA_Q {np : Nat} {m m' : MzM} {v : Nat → Nat} (h : zRA np m 270 v) (f : zFr zRQ m m') : zRA np m' 270 v := zRA_f h (fun i => f.1 270 i (by unfold zRQ; omega))
