/-! what was read becomes the text -/
def zTd (np ns : Nat) (U : Nat → Nat → Nat) (ts : Nat → List (ZP × ZP × ZP)) (last : Nat → ZP) (H D : Nat) : ZT := (np, ns, U, (fun k f => zlw f (last k) (ts k) false), H, D)
def zvd (cs : Nat → Nat) (pt k : Nat) : Nat := if k < 24 then cs k else if k = 34 then pt else 0
/-- cases told are at most 99 -/
def zDwf (np ns : Nat) (U : Nat → Nat → Nat) (ts : Nat → List (ZP × ZP × ZP)) (last : Nat → ZP) (H D : Nat) (cs : Nat → Nat) : Prop := zTW (zTd np ns U ts last H D) ∧ ∀ k, cs k ≤ 99
def zPartD (m : MzM) (e : Nat) (P : ZP) : Prop := ∃ fr, mz_rd m 19 e = nI fr ∧ mz_rd m 19 (e + 1) = nI (fr + P.length) ∧ fr + P.length ≤ 404 ∧ (∀ i c, P[i]? = some c → mz_rd m 18 (fr + i) = nI (zenc c)) ∧ zcs 0 P 1
/-- the draft holds law k -/
def zCLd (m : MzM) (k : Nat) (ts : List (ZP × ZP × ZP)) (last : ZP) : Prop := ts.length ≤ 4 ∧ mz_rd m 20 k = nI (3 * ts.length + 1) ∧ ∀ j P, (zpls last ts)[j]? = some P → zPartD m (14 * k + j) P
def zDC (m : MzM) (np ns : Nat) (U : Nat → Nat → Nat) (ts : Nat → List (ZP × ZP × ZP)) (last : Nat → ZP) (H D : Nat) (cs : Nat → Nat) (pt : Nat) : Prop := mz_rd m 13 4 = nI np ∧ mz_rd m 13 5 = nI ns ∧ mz_rd m 13 6 = nI pt ∧ mz_rd m 13 7 = nI H ∧ mz_rd m 13 8 = nI D ∧ (∀ k, k < 4 * np → mz_rd m 15 k = nI (cs k)) ∧ (∀ i j, i < ns → j < 4 → mz_rd m 16 (4 * i + j) = nI (U i j)) ∧ ∀ k, k < 4 → zCLd m k (ts k) (last k)
def zDR (m : MzM) (sd np ns : Nat) (U : Nat → Nat → Nat) (ts : Nat → List (ZP × ZP × ZP)) (last : Nat → ZP) (H D : Nat) (cs : Nat → Nat) (pt : Nat) : Prop := sd < 2 ∧ mz_rd m 248 sd = nI np ∧ (∀ k, k < 4 * np → mz_rd m 249 (24 * sd + k) = nI (cs k)) ∧ mz_rd m 250 sd = nI ns ∧ (∀ i, i < ns → mz_rd m 251 (8 * sd + i) = nI (U i 0) ∧ mz_rd m 252 (8 * sd + i) = nI (U i 1) ∧ mz_rd m 253 (8 * sd + i) = nI (U i 2) ∧ mz_rd m 254 (8 * sd + i) = nI (U i 3)) ∧ mz_rd m 255 sd = nI pt ∧ mz_rd m 256 sd = nI H ∧ mz_rd m 257 sd = nI D ∧ ∀ k, k < 4 → zRW sd m (4 * sd + k) k (ts k) (last k)
theorem zCL_d {m m' : MzM} {k : Nat} {ts : List (ZP × ZP × ZP)} {last : ZP} (hk : k < 4) (h : zCLd m k ts last) (g9 : ∀ i, i < 404 → mz_rd m' 9 i = mz_rd m 18 i) (g10 : ∀ i, i < 56 → mz_rd m' 10 i = mz_rd m 19 i) (g11 : ∀ i, i < 4 → mz_rd m' 11 i = mz_rd m 20 i) : zCL m' k ts last := by
  obtain ⟨h1, h2, h3⟩ := h
  refine ⟨h1, (g11 k hk).trans h2, fun j P hj => ?_⟩
  have lj : j < (zpls last ts).length := (List.getElem?_eq_some_iff.mp hj).1
  rw [zpls_len] at lj
  obtain ⟨fr, a1, a2, a3, a4, a5⟩ := h3 j P hj
  refine ⟨fr, (g10 _ (by omega)).trans a1, (g10 _ (by omega)).trans a2, a3, fun i c hi => ?_, a5⟩
  have li : i < P.length := (List.getElem?_eq_some_iff.mp hi).1
  exact (g9 _ (by omega)).trans (a4 i c hi)
theorem zvd_hi {cs : Nat → Nat} {pt k : Nat} (h : 24 ≤ k) : nI (zvd cs pt k) = if k = 34 then nI pt else 0 := by
  unfold zvd
  rw [if_neg (by omega)]
  by_cases c : k = 34
  · rw [if_pos c, if_pos c]
  · rw [if_neg c, if_neg c]
    rfl
theorem zvd_lo {cs : Nat → Nat} {pt k : Nat} (h : k < 24) : zvd cs pt k = cs k := if_pos h
theorem zB_d {np : Nat} {cs : Nat → Nat} {pt n : Nat} (hn : np ≤ 6) (h : ∀ k, cs k ≤ 99) (hB : zBn n < 2 ^ 20) : zB np (zBn n) (zvd cs pt) := by
  refine ⟨fun t ht => ?_, by show zvd cs pt 35 ≤ 99; unfold zvd; rw [if_neg (by omega), if_neg (by omega)]; omega, by unfold zvd; rw [if_neg (by omega), if_neg (by omega)]; omega, hB⟩
  have s : ∀ k, k ≤ 6 → zSum k (fun p => zvd cs pt (4 * p + t)) ≤ 99 * k := by
    intro k
    induction k with
    | zero => intro _; exact Nat.le_refl _
    | succ k ih =>
      intro hk
      have i1 := ih (by omega)
      have i2 : zvd cs pt (4 * k + t) ≤ 99 := by rw [zvd_lo (by omega)]; exact h _
      show zSum k (fun p => zvd cs pt (4 * p + t)) + zvd cs pt (4 * k + t) ≤ 99 * (k + 1)
      omega
  have s1 := s np hn
  have z0 : zvd cs pt (30 + t) = 0 := by unfold zvd; rw [if_neg (by omega), if_neg (by omega)]
  unfold zTot zBn
  rw [z0]
  omega
def zTK (a i : Nat) : Prop := zNT a i ∨ zSA a i
section ZTake
variable {np ns H D pt : Nat} {U : Nat → Nat → Nat} {ts : Nat → List (ZP × ZP × ZP)} {last : Nat → ZP} {cs : Nat → Nat} {m : MzM}

theorem c_take (u : Int32) (ok : zDwf np ns U ts last H D cs) (h : zDC m np ns U ts last H D cs pt) : ∃ m', ((R_X8_copyFrom 8 4 13 m).bind (fun m8 => (R_X11_startAnew 8 m8).bind (fun m11 => some (u, m11)))) = some (u, m') ∧ zFr zTK m m' ∧ zTC (zTd np ns U ts last H D) m' ∧ zSC np m' 29 (zvd cs pt) ∧ mz_rd m' 37 2 = 0 ∧ mz_rd m' 222 6 = 0 ∧ mz_rd m' 201 4 = 0 ∧ ∀ j, j < 3 → mz_rd m' 200 j = 0 := by
  obtain ⟨h1, h2, h3, h4, h5, h6, h7, h8⟩ := h
  obtain ⟨m1, e1, f1, a1, a2, a3, a4, a5, a6⟩ := c_copyT 8 m
  obtain ⟨m2, e2, f2, b1, b2, b3, b4, b5, b6⟩ := c_startAnew 8 m1
  have g : ∀ a i, 4 ≤ a → a ≤ 11 → mz_rd m2 a i = mz_rd m1 a i := fun a i z1 z2 => f2.1 a i (by unfold zSA; omega)
  have w6 : np ≤ 6 := ok.1.1
  have w8 : ns ≤ 8 := ok.1.2.1
  rw [e1, Option.bind_some, e2, Option.bind_some]
  refine ⟨m2, rfl, zFr_t (zFr_m f1 (fun _ _ z => Or.inl z)) (zFr_m f2 (fun _ _ z => Or.inr z)), ⟨ok.1, ?_, ?_, ?_, ?_, ?_, ?_⟩, ?_, b3, b4, b5, b6⟩
  · exact (g _ _ (by omega) (by omega)).trans ((a1 4 (by omega) (by omega)).trans h1)
  · exact (g _ _ (by omega) (by omega)).trans ((a1 5 (by omega) (by omega)).trans h2)
  · intro i j hi hj
    have hi : i < ns := hi
    exact (g _ _ (by omega) (by omega)).trans ((a3 _ (by omega)).trans (h7 i j hi hj))
  · exact (g _ _ (by omega) (by omega)).trans ((a1 7 (by omega) (by omega)).trans h4)
  · exact (g _ _ (by omega) (by omega)).trans ((a1 8 (by omega) (by omega)).trans h5)
  · exact zLC_of (fun k hk => zCL_d hk (h8 k hk) (fun i hi => (g _ _ (by omega) (by omega)).trans (a4 i hi)) (fun i hi => (g _ _ (by omega) (by omega)).trans (a5 i hi)) (fun i hi => (g _ _ (by omega) (by omega)).trans (a6 i hi)))
  · intro k hk hk2
    by_cases c : k < 24
    · have hk4 : k < 4 * np := by omega
      rw [show zstA 29 k = (30, k) from if_pos c, zvd_lo c]
      exact (b1 k c).trans ((a2 k c).trans (h6 k hk4))
    · rw [b2 k (by omega) hk, zvd_hi (by omega), a1 6 (by omega) (by omega), h3]
theorem zRW_g {m' : MzM} {lv o k : Nat} {us : List (ZP × ZP × ZP)} {la : ZP} (ho : 4 * lv ≤ o ∧ o < 4 * lv + 4) (h : zRW lv m o k us la) (g : ∀ b i, 258 ≤ b ∧ b ≤ 266 → mz_rd m' b i = mz_rd m b i) : zRW lv m' o k us la := by
  rcases h with ⟨w1, w2, w3⟩ | ⟨a, w⟩
  · exact Or.inl ⟨w1, w2, by rw [g 258 _ (by omega), g 259 _ (by omega)]; exact w3⟩
  · refine Or.inr ⟨a, ?_⟩
    obtain ⟨h1, h2, h3, h4, h5, s, h6, h7, h8⟩ := w
    have gp : ∀ {s P}, zRPt lv m s P → zRPt lv m' s P := fun z => zRPt_f z (fun b i w w1 w2 => g b i (by omega))
    refine ⟨(g _ _ (by omega)).trans h1, (g _ _ (by omega)).trans h2, h3, fun j q hj => ?_, (g _ _ (by omega)).trans h5, s, (g _ _ (by omega)).trans h6, (g _ _ (by omega)).trans h7, gp h8⟩
    obtain ⟨q0, s, q1, q2, q3, q4, q5, q6, q7⟩ := h4 j q hj
    exact ⟨(g _ _ (by omega)).trans q0, s, (g _ _ (by omega)).trans q1, (g _ _ (by omega)).trans q2, (g _ _ (by omega)).trans q3, (g _ _ (by omega)).trans q4, gp q5, gp q6, gp q7⟩
def zTKr (a i : Nat) : Prop := a = 270 ∨ a = 271 ∨ a = 282 ∨ (a = 239 ∧ (i = 17 ∨ i = 18 ∨ i = 49 ∨ i = 50 ∨ i = 52 ∨ i = 62))
theorem r_take {sd : Nat} (p : Int32) (ok : zDwf np ns U ts last H D cs) (h : zDR m sd np ns U ts last H D cs pt) : ∃ m', ((R_X12_begins 8 (mz_wr (mz_wr m 239 17 p) 239 18 (nI sd))).bind (fun m15 => (R_X12_keepsRow 8 m15).bind (fun m18 => H_X12_read_214 8 0 (mz_wr (mz_wr m18 239 52 0) 239 62 0)))) = some (0, m') ∧ zFr zTKr m m' ∧ zTR (zTd np ns U ts last H D) sd m' ∧ zRA np m' 270 (zvd cs pt) ∧ mz_rd m' 239 17 = p ∧ mz_rd m' 239 52 = 0 ∧ mz_rd m' 239 62 = 0 ∧ ∀ j, j < 3 → mz_rd m' 282 j = 0 := by
  obtain ⟨h1, h2, h3, h4, h5, h6, h7, h8, h9⟩ := h
  have w6 : np ≤ 6 := ok.1.1
  obtain ⟨m1, e1, f1, a1⟩ := r_begins (d := 8) (m := mz_wr (mz_wr m 239 17 p) 239 18 (nI sd)) (np := np) h1 m_eq (by rw [m_ne (by omega), m_ne (by omega)]; exact h2) w6
  obtain ⟨m2, e2, f2, a2⟩ := r_keepsA (d := 8) (m := m1)
  obtain ⟨m3, e3, f3, a3⟩ := r_unheld (d := 8) (m := mz_wr (mz_wr m2 239 52 0) 239 62 0)
  have F1 : zFr zTKr m m1 := zFr_t (zFr_w2 (zFr_w (by unfold zTKr; omega)) (by unfold zTKr; omega)) (zFr_m f1 (fun a i z => by unfold zBG at z; unfold zTKr; omega))
  have F3 : zFr zTKr m m3 := zFr_t (zFr_w2 (zFr_w2 (zFr_t F1 (zFr_m f2 (fun a i z => by unfold zTKr; omega))) (by unfold zTKr; omega)) (by unfold zTKr; omega)) (zFr_m f3 (fun a i z => by unfold zTKr; omega))
  have c3 : ∀ i, i ≠ 52 → i ≠ 62 → mz_rd m3 239 i = mz_rd m1 239 i := fun i z1 z2 => by
    rw [f3.1 239 i (by omega), m_ni z2, m_ni z1, f2.1 239 i (by omega)]
  have g18 : mz_rd m3 239 18 = nI sd := by rw [c3 18 (by omega) (by omega), f1.1 239 18 (by unfold zBG; omega), m_eq]
  have g17 : mz_rd m3 239 17 = p := by rw [c3 17 (by omega) (by omega), f1.1 239 17 (by unfold zBG; omega), m_ni (by omega), m_eq]
  have g : ∀ a i, 248 ≤ a → a ≤ 266 → mz_rd m3 a i = mz_rd m a i := fun a i z1 z2 => F3.1 a i (by unfold zTKr; omega)
  rw [e1, Option.bind_some, e2, Option.bind_some, e3]
  refine ⟨m3, rfl, F3, ⟨ok.1, h1, g18, (g _ _ (by omega) (by omega)).trans h2, (g _ _ (by omega) (by omega)).trans h4, fun i hi => ?_, (g _ _ (by omega) (by omega)).trans h7, (g _ _ (by omega) (by omega)).trans h8, ?_⟩, ?_, g17, ?_, ?_, a3⟩
  · obtain ⟨i1, i2, i3, i4⟩ := h5 i hi
    exact ⟨(g _ _ (by omega) (by omega)).trans i1, (g _ _ (by omega) (by omega)).trans i2, (g _ _ (by omega) (by omega)).trans i3, (g _ _ (by omega) (by omega)).trans i4⟩
  · exact zLR_of h1 g18 (fun k hk => zRW_g (by omega) (h9 k hk) (fun b i z => g b i (by omega) (by omega)))
  · intro k hk hk2
    have q : mz_rd m3 270 k = mz_rd m1 271 k := by
      rw [f3.1 270 k (by omega), m_ne (by omega), m_ne (by omega), a2 k hk]
    rw [q, a1 k hk]
    by_cases c : k < 4 * np
    · rw [if_pos c, zvd_lo (by omega), m_ne (by omega), m_ne (by omega)]
      exact h3 k c
    · rw [if_neg c, zvd_hi (by omega), m_ne (by omega), m_ne (by omega), h6]
  · rw [f3.1 239 52 (by omega), m_ni (by omega), m_eq]
  · rw [f3.1 239 62 (by omega), m_eq]
end ZTake
