/-! read, but for the reading itself -/
def zFl (F : Nat → Nat → Prop) (m m' : MzM) : Prop := (∀ a i, ¬ F a i → mz_rd m' a i = mz_rd m a i) ∧ m'.2 246 = m.2 246
def zCP (a : Nat) (_ : Nat) : Prop := 13 ≤ a ∧ a ≤ 26
def zRPh (sd a i : Nat) : Prop := (a = 239 ∧ i ≠ 17 ∧ i ≠ 18 ∧ i ≠ 52 ∧ i ≠ 62) ∨ (241 ≤ a ∧ a ≤ 245) ∨ a = 247 ∨ ((a = 248 ∨ a = 250 ∨ a = 255 ∨ a = 256 ∨ a = 257) ∧ i = sd) ∨ a = 249 ∨ (251 ≤ a ∧ a ≤ 254 ∧ 8 * sd ≤ i ∧ i < 8 * sd + 8) ∨ ((a = 258 ∨ a = 259) ∧ 4 * sd ≤ i ∧ i < 4 * sd + 4) ∨ (260 ≤ a ∧ a ≤ 264 ∧ 130 * sd ≤ i ∧ i < 130 * sd + 130) ∨ (265 ≤ a ∧ a ≤ 266 ∧ 420 * sd ≤ i ∧ i < 420 * sd + 420) ∨ a = 267
/-- what is owed of the reading: the same fault at the same place, or the same text -/
def zReads : Prop := ∀ (m : MzM) (lv : Nat), lv < 2 → mz_rd m 239 18 = nI lv → zTape m → zKy m → ∃ (f : Nat) (pl : Int32) (m1 : MzM) (np ns : Nat) (U : Nat → Nat → Nat) (ts : Nat → List (ZP × ZP × ZP)) (last : Nat → ZP) (H D : Nat) (cs : Nat → Nat) (pt : Nat), f < 10 ∧ R_X4_readTape 8 m = some (nI f, m1) ∧ R_X4_faultPlace 8 m1 = some (pl, m1) ∧ zFl zCP m m1 ∧ (f = 0 → zDwf np ns U ts last H D cs ∧ zDC m1 np ns U ts last H D cs pt) ∧ ∀ x : MzM, (∀ a i, 239 ≤ a → mz_rd x a i = mz_rd m a i) → x.2 246 = m.2 246 → ∃ y, zFl (zRPh (1 - lv)) x y ∧ mz_rd y 239 2 = 0 ∧ (f ≠ 0 → R_X12_read 8 x = some (nI f, mz_wr y 239 17 pl)) ∧ (f = 0 → R_X12_read 8 x = ((R_X12_begins 8 (mz_wr (mz_wr y 239 17 pl) 239 18 (nI (1 - lv)))).bind (fun m15 => (R_X12_keepsRow 8 m15).bind (fun m18 => H_X12_read_214 8 0 (mz_wr (mz_wr m18 239 52 0) 239 62 0)))) ∧ zDR y (1 - lv) np ns U ts last H D cs pt)
theorem zFl_k {F : Nat → Nat → Prop} {m m' : MzM} (h : zFl F m m') (k : zKy m) : zKy m' := by
  unfold zKy
  rw [h.2]
  exact k
/-- what neither side of a reading touches -/
theorem zI_fault {T : ZT} {lv n : Nat} {v : Nat → Nat} {m m' : MzM} (hn : n < 512) (h : zIv T lv v n m) (g : ∀ a i, ¬ (zCP a i ∨ zRPh (1 - lv) a i ∨ (a = 1 ∧ i = 13) ∨ (a = 2 ∧ i = 1) ∨ (a = 239 ∧ i = 17)) → mz_rd m' a i = mz_rd m a i) (k : zKy m') (p : mz_rd m' 1 13 = mz_rd m' 239 17) (s1 : mz_rd m' 2 1 = 0) (s2 : mz_rd m' 239 2 = 0) : zIv T lv v (n + 1) m' := by
  obtain ⟨h1, h2, h3, h4, h5, h6, h7, h8, h9, h10, h11, h12⟩ := h
  have hl := h2.2.1
  refine ⟨zTC_f h1 (fun a i t => g a i ?_), zTR_l h2 (fun a i t => g a i ?_), zSC_f h3 (fun a i p q => g a i ?_), zRA_f h4 (fun i => g _ i ?_), zB_mono h5 (zBn_1 n) (zBn_2 hn), ⟨0, by omega, s1, s2, fun i hi => absurd hi (by omega)⟩, p, zHi_f h8 (zBn_1 n) (zBn_2 hn) (fun a i t => g a i ?_), zSl_f h9 (zBn_1 n) (zBn_2 hn) (fun a i t => g a i ?_), zTo_f h10 (fun a i t => g a i ?_), zRo_f h11 (fun a i t => g a i ?_), k⟩
  · unfold zCP zRPh; unfold zTx at t; omega
  · unfold zCP zRPh; unfold zRl at t; omega
  · unfold zCP zRPh; omega
  · unfold zCP zRPh; omega
  · unfold zCP zRPh; unfold zHiG at t; omega
  · unfold zCP zRPh; unfold zSlG at t; omega
  · unfold zCP zRPh; unfold zToG at t; omega
  · unfold zCP zRPh; unfold zRoG at t; omega
theorem zDC_f {m m' : MzM} {np ns H D pt : Nat} {U : Nat → Nat → Nat} {ts : Nat → List (ZP × ZP × ZP)} {last : Nat → ZP} {cs : Nat → Nat} (h : zDC m np ns U ts last H D cs pt) (g : ∀ a i, 13 ≤ a → a ≤ 20 → mz_rd m' a i = mz_rd m a i) : zDC m' np ns U ts last H D cs pt := by
  obtain ⟨d1, d2, d3, d4, d5, d6, d7, d8⟩ := h
  refine ⟨(g _ _ (by omega) (by omega)).trans d1, (g _ _ (by omega) (by omega)).trans d2, (g _ _ (by omega) (by omega)).trans d3, (g _ _ (by omega) (by omega)).trans d4, (g _ _ (by omega) (by omega)).trans d5, fun k hk => (g _ _ (by omega) (by omega)).trans (d6 k hk), fun i j hi hj => (g _ _ (by omega) (by omega)).trans (d7 i j hi hj), fun k hk => ?_⟩
  obtain ⟨k1, k2, k3⟩ := d8 k hk
  refine ⟨k1, (g _ _ (by omega) (by omega)).trans k2, fun j P hj => ?_⟩
  obtain ⟨fr, a1, a2, a3, a4, a5⟩ := k3 j P hj
  exact ⟨fr, (g _ _ (by omega) (by omega)).trans a1, (g _ _ (by omega) (by omega)).trans a2, a3, fun i c hi => (g _ _ (by omega) (by omega)).trans (a4 i c hi), a5⟩
theorem o_read_of (hp : zReads) : mz_o_read zI := by
  intro n m hn hI
  obtain ⟨T, lv, v, hv⟩ := hI
  have hv' := hv
  obtain ⟨h1, h2, h3, h4, h5, h6, h7, h8, h9, h10, h11, h12⟩ := hv
  have hl := h2.2.1
  obtain ⟨f, pl, m1, np, ns, U, ts, last, H, D, cs, pt, hf, e1, e2, FC, hd, hr⟩ := hp m lv hl h2.2.2.1 h6 h12
  have x1 := R_X11_read_eq 8 m
  rw [e1, Option.bind_some] at x1
  dsimp only at x1
  rw [e2, Option.bind_some] at x1
  dsimp only at x1
  obtain ⟨mq, hq⟩ : ∃ q : MzM, q = mz_wr (mz_wr m1 1 13 pl) 2 1 0 := ⟨_, rfl⟩
  rw [← hq] at x1
  have q13 : mz_rd mq 1 13 = pl := by rw [hq, m_ne (by omega), m_eq]
  have q21 : mz_rd mq 2 1 = 0 := by rw [hq, m_eq]
  have qF : ∀ a i, ¬ (zCP a i ∨ (a = 1 ∧ i = 13) ∨ (a = 2 ∧ i = 1)) → mz_rd mq a i = mz_rd m a i := fun a i z => by
    rw [hq, m_rw, if_neg (fun w => z (Or.inr (Or.inr w))), m_rw, if_neg (fun w => z (Or.inr (Or.inl w)))]
    exact FC.1 a i (fun w => z (Or.inl w))
  have qL : mq.2 246 = m.2 246 := by rw [hq]; exact FC.2
  by_cases f0 : f = 0
  · subst f0
    obtain ⟨ok, dC⟩ := hd rfl
    rw [if_neg (fun z => z rfl)] at x1
    obtain ⟨mc, ec, Fc, tc, sc, p37, p222, p201, p200⟩ := c_take (nI 0) ok (zDC_f (m' := mq) dC (fun a i z1 z2 => by rw [hq, m_ne (by omega), m_ne (by omega)]))
    rw [ec] at x1
    have cF : ∀ a i, ¬ (zTK a i ∨ zCP a i ∨ (a = 1 ∧ i = 13) ∨ (a = 2 ∧ i = 1)) → mz_rd mc a i = mz_rd m a i := fun a i z => (Fc.1 a i (fun w => z (Or.inl w))).trans (qF a i (fun w => z (Or.inr w)))
    have cL : mc.2 246 = m.2 246 := by rw [Fc.2]; exact qL
    obtain ⟨y, Fy, b, _, hy⟩ := hr mc (fun a i z => cF a i (by unfold zTK zNT zSA zCP; omega)) cL
    obtain ⟨er, dR⟩ := hy rfl
    obtain ⟨mr, em, Fr, tr, sr, p17, p52, p62, p282⟩ := r_take pl ok dR
    rw [em] at er
    have yr : ∀ a i, a < 239 → mz_rd mr a i = mz_rd mc a i := fun a i z => (Fr.1 a i (by unfold zTKr; omega)).trans (Fy.1 a i (by unfold zRPh; omega))
    refine ⟨_, _, _, x1, er, zTd np ns U ts last H D, 1 - lv, zvd cs pt, zTC_f tc (fun a i t => yr a i (by unfold zTx at t; omega)), tr, zSC_f sc (fun a i p q => yr a i (by omega)), sr, zB_d ok.1.1 ok.2 (zBn_2 hn), ⟨0, by omega, ?_, ?_, fun i hi => absurd hi (by omega)⟩, ?_, ?_, ?_, ⟨0, by omega, (yr _ _ (by omega)).trans p222, p62, fun j hj => absurd hj (by omega)⟩, Or.inl ((yr _ _ (by omega)).trans p201), ?_⟩
    · rw [yr 2 1 (by omega), Fc.1 2 1 (by unfold zTK zNT zSA; omega)]
      exact q21
    · rw [Fr.1 239 2 (by unfold zTKr; omega)]
      exact b
    · rw [p17, yr 1 13 (by omega), Fc.1 1 13 (by unfold zTK zNT zSA; omega)]
      exact q13
    · obtain ⟨u, x, u1, u2, u3, u4, u5, u6⟩ := h8
      exact ⟨0, x, by omega, u2, (yr _ _ (by omega)).trans p37, by rw [yr 37 1 (by omega), cF 37 1 (by unfold zTK zNT zSA zCP; omega)]; exact u4, p52, fun j hj => absurd hj (by omega)⟩
    · intro j hj
      exact ⟨false, (yr _ _ (by omega)).trans (p200 j hj), p282 j hj, fun z => absurd z (by decide)⟩
    · unfold zKy
      rw [Fr.2, Fy.2, cL]
      exact h12
  · rw [if_pos (fun z => f0 (by have := (nI_eq (a := f) (b := 0) (by omega) (by omega)).mp z; omega))] at x1
    obtain ⟨y, Fy, b, hy, _⟩ := hr mq (fun a i z => qF a i (by unfold zCP; omega)) qL
    have er := hy f0
    refine ⟨_, _, _, x1, er, T, lv, v, zI_fault hn hv' (fun a i z => ?_) ?_ ?_ ?_ ?_⟩
    · rw [m_rw, if_neg (fun w => z (Or.inr (Or.inr (Or.inr (Or.inr w))))), Fy.1 a i (fun w => z (Or.inr (Or.inl w)))]
      exact qF a i (fun w => z (by
        rcases w with w | w | w
        · exact Or.inl w
        · exact Or.inr (Or.inr (Or.inl w))
        · exact Or.inr (Or.inr (Or.inr (Or.inl w)))))
    · show y.2 246 = _
      rw [Fy.2, qL]
      exact h12
    · rw [m_eq, m_ne (by omega), Fy.1 1 13 (by unfold zRPh; omega)]
      exact q13
    · rw [m_ne (by omega), Fy.1 2 1 (by unfold zRPh; omega)]
      exact q21
    · rw [m_ni (by omega)]
      exact b
