/-! a reading, on both sides -/
section ZRds
variable {b : Nat → Nat} {s d sd : Nat}
theorem r_copy : ∀ (n i : Nat) (x : MzM), i + n = s → s ≤ 2000 → mz_rd x 239 4 = nI s → ∃ x', H_X12_read_10 d (nI i) x = H_X12_read_10 d (nI s) x' ∧ zFr (fun a j => a = 241 ∧ i ≤ j) x x' ∧ ∀ k, i ≤ k → k < s → mz_rd x' 241 k = vp_nar .byte (mz_rd x 240 k) := by
  intro n
  induction n with
  | zero =>
    intro i x e s2 h4
    have : i = s := by omega
    subst this
    exact ⟨x, rfl, zFr_r, fun k p q => absurd q (by omega)⟩
  | succ n ih =>
    intro i x e s2 h4
    obtain ⟨x1, hx⟩ : ∃ q : MzM, q = mz_wr x 241 i (vp_nar .byte (mz_rd x 240 i)) := ⟨_, rfl⟩
    have F1 : zFr (fun a j => a = 241 ∧ i ≤ j) x x1 := by rw [hx]; exact zFr_w ⟨rfl, Nat.le_refl _⟩
    obtain ⟨x2, e2, f2, g2⟩ := ih (i + 1) x1 (by omega) s2 (by rw [hx, m_ne (by omega)]; exact h4)
    refine ⟨x2, ?_, zFr_t F1 (zFr_m f2 (fun a j z => by omega)), fun k p q => ?_⟩
    · rw [← e2, H_X12_read_10_eq d (nI i) x, h4, if_neg (nI_ge (by omega) (by omega)), n_ok (by omega), n_gd (by omega), n_gd (by omega), nI_clamp (by omega), nI_1, ← hx]
    · by_cases c : k = i
      · rw [c, f2.1 241 i (by omega), hx, m_eq]
      · rw [g2 k (by omega) q, hx, m_ne (by omega)]
theorem r_plain {x : MzM} (hs : sd < 2) : ∃ x', R_X12_plain d (nI sd) x = some x' ∧ zFr (fun a i => ((a = 248 ∨ a = 250 ∨ a = 255 ∨ a = 256 ∨ a = 257) ∧ i = sd) ∨ ((a = 258 ∨ a = 259) ∧ 4 * sd ≤ i ∧ i < 4 * sd + 4)) x x' ∧ mz_rd x' 248 sd = 0 ∧ mz_rd x' 250 sd = 0 ∧ mz_rd x' 255 sd = 1 ∧ mz_rd x' 256 sd = 0 ∧ mz_rd x' 257 sd = 0 ∧ ∀ k, k < 4 → mz_rd x' 258 (4 * sd + k) = 0 ∧ mz_rd x' 259 (4 * sd + k) = 0 := by
  have lp : ∀ (n j : Nat) (x : MzM), j + n = 4 → ∃ x', H_X12_plain_37 d (nI sd) (nI j) x = some x' ∧ zFr (fun a i => (a = 258 ∨ a = 259) ∧ 4 * sd + j ≤ i ∧ i < 4 * sd + 4) x x' ∧ ∀ k, j ≤ k → k < 4 → mz_rd x' 258 (4 * sd + k) = 0 ∧ mz_rd x' 259 (4 * sd + k) = 0 := by
    intro n
    induction n with
    | zero =>
      intro j x e
      refine ⟨x, ?_, zFr_r, fun k p q => absurd q (by omega)⟩
      rw [H_X12_plain_37_eq, if_pos (show (4 : Int32) ≤ nI j from nI_le (a := 4) (by omega) (by omega))]
    | succ n ih =>
      intro j x e
      obtain ⟨x1, hx⟩ : ∃ q : MzM, q = mz_wr (mz_wr x 258 (4 * sd + j) 0) 259 (4 * sd + j) 0 := ⟨_, rfl⟩
      have F1 : zFr (fun a i => (a = 258 ∨ a = 259) ∧ 4 * sd + j ≤ i ∧ i < 4 * sd + 4) x x1 := by rw [hx]; exact zFr_w2 (zFr_w (by omega)) (by omega)
      obtain ⟨x2, e2, f2, g2⟩ := ih (j + 1) x1 (by omega)
      have ix : (4 : Int32) * nI sd + nI j = nI (4 * sd + j) := by
        rw [show (4 : Int32) * nI sd = nI (4 * sd) from pk_mul 4 sd, nI_add]
      refine ⟨x2, ?_, zFr_t F1 (zFr_m f2 (fun a i z => by omega)), fun k p q => ?_⟩
      · rw [H_X12_plain_37_eq, if_neg (show ¬ (4 : Int32) ≤ nI j from nI_ge (b := 4) (by omega) (by omega)), ix, n_ok (by omega), n_gd (by omega), n_gd (by omega), nI_clamp (by omega), nI_1, ← hx]
        exact e2
      · by_cases c : k = j
        · subst c
          rw [f2.1 258 _ (by omega), f2.1 259 _ (by omega), hx]
          exact ⟨by rw [m_ne (by omega), m_eq], m_eq⟩
        · exact g2 k (by omega) q
  obtain ⟨x1, hx⟩ : ∃ q : MzM, q = mz_wr (mz_wr (mz_wr (mz_wr (mz_wr x 248 sd 0) 250 sd 0) 255 sd 1) 256 sd 0) 257 sd 0 := ⟨_, rfl⟩
  obtain ⟨x2, e2, f2, g2⟩ := lp 4 0 x1 (by omega)
  have e2 : H_X12_plain_37 d (nI sd) 0 x1 = some x2 := e2
  have F1 : zFr (fun a i => ((a = 248 ∨ a = 250 ∨ a = 255 ∨ a = 256 ∨ a = 257) ∧ i = sd) ∨ ((a = 258 ∨ a = 259) ∧ 4 * sd ≤ i ∧ i < 4 * sd + 4)) x x1 := by
    rw [hx]
    exact zFr_w2 (zFr_w2 (zFr_w2 (zFr_w2 (zFr_w (by omega)) (by omega)) (by omega)) (by omega)) (by omega)
  refine ⟨x2, ?_, zFr_t F1 (zFr_m f2 (fun a i z => by omega)), ?_, ?_, ?_, ?_, ?_, fun k hk => g2 k (by omega) hk⟩
  · rw [R_X12_plain_eq, n_ok (by omega), n_gd (by omega), n_gd (by omega), n_gd (by omega), n_gd (by omega), n_gd (by omega), nI_clamp (by omega), ← hx]
    exact e2
  · rw [f2.1 _ _ (by omega), hx, m_ne (by omega), m_ne (by omega), m_ne (by omega), m_ne (by omega), m_eq]
  · rw [f2.1 _ _ (by omega), hx, m_ne (by omega), m_ne (by omega), m_ne (by omega), m_eq]
  · rw [f2.1 _ _ (by omega), hx, m_ne (by omega), m_ne (by omega), m_eq]
  · rw [f2.1 _ _ (by omega), hx, m_ne (by omega), m_eq]
  · rw [f2.1 _ _ (by omega), hx, m_eq]
theorem zRTe_h {a i : Nat} (z : zRTe sd a i) : zRPh sd a i := by unfold zRTe at z; unfold zRPh; omega
/-- the reference, from the tape on -/
theorem r_reads {x : MzM} {lv k : Nat} {A : ZA} {S' : ZX} (hl : lv < 2) (h18 : mz_rd x 239 18 = nI lv) (s2 : s ≤ 2000) (h2 : mz_rd x 239 2 = nI s) (hb : ∀ i, b i < 256) (hbb : ∀ i, i < s → mz_rd x 240 i &&& 255 = nI (b i)) (hky : zKy x) (g : zRun (zkd b s) (zvl b s) (znm 32 b s) k zS0 0 A S') : ∃ y, zFl (zRPh (1 - lv)) x y ∧ mz_rd y 239 2 = 0 ∧ R_X12_read 8 x = H_X12_read_107 8 y ∧ mz_rd y 239 19 = nI (1 - lv) ∧ ∃ N, zTkR (zkd b s) (zvl b s) (znm 27 b s) (zplc b s) N y ∧ zRst (zplc b s) N y (zn A) ∧ ∀ t', zn A = .inr t' → zXr (zkd b s) (znm 27 b s) (zplc b s) (1 - lv) y t' S' ∧ zWS (zkd b s) t' S' := by
  obtain ⟨sd, hsd⟩ : ∃ sd, sd = 1 - lv := ⟨_, rfl⟩
  have hs : sd < 2 := by omega
  obtain ⟨x1, hx1⟩ : ∃ q : MzM, q = mz_wr x 239 4 (nI s) := ⟨_, rfl⟩
  obtain ⟨x2, e2, f2, g2⟩ := r_copy (d := 8) s 0 x1 (by omega) s2 (by rw [hx1, m_eq])
  have e2 : H_X12_read_10 8 0 x1 = H_X12_read_10 8 (nI s) x2 := e2
  have v2 : ∀ a i, a ≠ 241 → mz_rd x2 a i = mz_rd x1 a i := fun a i z => f2.1 a i (by omega)
  have h24 : mz_rd x2 239 4 = nI s := by rw [v2 _ _ (by omega), hx1, m_eq]
  obtain ⟨x3, hx3⟩ : ∃ q : MzM, q = mz_wr x2 239 2 0 := ⟨_, rfl⟩
  have v3 : ∀ a i, ¬ (a = 239 ∧ i = 2) → mz_rd x3 a i = mz_rd x2 a i := fun a i z => by rw [hx3, m_rw, if_neg z]
  have l3 : x3.2 = x.2 := by rw [hx3]; show x2.2 = x.2; rw [f2.2, hx1]; rfl
  have by3 : zByR x3 b s := by
    refine ⟨s2, (v3 _ _ (by omega)).trans h24, hb, fun i hi => ?_⟩
    rw [v3 _ _ (by omega), g2 i (by omega) hi, vp_nar_byte, b_and, hx1, m_ne (by omega)]
    exact hbb i hi
  have ky3 : zKy x3 := by unfold zKy; rw [l3]; exact hky
  obtain ⟨x4, N, e4, f4, n1, n2, n3, n4, t4⟩ := r_cut (d := 8) by3 (fun k hk => zky_m ky3 hk)
  have tk4 := zTr_tkR n1 n2 n3 n4 t4
  have h418 : mz_rd x4 239 18 = nI lv := by rw [f4.1 _ _ (by omega), v3 _ _ (by omega), v2 _ _ (by omega), hx1, m_ni (by omega)]; exact h18
  obtain ⟨x5, hx5⟩ : ∃ q : MzM, q = mz_wr (mz_wr (mz_wr (mz_wr (mz_wr x4 239 11 0) 239 12 0) 239 13 0) 239 15 0) 239 19 (nI sd) := ⟨_, rfl⟩
  have F5 : zFr (fun a i => a = 239 ∧ (i = 11 ∨ i = 12 ∨ i = 13 ∨ i = 15 ∨ i = 19)) x4 x5 := by
    rw [hx5]
    exact zFr_w2 (zFr_w2 (zFr_w2 (zFr_w2 (zFr_w (by omega)) (by omega)) (by omega)) (by omega)) (by omega)
  obtain ⟨x6, e6, f6, a1, a2, a3, a4, a5, a6⟩ := r_plain (d := 8) (x := x5) hs
  have h619 : mz_rd x6 239 19 = nI sd := by rw [f6.1 _ _ (by omega), hx5, m_eq]
  obtain ⟨x7, hx7⟩ : ∃ q : MzM, q = mz_wr (mz_wr x6 239 33 (nI (130 * sd + 0))) 239 39 (nI (420 * sd + 0)) := ⟨_, rfl⟩
  have F7 : zFr (fun a i => a = 239 ∧ (i = 33 ∨ i = 39)) x6 x7 := by rw [hx7]; exact zFr_w2 (zFr_w (by omega)) (by omega)
  have e : R_X12_read 8 x = H_X12_read_107 8 x7 := by
    rw [R_X12_read_eq, h2, ← hx1, e2, H_X12_read_10_eq, h24, if_pos (nI_le (Nat.le_refl _) (by omega)), ← hx3, e4, Option.bind_some, m_ni (show 18 ≠ 15 by omega), m_ni (show 18 ≠ 13 by omega), m_ni (show 18 ≠ 12 by omega), m_ni (show 18 ≠ 11 by omega), h418, show (1 : Int32) - nI lv = nI (1 - lv) from pk_sub (a := 1) (by omega), ← hsd, m_eq, ← hx5, e6, Option.bind_some, h619, show (130 : Int32) * nI sd = nI (130 * sd) from pk_mul 130 sd, m_ni (show 19 ≠ 33 by omega), h619, show (420 : Int32) * nI sd = nI (420 * sd) from pk_mul 420 sd, hx7, Nat.add_zero, Nat.add_zero]
  have tk7 : zTkR (zkd b s) (zvl b s) (znm 27 b s) (zplc b s) N x7 := zTkR_f (zTkR_f (zTkR_f tk4 F5 (fun a i z => by omega)) f6 (fun a i z => by omega)) F7 (fun a i z => by omega)
  have w7 : ∀ a i, a ≠ 239 → mz_rd x7 a i = mz_rd x6 a i := fun a i z => F7.1 a i (by omega)
  have u7 : ∀ i, i = 11 ∨ i = 12 ∨ i = 13 ∨ i = 15 → mz_rd x7 239 i = 0 := fun i z => by
    rw [F7.1 239 i (by omega), f6.1 239 i (by omega), hx5]
    rcases z with rfl | rfl | rfl | rfl
    · rw [m_ni (by omega), m_ni (by omega), m_ni (by omega), m_ni (by omega), m_eq]
    · rw [m_ni (by omega), m_ni (by omega), m_ni (by omega), m_eq]
    · rw [m_ni (by omega), m_ni (by omega), m_eq]
    · rw [m_ni (by omega), m_eq]
  have s7 : zRst (zplc b s) N x7 (.inr 0) := ⟨u7 13 (by omega), u7 11 (by omega), n2, u7 12 (by omega)⟩
  have X7 : zXr (zkd b s) (znm 27 b s) (zplc b s) sd x7 0 zS0 := by
    refine ⟨⟨by rw [F7.1 _ _ (by omega)]; exact h619, (w7 _ _ (by omega)).trans a1, fun k hk => absurd hk (by show ¬ k < 0; omega)⟩, (w7 _ _ (by omega)).trans a2, ⟨u7 15 (by omega), by show 0 < 10; omega, fun z => absurd rfl z⟩, 0, 0, ?_, by omega, ?_, by omega, fun _ => ⟨(w7 _ _ (by omega)).trans a3, (w7 _ _ (by omega)).trans a4, (w7 _ _ (by omega)).trans a5, fun k hk => absurd hk (by show ¬ k < 4 * 0; omega), fun i hi => absurd hi (by show ¬ i < 0; omega), fun k hk => Or.inl ⟨rfl, rfl, ?_⟩⟩⟩
    · rw [hx7, m_ni (by omega), m_eq]
    · rw [hx7, m_eq]
    · rw [w7 _ _ (by omega), w7 _ _ (by omega), (a6 k hk).1, (a6 k hk).2]
  obtain ⟨y, ey, fy, sy, py⟩ := r_run (d := 8) (nm := znm 32 b s) (nr := znm 27 b s) (fun i hi => if_neg (by omega)) hs (zPM_p s2 n3) (fun i j hi hj => znm_iff hi hj) (fun i hi => (znm_63 hi).2) k zS0 S' 0 A x7 g tk7 s7 (by omega) zWS_0 X7
  refine ⟨y, ⟨fun a i z => ?_, ?_⟩, ?_, e.trans ey, ?_, N, zTkR_R tk7 fy, sy, by rw [← hsd]; exact py⟩
  · rw [← hsd] at z
    have z1 : ¬ zRTe sd a i := fun q => z (zRTe_h q)
    unfold zRPh at z
    rw [fy.1 a i z1, F7.1 a i (by omega), f6.1 a i (by omega), F5.1 a i (by omega), f4.1 a i (by omega), v3 a i (by omega), v2 a i (by omega), hx1, m_rw, if_neg (by omega)]
  · rw [fy.2 246 (by omega), F7.2, f6.2, F5.2, f4.2 246 (by omega), l3]
  · rw [fy.1 239 2 (by unfold zRTe; omega), F7.1 _ _ (by omega), f6.1 _ _ (by omega), F5.1 _ _ (by omega), f4.1 _ _ (by omega), hx3, m_eq]
  · rw [fy.1 239 19 (by unfold zRTe; omega), F7.1 _ _ (by omega), h619, hsd]
end ZRds
theorem zCLd_u {m : MzM} {u k : Nat} {ts : List (ZP × ZP × ZP)} {last : ZP} (h : zCLu m u k ts last) (hu : u ≤ 404) : zCLd m k ts last := by
  obtain ⟨h1, h2, h3⟩ := h
  refine ⟨h1, h2, fun j P hj => ?_⟩
  obtain ⟨fr, a1, a2, a3, a4, a5⟩ := h3 j P hj
  exact ⟨fr, a1, a2, by omega, a4, a5⟩
theorem zRPt_u {sd c fr : Nat} {x : MzM} {P : ZP} (h : zRPu sd x c fr P) (hc : c ≤ 420 * sd + 420) : zRPt sd x fr P := ⟨h.1, by have := h.2.1; omega, h.2.2.1, h.2.2.2⟩
theorem zRW_u {sd cc bb o k : Nat} {x : MzM} {ts : List (ZP × ZP × ZP)} {last : ZP} (h : zRWu sd x cc bb o k ts last) (hc : cc ≤ 420 * sd + 420) (hb : bb ≤ 130 * sd + 130) : zRW sd x o k ts last := by
  rcases h with h | ⟨a, h1, h2, h3, h4, h5, h6, s, h7, h8, h9⟩
  · exact Or.inl h
  · refine Or.inr ⟨a, h1, h2, ⟨h3, by omega⟩, fun j q hj => ?_, h6, s, h7, h8, zRPt_u h9 hc⟩
    obtain ⟨k1, s, k2, k3, k4, k5, k6, k7, k8⟩ := h5 j q hj
    exact ⟨k1, s, k2, k3, k4, k5, zRPt_u k6 hc, zRPt_u k7 hc, zRPt_u k8 hc⟩
/-- read, on both sides -/
theorem z_reads : zReads := by
  intro m lv hl h18 ht hky
  obtain ⟨s, s2, h1, h2, h3⟩ := ht
  obtain ⟨b, hb⟩ : ∃ b : Nat → Nat, b = fun i => (mz_rd m 3 i &&& 255).toNatClampNeg := ⟨_, rfl⟩
  have bi : ∀ i, b i < 256 ∧ mz_rd m 3 i &&& 255 = nI (b i) := fun i => by
    obtain ⟨j, j1, j2⟩ := pk_andE (mz_rd m 3 i) 8 (show (255 : Int32).toBitVec.toNat = 2 ^ 8 - 1 by decide)
    have : b i = j := by rw [hb]; show (mz_rd m 3 i &&& 255).toNatClampNeg = j; rw [j2, nI_clamp (by omega)]
    rw [this]
    exact ⟨by omega, j2⟩
  have by0 : zBy m b s := ⟨s2, h1, fun i => (bi i).1, fun i _ => (bi i).2⟩
  obtain ⟨k, A, S', m1, r1, r2, r3, r4, r5⟩ := c_reads by0
  obtain ⟨np, ns, tn, LF, U, ts, last, H, D, cs, pt⟩ := S'
  have em : ∀ x : MzM, (∀ a i, 239 ≤ a → mz_rd x a i = mz_rd m a i) → x.2 246 = m.2 246 → ∃ y, zFl (zRPh (1 - lv)) x y ∧ mz_rd y 239 2 = 0 ∧ R_X12_read 8 x = H_X12_read_107 8 y ∧ mz_rd y 239 19 = nI (1 - lv) ∧ ∃ N, zTkR (zkd b s) (zvl b s) (znm 27 b s) (zplc b s) N y ∧ zRst (zplc b s) N y (zn A) ∧ ∀ t', zn A = .inr t' → zXr (zkd b s) (znm 27 b s) (zplc b s) (1 - lv) y t' (np, ns, tn, LF, U, ts, last, H, D, cs, pt) ∧ zWS (zkd b s) t' (np, ns, tn, LF, U, ts, last, H, D, cs, pt) := fun x hx1 hx2 =>
    r_reads hl ((hx1 _ _ (by omega)).trans h18) s2 ((hx1 _ _ (by omega)).trans h2) (fun i => (bi i).1) (fun i hi => by rw [hx1 _ _ (by omega), ← h3 i hi]; exact (bi i).2) (by unfold zKy; rw [hx2]; exact hky) r1
  have en : ∀ (x y : MzM) (N : Nat), zTkR (zkd b s) (zvl b s) (znm 27 b s) (zplc b s) N y → zRst (zplc b s) N y (zn A) → (∀ t', zn A = .inr t' → zXr (zkd b s) (znm 27 b s) (zplc b s) (1 - lv) y t' (np, ns, tn, LF, U, ts, last, H, D, cs, pt) ∧ zWS (zkd b s) t' (np, ns, tn, LF, U, ts, last, H, D, cs, pt)) → mz_rd y 239 19 = nI (1 - lv) → (zOut (zn A) LF).1 < 10 ∧ ((zOut (zn A) LF).1 ≠ 0 → H_X12_read_107 8 y = some (nI (zOut (zn A) LF).1, mz_wr y 239 17 (zPl (zplc b s) (zOut (zn A) LF).2))) ∧ ((zOut (zn A) LF).1 = 0 → H_X12_read_107 8 y = ((R_X12_begins 8 (mz_wr (mz_wr y 239 17 (zPl (zplc b s) (zOut (zn A) LF).2)) 239 18 (nI (1 - lv)))).bind (fun m15 => (R_X12_keepsRow 8 m15).bind (fun m18 => H_X12_read_214 8 0 (mz_wr (mz_wr m18 239 52 0) 239 62 0))))) := fun x y N tk st px h19 => r_end (d := 8) (sd := 1 - lv) (LF := LF) tk st (fun t e => ⟨zRun_e k zS0 _ 0 t A r1 (zn_ir e).1, (px t e).1.2.2.1⟩) h19
  obtain ⟨y0, _, _, _, q19, N0, tk0, st0, px0⟩ := em m (fun _ _ _ => rfl) rfl
  have f10 := (en m y0 N0 tk0 st0 px0 q19).1
  have al0 : (zOut (zn A) LF).1 = 0 → ∃ t, zn A = .inr t ∧ LF.1 = 0 := fun z => by
    rcases zn_cs A with ⟨e, q⟩ | ⟨t, _, _, q⟩
    · rw [q] at st0 z
      have z : e.1 = 0 := z
      have := st0.2.2
      omega
    · refine ⟨t, q, ?_⟩
      rw [q] at z
      have z : (if LF.1 = 0 then (0, none) else (LF.1, some LF.2) : Nat × Option Nat).1 = 0 := z
      by_cases c : LF.1 = 0
      · exact c
      · rw [if_neg c] at z; exact absurd z c
  refine ⟨(zOut (zn A) LF).1, zPl (zplc b s) (zOut (zn A) LF).2, m1, np, ns, U, ts, last, H, D, cs, pt, f10, r2, r3, r4, fun z => ?_, fun x hx1 hx2 => ?_⟩
  · obtain ⟨t, q, l0⟩ := al0 z
    obtain ⟨u, u1, ⟨c1, c2, c3, c4, c5, c6⟩, c7, c8⟩ := r5 t (zn_ir q).1 l0
    exact ⟨(px0 t q).2.2.2.2 l0, c7, c8, c1, c2, c3, c4, c5, fun k hk => zCLd_u (c6 k hk) u1⟩
  · obtain ⟨y, fy, y2, ey, y19, N, tk, st, px⟩ := em x hx1 hx2
    obtain ⟨_, o1, o2⟩ := en x y N tk st px y19
    refine ⟨y, fy, y2, fun z => ey.trans (o1 z), fun z => ⟨ey.trans (o2 z), ?_⟩⟩
    obtain ⟨t, q, l0⟩ := al0 z
    obtain ⟨⟨X1, X2, X3, bb, cc, X4, X5, X6, X7, X8⟩, _⟩ := px t q
    have t4 := (zn_ir q).2
    obtain ⟨c1, c2, c3, c4, c5, c6⟩ := X8 l0
    exact ⟨by omega, X1.2.1, c4, X2, c5, c1, c2, c3, fun k hk => zRW_u (c6 k hk) (by omega) (by omega)⟩
