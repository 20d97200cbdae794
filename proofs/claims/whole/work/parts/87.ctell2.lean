/-! what is told, one after the other: the class, a whole tell -/
section ZCtell2
variable {kd vl nm pl : Nat → Nat}
theorem zFc_r {m : MzM} : zFc m m := ⟨fun _ _ _ => rfl, fun _ _ => rfl⟩
theorem zFc_t {m m1 m2 : MzM} (h : zFc m m1) (g : zFc m1 m2) : zFc m m2 := ⟨fun a i z => (g.1 a i z).trans (h.1 a i z), fun a z => (g.2 a z).trans (h.2 a z)⟩
theorem zFc_m {m m' : MzM} {F : Nat → Nat → Prop} (f : zFr F m m') (hF : ∀ a i, F a i → 13 ≤ a ∧ a ≤ 22) : zFc m m' := ⟨fun a i z => f.1 a i (fun w => z (by have := hF a i w; unfold zCP; omega)), fun a _ => by rw [f.2]⟩
theorem zTok_c {m m' : MzM} (h : zTok kd vl nm pl m) (f : zFc m m') : zTok kd vl nm pl m' := by
  obtain ⟨h1, h2, sz, s1, s2, s3, s4⟩ := h
  have g : ∀ a i, 23 ≤ a → a ≤ 26 → mz_rd m' a i = mz_rd m a i := fun a i p q => f.1 a i (by omega)
  refine ⟨h1, h2, sz, s1, (g _ _ (by omega) (by omega)).trans s2, s3, fun i hi => ?_⟩
  obtain ⟨k1, k2, k3, k4⟩ := s4 i hi
  have e : ∀ i, mz_rl m' 26 i = mz_rl m 26 i := fun i => by unfold mz_rl; rw [f.2 26 (by omega)]
  exact ⟨(g _ _ (by omega) (by omega)).trans k1, (g _ _ (by omega) (by omega)).trans k2, fun z => (e i).trans (k3 z), fun z => (e i).trans (k4 z)⟩
theorem zFc_22 {m m' : MzM} (f : zFr (fun a i => a = 22 ∧ 2 ≤ i ∧ i ≤ 7) m m') : zFc m m' := zFc_m f (fun a i z => by omega)
theorem zCLu_f {m m' : MzM} {u u' k : Nat} {ts : List (ZP × ZP × ZP)} {last : ZP} (h : zCLu m u k ts last) (l : u ≤ u') (hk : k < 4) (g1 : ∀ i, i < u → mz_rd m' 18 i = mz_rd m 18 i) (g2 : ∀ i, 14 * k ≤ i → i < 14 * k + 14 → mz_rd m' 19 i = mz_rd m 19 i) (g3 : mz_rd m' 20 k = mz_rd m 20 k) : zCLu m' u' k ts last := by
  obtain ⟨h1, h2, h3⟩ := h
  refine ⟨h1, g3.trans h2, fun j P hj => ?_⟩
  have lj : j < (zpls last ts).length := (List.getElem?_eq_some_iff.mp hj).1
  rw [zpls_len] at lj
  exact zPU_f (h3 j P hj) l g1 (g2 _ (by omega) (by omega)) (g2 _ (by omega) (by omega))
theorem c_take22 {t : Nat} {m : MzM} (h : zTok kd vl nm pl m) (a : zAl kd m t) (k : kd t ≠ 0) : ∃ m', R_X4_take 8 m = some m' ∧ zFr (fun a i => a = 22 ∧ 2 ≤ i ∧ i ≤ 5) m m' ∧ zAl kd m' (t + 1) := by
  obtain ⟨m1, e1, f1, a1⟩ := c_tk (d := 8) h a k
  exact ⟨m1, e1, zFr_m f1 (fun a i z => by omega), a1⟩
/-- what a tell that failed at once leaves -/
theorem c_bad {t f : Nat} {m : MzM} (h : zTok kd vl nm pl m) (a : zAl kd m t) (hf : f = 1 ∨ f = 2) {β : Type} (G : MzM → Option β) : ∃ m', ((R_X4_fail 8 (nI f) m).bind (fun m1 => (R_X4_expect 8 (nI 4) m1).bind G)) = G m' ∧ zFc m m' ∧ zAD kd m' (.inl (f, t)) := by
  obtain ⟨m1, e1, f1, a1⟩ := c_fl (d := 8) a hf
  obtain ⟨m2, e2, f2, a2⟩ := c_exD (d := 8) (k := 4) a1 (by omega) (by omega)
  refine ⟨m2, ?_, zFc_t (zFc_m f1 (fun a i z => by omega)) (zFc_m f2 (fun a i z => by omega)), a2⟩
  rw [e1, Option.bind_some, e2, Option.bind_some]
/-- a person, up to the ; -/
theorem c_pers {t np : Nat} {tn : Nat → Nat} {LF : Nat × Nat} {m : MzM} (hm : ∀ t, kd t = 2 → nm t < 2 ^ 63) (h : zTok kd vl nm pl m) (a : zAl kd m t) (k0 : kd t ≠ 0) (h4 : mz_rd m 13 4 = nI np) (hp : np < 6) (hn : ∀ k, k < np → mz_rl m 14 k = lN (nm (tn k)) ∧ kd (tn k) = 2) (hl : zLFc m LF) : ∃ m', R_X4_readPerson 8 m = some m' ∧ zFc m m' ∧ zAD kd m' (zit kd 4 (zex kd 2 (.inr (t + 1)))) ∧ (kd (t + 1) = 2 → (∀ i, i < 4 → kd (t + 2 + i) = 3) → mz_rd m' 13 4 = nI (np + 1) ∧ (∀ i, i ≠ 4 → mz_rd m' 13 i = mz_rd m 13 i) ∧ (∀ k, k < np → mz_rl m' 14 k = mz_rl m 14 k) ∧ mz_rl m' 14 np = lN (nm (t + 1)) ∧ (∀ i, i < 4 → mz_rd m' 15 (4 * np + i) = nI (vl (t + 2 + i))) ∧ (∀ i, i < 4 * np → mz_rd m' 15 i = mz_rd m 15 i) ∧ (∀ a i, 16 ≤ a → a ≤ 20 → mz_rd m' a i = mz_rd m a i) ∧ zLFc m' (zlfs vl 0 99 4 (t + 2) (if (zfn nm tn np (t + 1)).isSome = true then zlt1 3 (t + 1) LF else LF))) := by
  obtain ⟨m1, e1, f1, a1⟩ := c_take22 h a k0
  have t1 := zTok_22 h (zFx25 f1)
  have w1 : ∀ a i, a ≠ 22 → mz_rd m1 a i = mz_rd m a i := fun a i z => f1.1 a i (by omega)
  have l1 : ∀ i, mz_rl m1 14 i = mz_rl m 14 i := fun i => by unfold mz_rl; rw [f1.2]
  have L1 := zLFc_f hl f1
  have h41 : mz_rd m1 13 4 = nI np := (w1 _ _ (by omega)).trans h4
  have x := R_X4_readPerson_eq 8 m
  rw [h4, if_pos (show nI np < 6 from nI_lt (b := 6) hp (by omega)), e1, Option.bind_some, h41] at x
  have t13 : mz_isT 13 = true := by decide +kernel
  by_cases c : kd (t + 1) = 2
  · have nd := c_named (d := 8) (v := nm (t + 1)) h41 (by omega) (fun k hk => ⟨(l1 k).trans (hn k hk).1, hm _ (hn k hk).2⟩) (hm _ c) np 0 (by omega)
    have nd : H_X8_personNamed_2 8 13 (lN (nm (t + 1))) 0 m1 = some (zfi (zfn nm tn np (t + 1)), m1) := nd
    rw [if_neg (show ¬ ¬ mz_rd m1 22 3 = 2 from fun z => z (by rw [a1.2.2.1, c]; rfl)), a1.2.1, c_valN t1 c, Option.bind_some] at x
    dsimp only at x
    rw [R_X8_personNamed_eq 8 13 _ m1 t13, nd, Option.bind_some] at x
    dsimp only at x
    have bo : ∀ j, zfn nm tn np (t + 1) = some j → j < 100 := fun j hj => by have := zfn_lt hj; omega
    have go : ∀ (m2 : MzM) (LF2 : Nat × Nat), zFr (fun a i => a = 22 ∧ (i = 6 ∨ i = 7)) m1 m2 → zLFc m2 LF2 → R_X4_readPerson 8 m = mz_g (mz_ok (nI np) 6) ((R_X4_expect 8 2 (mz_wr (mz_wl m2 14 ((nI np) : Int32).toNatClampNeg (lN (nm (t + 1)))) 13 4 ((mz_rd (mz_wl m2 14 ((nI np) : Int32).toNatClampNeg (lN (nm (t + 1)))) 13 4) + 1))).bind (fun m17 => H_X4_readPerson_97 8 (nI np) 0 m17)) → ∃ m', R_X4_readPerson 8 m = some m' ∧ zFc m m' ∧ zAD kd m' (zit kd 4 (zex kd 2 (.inr (t + 1)))) ∧ (kd (t + 1) = 2 → (∀ i, i < 4 → kd (t + 2 + i) = 3) → mz_rd m' 13 4 = nI (np + 1) ∧ (∀ i, i ≠ 4 → mz_rd m' 13 i = mz_rd m 13 i) ∧ (∀ k, k < np → mz_rl m' 14 k = mz_rl m 14 k) ∧ mz_rl m' 14 np = lN (nm (t + 1)) ∧ (∀ i, i < 4 → mz_rd m' 15 (4 * np + i) = nI (vl (t + 2 + i))) ∧ (∀ i, i < 4 * np → mz_rd m' 15 i = mz_rd m 15 i) ∧ (∀ a i, 16 ≤ a → a ≤ 20 → mz_rd m' a i = mz_rd m a i) ∧ zLFc m' (zlfs vl 0 99 4 (t + 2) LF2)) := by
      intro m2 LF2 f2 L2 y
      have w2 : ∀ a i, a ≠ 22 → mz_rd m2 a i = mz_rd m1 a i := fun a i z => f2.1 a i (by omega)
      rw [n_ok (by omega), n_gd (by omega), nI_clamp (by omega), m_rwl, w2 _ _ (by omega), h41, nI_1] at y
      obtain ⟨m3, hm3⟩ : ∃ q : MzM, q = mz_wr (mz_wl m2 14 np (lN (nm (t + 1)))) 13 4 (nI (np + 1)) := ⟨_, rfl⟩
      rw [← hm3] at y
      have w3 : ∀ a i, ¬ (a = 13 ∧ i = 4) → mz_rd m3 a i = mz_rd m2 a i := fun a i z => by rw [hm3, m_rw, if_neg z, m_rwl]
      have F3 : zFc m2 m3 := ⟨fun a i z => w3 a i (fun w => z (by unfold zCP; omega)), fun b z => by
        rw [hm3]
        show (fun i' => if b = 14 ∧ i' = np then lN (nm (t + 1)) else m2.2 b i') = m2.2 b
        funext i
        rw [if_neg (fun w => z w.1)]⟩
      have a2 := zAl_67 a1 f2
      have a3 : zAD kd m3 (.inr (t + 1)) := ⟨(w3 _ _ (by omega)).trans a2.1, (w3 _ _ (by omega)).trans a2.2.1, (w3 _ _ (by omega)).trans a2.2.2.1, a2.2.2.2⟩
      have t3 := zTok_c (zTok_22 t1 (zFx67 f2)) F3
      obtain ⟨m4, e4, f4, a4⟩ := c_exA (d := 8) (k := 2) t3 a3 (by omega) (by omega)
      have e4 : R_X4_expect 8 2 m3 = some m4 := e4
      have L4 : zLFc m4 LF2 := zLFc_f ⟨(w3 _ _ (by omega)).trans L2.1, L2.2.1, fun z => (w3 _ _ (by omega)).trans (L2.2.2 z)⟩ f4
      obtain ⟨m5, e5, f5, a5, p5⟩ := c_ints (d := 8) hp 4 0 m4 _ LF2 (by omega) (zTok_22 t3 (zFx25 f4)) a4 (fun _ _ => L4)
      have e5 : H_X4_readPerson_97 8 (nI np) 0 m4 = some m5 := e5
      rw [e4, Option.bind_some, e5] at y
      have l5 : ∀ i, mz_rl m5 14 i = mz_rl m3 14 i := fun i => by unfold mz_rl; rw [f5.2, f4.2]
      have w5 : ∀ a i, a ≠ 22 → a ≠ 15 → mz_rd m5 a i = mz_rd m3 a i := fun a i p q => by rw [f5.1 a i (by omega), f4.1 a i (by omega)]
      refine ⟨m5, y, zFc_t (zFc_22 (zFx25 f1)) (zFc_t (zFc_22 (zFx67 f2)) (zFc_t F3 (zFc_t (zFc_22 (zFx25 f4)) (zFc_m f5 (fun a i z => by omega))))), a5, fun c k => ?_⟩
      have q := p5 (t + 2) (by rw [show zex kd 2 (.inr (t + 1)) = .inr (t + 1 + 1) from if_pos c]) k
      refine ⟨?_, fun i hi => ?_, fun k hk => ?_, ?_, fun i hi => ?_, fun i hi => ?_, fun a i p r => ?_, q.2⟩
      · rw [w5 _ _ (by omega) (by omega), hm3, m_eq]
      · rw [w5 _ _ (by omega) (by omega), w3 _ _ (by omega), w2 _ _ (by omega), w1 _ _ (by omega)]
      · rw [l5, hm3, m_lw, m_lwl, if_neg (by omega)]
        show m2.2 14 k = m.2 14 k
        rw [f2.2, f1.2]
      · rw [l5, hm3, m_lw, m_lwl, if_pos ⟨rfl, rfl⟩]
      · have := q.1 i hi
        rw [Nat.add_zero] at this
        exact this
      · rw [f5.1 15 i (by omega), f4.1 15 i (by omega), w3 _ _ (by omega), w2 _ _ (by omega), w1 _ _ (by omega)]
      · rw [w5 _ _ (by omega) (by omega), w3 _ _ (by omega), w2 _ _ (by omega), w1 _ _ (by omega)]
    match ho : zfn nm tn np (t + 1) with
    | none =>
      rw [ho, if_pos (show zfi none = -1 from rfl)] at x
      rw [if_neg (show ¬ (none : Option Nat).isSome = true by simp)]
      exact go m1 LF zFr_r L1 x
    | some j =>
      have n1 : ¬ zfi (some j) = -1 := fun z => by have := zfi_none z (fun k e => by have := Option.some.inj e; have := bo j ho; omega); exact absurd this (by simp)
      obtain ⟨m2, e2, f2, L2⟩ := c_lat (d := 8) (f := 3) L1 a1.2.1 (by omega)
      have e2 : R_X4_failLater 8 3 m1 = some m2 := e2
      rw [ho, if_neg n1, e2, Option.bind_some] at x
      rw [if_pos (show (some j).isSome = true by simp)]
      exact go m2 _ f2 L2 x
  · obtain ⟨m4, e4, f4, a4⟩ := c_exA (d := 8) (k := 2) (A := .inr (t + 1)) t1 a1 (by omega) (by omega)
    have e4 : R_X4_expect 8 2 m1 = some m4 := e4
    have ze : zex kd 2 (.inr (t + 1)) = .inl (1, t + 1) := if_neg c
    obtain ⟨m5, e5, f5, a5, _⟩ := c_ints (d := 8) hp 4 0 m4 _ LF (by omega) (zTok_22 t1 (zFx25 f4)) a4 (fun t' z => by rw [ze] at z; exact absurd z (by simp))
    have e5 : H_X4_readPerson_97 8 (nI np) 0 m4 = some m5 := e5
    rw [if_pos (show ¬ mz_rd m1 22 3 = 2 from zAl_ne t1 a1 (k := 2) (by omega) c), e4, Option.bind_some, e5] at x
    exact ⟨m5, x, zFc_t (zFc_22 (zFx25 f1)) (zFc_t (zFc_22 (zFx25 f4)) (zFc_m f5 (fun a i z => by omega))), a5, fun z => absurd z c⟩
/-- a suit, up to the ; -/
theorem c_suit {t np ns : Nat} {tn : Nat → Nat} {LF : Nat × Nat} {m : MzM} (hm : ∀ t, kd t = 2 → nm t < 2 ^ 63) (h : zTok kd vl nm pl m) (a : zAl kd m t) (k0 : kd t ≠ 0) (h4 : mz_rd m 13 4 = nI np) (hp : np ≤ 6) (h5 : mz_rd m 13 5 = nI ns) (hs : ns < 8) (hn : ∀ k, k < np → mz_rl m 14 k = lN (nm (tn k)) ∧ kd (tn k) = 2) (hl : zLFc m LF) : ∃ m', R_X4_readSuit 8 m = some m' ∧ zFc m m' ∧ zAD kd m' (zex kd 3 (zex kd 3 (zex kd 2 (zex kd 2 (.inr (t + 1)))))) ∧ (∀ a i, a ≠ 22 → a ≠ 16 → ¬ (a = 13 ∧ i = 5) → mz_rd m' a i = mz_rd m a i) ∧ m'.2 = m.2 ∧ mz_rd m' 13 5 = nI (ns + 1) ∧ (∀ i, i < 4 * ns → mz_rd m' 16 i = mz_rd m 16 i) ∧ (kd (t + 1) = 2 → kd (t + 2) = 2 → kd (t + 3) = 3 → kd (t + 4) = 3 → mz_rd m' 16 (4 * ns) = zfi (zfn nm tn np (t + 1)) ∧ mz_rd m' 16 (4 * ns + 1) = zfi (zfn nm tn np (t + 2)) ∧ mz_rd m' 16 (4 * ns + 2) = nI (vl (t + 3)) ∧ mz_rd m' 16 (4 * ns + 3) = nI (vl (t + 4)) ∧ zLFc m' (zli vl 0 29 (t + 4) (zli vl 1 30 (t + 3) (zln (zfn nm tn np (t + 2)) (zfn nm tn np (t + 1)) (t + 2) (zln (zfn nm tn np (t + 1)) none (t + 1) LF))))) := by
  obtain ⟨m1, e1, f1, a1⟩ := c_take22 h a k0
  have t1 := zTok_22 h (zFx25 f1)
  have w1 : ∀ a i, a ≠ 22 → mz_rd m1 a i = mz_rd m a i := fun a i z => f1.1 a i (by omega)
  have x := R_X4_readSuit_eq 8 m
  rw [h5, if_pos (show nI ns < 8 from nI_lt (b := 8) hs (by omega)), e1, Option.bind_some, (w1 13 5 (by omega)).trans h5, nI_1] at x
  obtain ⟨m2, hm2⟩ : ∃ q : MzM, q = mz_wr m1 13 5 (nI (ns + 1)) := ⟨_, rfl⟩
  rw [← hm2] at x
  have F2 : zFr (fun a i => a = 13 ∧ i = 5) m1 m2 := by rw [hm2]; exact zFr_w ⟨rfl, rfl⟩
  have t2 : zTok kd vl nm pl m2 := zTok_f t1 F2 (fun a i z => by omega)
  have a2 : zAD kd m2 (.inr (t + 1)) := zAD_f (A := .inr (t + 1)) a1 F2 (fun a i z => by omega)
  have L2 : zLFc m2 LF := by
    have L1 := zLFc_f hl f1
    exact ⟨(F2.1 _ _ (by omega)).trans L1.1, L1.2.1, fun z => (F2.1 _ _ (by omega)).trans (L1.2.2 z)⟩
  have n2 : ∀ k, k < np → mz_rl m2 14 k = lN (nm (tn k)) ∧ kd (tn k) = 2 := fun k hk => by
    refine ⟨?_, (hn k hk).2⟩
    unfold mz_rl
    rw [F2.2, f1.2]
    exact (hn k hk).1
  have h42 : mz_rd m2 13 4 = nI np := by rw [F2.1 13 4 (by omega), w1 _ _ (by omega)]; exact h4
  obtain ⟨v3, m3, e3, f3, a3, d3, p3⟩ := c_name (d := 8) (np := np) (tn := tn) (LF := LF) none (fun k z => absurd z (by simp)) t2 a2 (fun _ _ => L2) hm h42 hp n2
  have e3 : R_X4_readName 8 (-1) m2 = some (v3, m3) := e3
  have t3 := zTok_22 t2 f3
  have n3 : ∀ k, k < np → mz_rl m3 14 k = lN (nm (tn k)) ∧ kd (tn k) = 2 := fun k hk => by
    refine ⟨?_, (hn k hk).2⟩
    unfold mz_rl
    rw [f3.2]
    exact (n2 k hk).1
  have h43 : mz_rd m3 13 4 = nI np := (f3.1 _ _ (by omega)).trans h42
  obtain ⟨tk, htk, htk2⟩ : ∃ tk : Option Nat, v3 = zfi tk ∧ (kd (t + 1) = 2 → tk = zfn nm tn np (t + 1)) ∧ ∀ k, tk = some k → k < 6 := by
    by_cases c : kd (t + 1) = 2
    · exact ⟨zfn nm tn np (t + 1), (p3 _ rfl c).1, fun _ => rfl, fun k z => by have := zfn_lt z; omega⟩
    · exact ⟨none, d3 (fun t' z => by have : t + 1 = t' := Sum.inr.inj z; rw [← this]; exact c), fun z => absurd z c, fun k z => absurd z (by simp)⟩
  obtain ⟨v4, m4, e4, f4, a4, _, p4⟩ := c_name (d := 8) (np := np) (tn := tn) (LF := zln (zfn nm tn np (t + 1)) none (t + 1) LF) tk htk2.2 t3 a3 (fun s z => by
    obtain ⟨r, q1, q2, _⟩ := zex_r z
    have : t + 1 = r := Sum.inr.inj q1
    exact (p3 (t + 1) rfl (by rw [this]; exact q2)).2) hm h43 hp n3
  rw [← htk] at e4
  have t4 := zTok_22 t3 f4
  obtain ⟨v5, m5, e5, f5, a5, p5⟩ := c_int (d := 8) (lo := 1) (hi := 30) (LF := zln (zfn nm tn np (t + 2)) (zfn nm tn np (t + 1)) (t + 2) (zln (zfn nm tn np (t + 1)) none (t + 1) LF)) t4 a4 (fun s z => by
    obtain ⟨r, q1, q2, _⟩ := zex_r z
    obtain ⟨r', q1', q2', q3'⟩ := zex_r q1
    have : t + 1 = r' := Sum.inr.inj q1'
    subst this
    have q := (p4 r q1 q2).2
    rw [q3', htk2.1 q2'] at q
    exact q) (by omega) (by omega)
  have e5 : R_X4_readInt 8 1 30 m4 = some (v5, m5) := e5
  have t5 := zTok_22 t4 f5
  obtain ⟨v6, m6, e6, f6, a6, p6⟩ := c_int (d := 8) (lo := 0) (hi := 29) (LF := zli vl 1 30 (t + 3) (zln (zfn nm tn np (t + 2)) (zfn nm tn np (t + 1)) (t + 2) (zln (zfn nm tn np (t + 1)) none (t + 1) LF))) t5 a5 (fun s z => by
    obtain ⟨r, q1, q2, _⟩ := zex_r z
    obtain ⟨r', q1', q2', q3'⟩ := zex_r q1
    obtain ⟨r'', q1'', q2'', q3''⟩ := zex_r q1'
    have : t + 1 = r'' := Sum.inr.inj q1''
    have q := (p5 r q1 q2).2
    rw [show r = t + 3 by omega] at q
    exact q) (by omega) (by omega)
  have e6 : R_X4_readInt 8 0 29 m5 = some (v6, m6) := e6
  have t13 : mz_isT 13 = true := by decide +kernel
  have t4e : nI ns * 4 = nI (4 * ns) := by
    rw [show nI ns * 4 = nI (ns * 4) from pk_mul ns 4, Nat.mul_comm]
  rw [e3, Option.bind_some] at x
  dsimp only at x
  rw [e4, Option.bind_some] at x
  dsimp only at x
  rw [e5, Option.bind_some] at x
  dsimp only at x
  rw [e6, Option.bind_some] at x
  dsimp only at x
  rw [R_X8_setSuit_eq 8 13 _ _ _ _ _ m6 t13, t4e, show nI (4 * ns) + 0 = nI (4 * ns + 0) from nI_add _ 0, show nI (4 * ns) + 1 = nI (4 * ns + 1) from nI_add _ 1, show nI (4 * ns) + 2 = nI (4 * ns + 2) from nI_add _ 2, show nI (4 * ns) + 3 = nI (4 * ns + 3) from nI_add _ 3, n_ok (by omega), n_gd (by omega), n_ok (by omega), n_gd (by omega), n_ok (by omega), n_gd (by omega), n_ok (by omega), n_gd (by omega), nI_clamp (by omega), nI_clamp (by omega), nI_clamp (by omega), nI_clamp (by omega), Option.bind_some, Nat.add_zero] at x
  obtain ⟨m7, hm7⟩ : ∃ q : MzM, q = mz_wr (mz_wr (mz_wr (mz_wr m6 16 (4 * ns) v3) 16 (4 * ns + 1) v4) 16 (4 * ns + 2) v5) 16 (4 * ns + 3) v6 := ⟨_, rfl⟩
  have x : R_X4_readSuit 8 m = some m7 := by rw [hm7]; exact x
  have F7 : zFr (fun a i => a = 16 ∧ 4 * ns ≤ i) m6 m7 := by
    rw [hm7]
    exact zFr_w2 (zFr_w2 (zFr_w2 (zFr_w ⟨rfl, by omega⟩) ⟨rfl, by omega⟩) ⟨rfl, by omega⟩) ⟨rfl, by omega⟩
  have w6 : ∀ a i, a ≠ 22 → mz_rd m6 a i = mz_rd m2 a i := fun a i z => by rw [f6.1 a i (by omega), f5.1 a i (by omega), f4.1 a i (by omega), f3.1 a i (by omega)]
  refine ⟨m7, x, zFc_t (zFc_22 (zFx25 f1)) (zFc_t (zFc_m F2 (fun a i z => by omega)) (zFc_t (zFc_22 f3) (zFc_t (zFc_22 f4) (zFc_t (zFc_22 f5) (zFc_t (zFc_22 f6) (zFc_m F7 (fun a i z => by omega))))))), zAD_f a6 F7 (fun a i z => by omega), fun a i z1 z2 z3 => ?_, ?_, ?_, fun i hi => ?_, fun k1 k2 k3 k4 => ?_⟩
  · rw [F7.1 a i (by omega), w6 a i z1, F2.1 a i z3, w1 a i z1]
  · rw [F7.2, f6.2, f5.2, f4.2, f3.2, F2.2, f1.2]
  · rw [F7.1 13 5 (by omega), w6 _ _ (by omega), hm2, m_eq]
  · rw [F7.1 16 i (by omega), w6 _ _ (by omega), F2.1 _ _ (by omega), w1 _ _ (by omega)]
  · have z1 : zex kd 2 (.inr (t + 1)) = .inr (t + 2) := if_pos k1
    have z2 : zex kd 2 (.inr (t + 2)) = .inr (t + 3) := if_pos k2
    have z3 : zex kd 3 (.inr (t + 3)) = .inr (t + 4) := if_pos k3
    rw [z1] at p4
    rw [z1, z2] at p5
    rw [z1, z2, z3] at p6
    have q3 := p3 (t + 1) rfl k1
    have q4 := p4 (t + 2) rfl k2
    have q5 := p5 (t + 3) rfl k3
    have q6 := p6 (t + 4) rfl k4
    refine ⟨?_, ?_, ?_, ?_, ?_⟩
    · rw [hm7, m_ni (by omega), m_ni (by omega), m_ni (by omega), m_eq]; exact q3.1
    · rw [hm7, m_ni (by omega), m_ni (by omega), m_eq]; exact q4.1
    · rw [hm7, m_ni (by omega), m_eq]; exact q5.1
    · rw [hm7, m_eq]; exact q6.1
    · have L := q6.2
      exact ⟨(F7.1 _ _ (by omega)).trans L.1, L.2.1, fun z => (F7.1 _ _ (by omega)).trans (L.2.2 z)⟩
end ZCtell2
