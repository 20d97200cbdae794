/-! what is told, one after the other: the reference, persons and suits -/
noncomputable def zSct (d : Nat) (K : Int32) (x : MzM) : Option MzM := (R_X12_bounded d 1 30 x).bind (fun u13 => mz_g (mz_ok K 16) ((R_X12_bounded d 0 29 (mz_wr u13.2 253 (K : Int32).toNatClampNeg u13.1)).bind (fun u17 => mz_g (mz_ok K 16) ((R_X12_must d 4 (mz_wr u17.2 254 (K : Int32).toNatClampNeg u17.1)).bind (fun m19 => if ¬ (mz_rd m19 239 13) = 0 then some m19 else (mz_g (mz_ok (mz_rd m19 239 19) 2) (mz_g (mz_ok (mz_rd m19 239 19) 2) (some (mz_wr m19 250 ((mz_rd m19 239 19) : Int32).toNatClampNeg ((mz_rd m19 250 ((mz_rd m19 239 19) : Int32).toNatClampNeg) + 1))))))))))
theorem zln_ne {b : Nat} {tk : Option Nat} {t : Nat} {LF : Nat × Nat} (h : tk ≠ some b) : zln (some b) tk t LF = LF := if_neg h
section ZRtell2
variable {kd vl nm nr pl : Nat → Nat} {N sd d : Nat}
theorem r_sct {x : MzM} {ns : Nat} {A : ZA} {LF : Nat × Nat} (hs : sd < 2) (hpm : zPM pl N) (hn : ns < 8) (tk : zTkR kd vl nr pl N x) (s : zRst pl N x (zn A)) (hl : ∀ t, zn A = .inr t → zLFr pl x LF ∧ zLok kd t LF) (h19 : mz_rd x 239 19 = nI sd) (h50 : mz_rd x 250 sd = nI ns) : ∃ x', zSct d (nI (8 * sd + ns)) x = some x' ∧ zFr (fun a i => zF5 a i ∨ ((a = 253 ∨ a = 254) ∧ i = 8 * sd + ns) ∨ (a = 250 ∧ i = sd)) x x' ∧ zRst pl N x' (zn (zex kd 4 (zex kd 3 (zex kd 3 A)))) ∧ ∀ t', zn (zex kd 4 (zex kd 3 (zex kd 3 A))) = .inr t' → ∃ t, A = .inr t ∧ t' = t + 3 ∧ mz_rd x' 250 sd = nI (ns + 1) ∧ mz_rd x' 253 (8 * sd + ns) = nI (vl t) ∧ mz_rd x' 254 (8 * sd + ns) = nI (vl (t + 1)) ∧ zLFr pl x' (zli vl 0 29 (t + 1) (zli vl 1 30 t LF)) := by
  obtain ⟨v1, x1, e1, f1, s1, p1⟩ := r_int (d := d) (lo := 1) (hi := 30) hpm tk s hl (by omega) (by omega)
  have e1 : R_X12_bounded d 1 30 x = some (v1, x1) := e1
  obtain ⟨x2, hx2⟩ : ∃ q : MzM, q = mz_wr x1 253 (8 * sd + ns) v1 := ⟨_, rfl⟩
  have F2 : zFr (fun a i => a = 253 ∧ i = 8 * sd + ns) x1 x2 := by rw [hx2]; exact zFr_w ⟨rfl, rfl⟩
  have tk2 : zTkR kd vl nr pl N x2 := zTkR_f (zTkR_5 tk f1) F2 (fun a i z => by omega)
  have s2 := zRst_0 s1 F2 (fun a i z => by omega)
  have al : ∀ (B : ZA) (k t' : Nat), zn (zex kd k B) = .inr t' → ∃ t, B = .inr t ∧ kd t = k ∧ t' = t + 1 ∧ t' ≤ 400 := fun B k t' z => by
    obtain ⟨h1, h2⟩ := zn_ir z
    obtain ⟨t, q1, q2, q3⟩ := zex_r h1
    exact ⟨t, q1, q2, q3, h2⟩
  obtain ⟨v3, x3, e3, f3, s3, p3⟩ := r_int (d := d) (lo := 0) (hi := 29) (LF := match A with | .inr t => zli vl 1 30 t LF | .inl _ => LF) hpm tk2 s2 (fun t' z => by
    obtain ⟨t, q1, q2, q3, q4⟩ := al A 3 t' z
    subst q1
    subst q3
    have L := (p1 t z).2
    have ok := (hl t (zn_r (by omega))).2
    exact ⟨⟨(F2.1 _ _ (by omega)).trans L.1, L.2.1, fun w => (F2.1 _ _ (by omega)).trans (L.2.2 w)⟩, zli_ok ok (by omega)⟩) (by omega) (by omega)
  have e3 : R_X12_bounded d 0 29 x2 = some (v3, x3) := e3
  obtain ⟨x4, hx4⟩ : ∃ q : MzM, q = mz_wr x3 254 (8 * sd + ns) v3 := ⟨_, rfl⟩
  have F4 : zFr (fun a i => a = 254 ∧ i = 8 * sd + ns) x3 x4 := by rw [hx4]; exact zFr_w ⟨rfl, rfl⟩
  have tk4 : zTkR kd vl nr pl N x4 := zTkR_f (zTkR_5 tk2 f3) F4 (fun a i z => by omega)
  have s4 := zRst_0 s3 F4 (fun a i z => by omega)
  obtain ⟨x5, e5, f5, s5⟩ := r_mustA (d := d) (k := 4) (y := 4) tk4 s4 rfl (by omega) (by omega)
  have G5 : zFr (fun a i => zF5 a i ∨ ((a = 253 ∨ a = 254) ∧ i = 8 * sd + ns) ∨ (a = 250 ∧ i = sd)) x x5 := zFr_t (zFr_m f1 (fun a i z => Or.inl z)) (zFr_t (zFr_m F2 (fun a i z => Or.inr (by omega))) (zFr_t (zFr_m f3 (fun a i z => Or.inl z)) (zFr_t (zFr_m F4 (fun a i z => Or.inr (by omega))) (zFr_m (zF3_5 f5) (fun a i z => Or.inl z)))))
  have w5 : ∀ a i, a ≠ 239 → a ≠ 253 → a ≠ 254 → mz_rd x5 a i = mz_rd x a i := fun a i p q r => by
    rw [f5.1 a i (by unfold zF3; omega), F4.1 a i (by omega), f3.1 a i (by unfold zF5; omega), F2.1 a i (by omega), f1.1 a i (by unfold zF5; omega)]
  have z19 : mz_rd x5 239 19 = nI sd := by
    rw [f5.1 _ _ (by unfold zF3; omega), F4.1 _ _ (by omega), f3.1 _ _ (by unfold zF5; omega), F2.1 _ _ (by omega), f1.1 _ _ (by unfold zF5; omega)]
    exact h19
  have z50 : mz_rd x5 250 sd = nI ns := (w5 _ _ (by omega) (by omega) (by omega)).trans h50
  have e : zSct d (nI (8 * sd + ns)) x = if ¬ (mz_rd x5 239 13) = 0 then some x5 else (mz_g (mz_ok (mz_rd x5 239 19) 2) (mz_g (mz_ok (mz_rd x5 239 19) 2) (some (mz_wr x5 250 ((mz_rd x5 239 19) : Int32).toNatClampNeg ((mz_rd x5 250 ((mz_rd x5 239 19) : Int32).toNatClampNeg) + 1))))) := by
    unfold zSct
    rw [e1, Option.bind_some]
    dsimp only
    rw [n_ok (by omega), n_gd (by omega), nI_clamp (by omega), ← hx2, e3, Option.bind_some]
    dsimp only
    rw [n_gd (by omega), ← hx4, e5, Option.bind_some]
  rcases zn_cs (zex kd 4 (zex kd 3 (zex kd 3 A))) with ⟨q, h⟩ | ⟨t', h, l, hq⟩
  · rw [h] at s5 ⊢
    rw [s5.1, if_pos (r_fd s5.2.2).1] at e
    exact ⟨x5, e, G5, s5, fun t z => absurd z (by simp)⟩
  · obtain ⟨t2, q1, q2, q3⟩ := zex_r h
    obtain ⟨t1, r1, r2, r3⟩ := zex_r q1
    obtain ⟨t, o1, o2, o3⟩ := zex_r r1
    subst o1
    subst o3
    subst r3
    subst q3
    rw [hq] at s5 ⊢
    have a1 : zn (zex kd 3 (.inr t)) = .inr (t + 1) := by rw [r1]; exact zn_r (by omega)
    have a3 : zn (zex kd 3 (zex kd 3 (.inr t))) = .inr (t + 1 + 1) := by rw [q1]; exact zn_r (by omega)
    rw [if_neg (fun z => z s5.1), z19, n_ok (by omega), n_gd (by omega), n_gd (by omega), nI_clamp (by omega), z50, nI_1] at e
    have k1 := p1 t a1
    have k3 := p3 (t + 1) a3
    refine ⟨_, e, zFr_w2 G5 (Or.inr (Or.inr ⟨rfl, rfl⟩)), zRst_0 (F := fun a i => a = 250) (A := .inr (t + 1 + 1 + 1)) s5 (zFr_w rfl) (fun a i z => by omega), fun t' z => ⟨t, rfl, ?_, m_eq, ?_, ?_, ?_⟩⟩
    · have : t + 1 + 1 + 1 = t' := Sum.inr.inj z
      omega
    · rw [m_ne (by omega), f5.1 _ _ (by unfold zF3; omega), F4.1 _ _ (by omega), f3.1 _ _ (by unfold zF5; omega), hx2, m_eq]
      exact k1.1
    · rw [m_ne (by omega), f5.1 _ _ (by unfold zF3; omega), hx4, m_eq]
      exact k3.1
    · have L := k3.2
      have L4 : zLFr pl x4 (zli vl 0 29 (t + 1) (zli vl 1 30 t LF)) := ⟨(F4.1 _ _ (by omega)).trans L.1, L.2.1, fun w => (F4.1 _ _ (by omega)).trans (L.2.2 w)⟩
      have L5 := zLFr_3 L4 f5
      exact ⟨(m_ne (by omega)).trans L5.1, L5.2.1, fun w => (m_ne (by omega)).trans (L5.2.2 w)⟩
theorem r_suit {x : MzM} {np ns t : Nat} {tn : Nat → Nat} {LF : Nat × Nat} (hs : sd < 2) (hpm : zPM pl N) (hN : ∀ i j, kd i = 2 → kd j = 2 → (nm i = nm j ↔ nr i = nr j)) (hr : ∀ i, kd i = 2 → nr i < 2 ^ 63) (hn : ns < 8) (hp : np ≤ 6) (tk : zTkR kd vl nr pl N x) (s : zRst pl N x (.inr t)) (t4 : t ≤ 400) (hL : zLFr pl x LF) (ok : zLok kd t LF) (hnm : zNmR kd nr sd np tn x) (h50 : mz_rd x 250 sd = nI ns) : ∃ x', R_X12_tellSuit d x = some x' ∧ zFr (fun a i => zF5 a i ∨ (251 ≤ a ∧ a ≤ 254 ∧ i = 8 * sd + ns) ∨ (a = 250 ∧ i = sd)) x x' ∧ zRst pl N x' (zn (zex kd 4 (zex kd 3 (zex kd 3 (zex kd 2 (zex kd 2 (.inr t))))))) ∧ ∀ t', zn (zex kd 4 (zex kd 3 (zex kd 3 (zex kd 2 (zex kd 2 (.inr t)))))) = .inr t' → mz_rd x' 250 sd = nI (ns + 1) ∧ mz_rd x' 251 (8 * sd + ns) = zfi (zfn nm tn np t) ∧ mz_rd x' 252 (8 * sd + ns) = zfi (zfn nm tn np (t + 1)) ∧ mz_rd x' 253 (8 * sd + ns) = nI (vl (t + 2)) ∧ mz_rd x' 254 (8 * sd + ns) = nI (vl (t + 3)) ∧ zLFr pl x' (zli vl 0 29 (t + 3) (zli vl 1 30 (t + 2) (zln (zfn nm tn np (t + 1)) (zfn nm tn np t) (t + 1) (zln (zfn nm tn np t) none t LF)))) := by
  have sz : zRst pl N x (zn (.inr t)) := by rw [zn_r t4]; exact s
  have al : ∀ (B : ZA) (k t' : Nat), zn (zex kd k B) = .inr t' → ∃ t, B = .inr t ∧ kd t = k ∧ t' = t + 1 ∧ t' ≤ 400 := fun B k t' z => by
    obtain ⟨h1, h2⟩ := zn_ir z
    obtain ⟨t, q1, q2, q3⟩ := zex_r h1
    exact ⟨t, q1, q2, q3, h2⟩
  obtain ⟨v1, x1, e1, f1, s1, p1⟩ := r_name (d := d) (LF := LF) hs hpm hN hr tk sz (fun t' z => by
    have : t = t' := Sum.inr.inj (zn_ir z).1
    rw [← this]
    exact ⟨hL, ok⟩) hnm hp
  obtain ⟨x2, hx2⟩ : ∃ q : MzM, q = mz_wr x1 251 (8 * sd + ns) v1 := ⟨_, rfl⟩
  have F2 : zFr (fun a i => a = 251 ∧ i = 8 * sd + ns) x1 x2 := by rw [hx2]; exact zFr_w ⟨rfl, rfl⟩
  have tk2 : zTkR kd vl nr pl N x2 := zTkR_f (zTkR_5 tk f1) F2 (fun a i z => by omega)
  have s2 := zRst_0 s1 F2 (fun a i z => by omega)
  have hnm2 : zNmR kd nr sd np tn x2 := zNmR_f (zNmR_f hnm f1 ⟨by unfold zF5; omega, by unfold zF5; omega⟩) F2 ⟨by omega, by omega⟩
  have hl2 : ∀ t', zn (zex kd 2 (.inr t)) = .inr t' → zLFr pl x2 (zln (zfn nm tn np t) none t LF) ∧ zLok kd t' (zln (zfn nm tn np t) none t LF) := fun t' z => by
    obtain ⟨t0, q1, q2, q3, q4⟩ := al _ _ t' z
    have : t = t0 := Sum.inr.inj q1
    subst this
    subst q3
    have L := (p1 t z).2
    exact ⟨⟨(F2.1 _ _ (by omega)).trans L.1, L.2.1, fun w => (F2.1 _ _ (by omega)).trans (L.2.2 w)⟩, zln_ok ok (by omega)⟩
  obtain ⟨v3, x3, e3, f3, s3, p3⟩ := r_name (d := d) (LF := zln (zfn nm tn np t) none t LF) hs hpm hN hr tk2 s2 hl2 hnm2 hp
  obtain ⟨x4, hx4⟩ : ∃ q : MzM, q = mz_wr x3 252 (8 * sd + ns) v3 := ⟨_, rfl⟩
  have F4 : zFr (fun a i => a = 252 ∧ i = 8 * sd + ns) x3 x4 := by rw [hx4]; exact zFr_w ⟨rfl, rfl⟩
  have tk4 : zTkR kd vl nr pl N x4 := zTkR_f (zTkR_5 tk2 f3) F4 (fun a i z => by omega)
  have s4 := zRst_0 s3 F4 (fun a i z => by omega)
  have h19 := hnm.1
  obtain ⟨K, hK⟩ : ∃ K : Int32, K = ((8 : Int32) * (mz_rd x 239 19)) + (mz_rd x 250 ((mz_rd x 239 19) : Int32).toNatClampNeg) := ⟨_, rfl⟩
  have K1 : K = nI (8 * sd + ns) := by
    rw [hK, h19, nI_clamp (by omega), h50, show (8 : Int32) * nI sd = nI (8 * sd) from pk_mul 8 sd, nI_add]
  have e := R_X12_tellSuit_eq d x
  rw [← hK] at e
  have Kok : mz_ok K 16 = true := by rw [K1, n_ok (by omega)]; exact decide_eq_true (by omega)
  have Kc : (K : Int32).toNatClampNeg = 8 * sd + ns := by rw [K1, nI_clamp (by omega)]
  have o2 : mz_ok (mz_rd x 239 19) 2 = true := by rw [h19, n_ok (by omega)]; exact decide_eq_true (by omega)
  have fin : ∀ (x5 : MzM) (LF5 : Nat × Nat), zFr (fun a i => a = 239 ∧ (i = 15 ∨ i = 16)) x4 x5 → R_X12_tellSuit d x = zSct d K x5 → (∀ t', zn (zex kd 2 (zex kd 2 (.inr t))) = .inr t' → zLFr pl x5 LF5 ∧ zLok kd t' LF5 ∧ LF5 = zln (zfn nm tn np (t + 1)) (zfn nm tn np t) (t + 1) (zln (zfn nm tn np t) none t LF)) → ∃ x', R_X12_tellSuit d x = some x' ∧ zFr (fun a i => zF5 a i ∨ (251 ≤ a ∧ a ≤ 254 ∧ i = 8 * sd + ns) ∨ (a = 250 ∧ i = sd)) x x' ∧ zRst pl N x' (zn (zex kd 4 (zex kd 3 (zex kd 3 (zex kd 2 (zex kd 2 (.inr t))))))) ∧ ∀ t', zn (zex kd 4 (zex kd 3 (zex kd 3 (zex kd 2 (zex kd 2 (.inr t)))))) = .inr t' → mz_rd x' 250 sd = nI (ns + 1) ∧ mz_rd x' 251 (8 * sd + ns) = zfi (zfn nm tn np t) ∧ mz_rd x' 252 (8 * sd + ns) = zfi (zfn nm tn np (t + 1)) ∧ mz_rd x' 253 (8 * sd + ns) = nI (vl (t + 2)) ∧ mz_rd x' 254 (8 * sd + ns) = nI (vl (t + 3)) ∧ zLFr pl x' (zli vl 0 29 (t + 3) (zli vl 1 30 (t + 2) (zln (zfn nm tn np (t + 1)) (zfn nm tn np t) (t + 1) (zln (zfn nm tn np t) none t LF)))) := by
    intro x5 LF5 f5 y h5
    have k5 : ∀ a i, a ≠ 239 → mz_rd x5 a i = mz_rd x4 a i := fun a i z => f5.1 a i (by omega)
    obtain ⟨x6, e6, f6, s6, p6⟩ := r_sct (d := d) (LF := LF5) hs hpm hn (zTkR_5 tk4 (zF56 f5)) (zRst_56 s4 f5) (fun t' z => ⟨(h5 t' z).1, (h5 t' z).2.1⟩) (by rw [f5.1 _ _ (by omega), F4.1 _ _ (by omega), f3.1 _ _ (by unfold zF5; omega), F2.1 _ _ (by omega), f1.1 _ _ (by unfold zF5; omega)]; exact h19) (by rw [f5.1 _ _ (by omega), F4.1 _ _ (by omega), f3.1 _ _ (by unfold zF5; omega), F2.1 _ _ (by omega), f1.1 _ _ (by unfold zF5; omega)]; exact h50)
    rw [K1] at y
    refine ⟨x6, y.trans e6, zFr_t (zFr_m f1 (fun a i z => Or.inl z)) (zFr_t (zFr_m F2 (fun a i z => Or.inr (Or.inl (by omega)))) (zFr_t (zFr_m f3 (fun a i z => Or.inl z)) (zFr_t (zFr_m F4 (fun a i z => Or.inr (Or.inl (by omega)))) (zFr_t (zFr_m (zF56 f5) (fun a i z => Or.inl z)) (zFr_m f6 (fun a i z => by
      rcases z with z | z | z
      · exact Or.inl z
      · exact Or.inr (Or.inl (by omega))
      · exact Or.inr (Or.inr z))))))), s6, fun t' z => ?_⟩
    obtain ⟨t2, q1, q2, q3, q4, q5, q6⟩ := p6 t' z
    obtain ⟨t1, r1, r2, r3⟩ := zex_r q1
    obtain ⟨t0, u1, u2, u3⟩ := zex_r r1
    have : t = t0 := Sum.inr.inj u1
    subst this
    subst u3
    subst r3
    have l4 := (zn_ir z).2
    have z1 : zn (zex kd 2 (.inr t)) = .inr (t + 1) := by rw [r1]; exact zn_r (by omega)
    have z2 : zn (zex kd 2 (zex kd 2 (.inr t))) = .inr (t + 1 + 1) := by rw [q1]; exact zn_r (by omega)
    have k1 := p1 t z1
    have k3 := p3 (t + 1) z2
    refine ⟨q3, ?_, ?_, q4, q5, ?_⟩
    · rw [f6.1 _ _ (by unfold zF5; omega), k5 _ _ (by omega), F4.1 _ _ (by omega), f3.1 _ _ (by unfold zF5; omega), hx2, m_eq]; exact k1.1
    · rw [f6.1 _ _ (by unfold zF5; omega), k5 _ _ (by omega), hx4, m_eq]; exact k3.1
    · rw [(h5 _ z2).2.2] at q6
      exact q6
  have e0 : R_X12_tellSuit d x = _ := e
  rw [o2, n_g, e1, Option.bind_some] at e
  dsimp only at e
  rw [Kok, n_g, Kc, ← hx2, e3, Option.bind_some] at e
  dsimp only at e
  rw [n_g, ← hx4] at e
  rcases zn_cs (zex kd 2 (zex kd 2 (.inr t))) with ⟨q, h⟩ | ⟨t', h, l, hq⟩
  · rw [h] at s4
    rw [s4.1, if_pos (r_fd s4.2.2).1] at e
    refine fin x4 LF zFr_r ?_ (fun t' z => by rw [h] at z; exact absurd z (by simp))
    rw [e]
    unfold zSct
    rw [Kok, Kc]
  · obtain ⟨t1, r1, r2, r3⟩ := zex_r h
    obtain ⟨t0, u1, u2, u3⟩ := zex_r r1
    have : t = t0 := Sum.inr.inj u1
    subst this
    subst u3
    subst r3
    have z1 : zn (zex kd 2 (.inr t)) = .inr (t + 1) := by rw [r1]; exact zn_r (by omega)
    have k1 := p1 t z1
    have k3 := p3 (t + 1) hq
    rw [hq] at s4
    have L4 : zLFr pl x4 (zln (zfn nm tn np (t + 1)) none (t + 1) (zln (zfn nm tn np t) none t LF)) := by
      have L := k3.2
      exact ⟨(F4.1 _ _ (by omega)).trans L.1, L.2.1, fun w => (F4.1 _ _ (by omega)).trans (L.2.2 w)⟩
    have ok2 : zLok kd (t + 1) (zln (zfn nm tn np t) none t LF) := zln_ok ok (by omega)
    have tt : ∀ t', zn (zex kd 2 (zex kd 2 (.inr t))) = .inr t' → t' = t + 1 + 1 := fun t' z => by
      rw [hq] at z
      exact (Sum.inr.inj z).symm
    have c1 : mz_rd x4 251 (8 * sd + ns) = zfi (zfn nm tn np t) := by rw [F4.1 _ _ (by omega), f3.1 _ _ (by unfold zF5; omega), hx2, m_eq]; exact k1.1
    have c2 : mz_rd x4 252 (8 * sd + ns) = zfi (zfn nm tn np (t + 1)) := by rw [hx4, m_eq]; exact k3.1
    rw [if_neg (fun z => z s4.1), n_g, c1] at e
    obtain ⟨o1, ho1⟩ : ∃ o, zfn nm tn np t = o := ⟨_, rfl⟩
    cases o1 with
    | none =>
      rw [ho1, if_pos (show zfi none < 0 by decide)] at e
      refine fin x4 (zln (zfn nm tn np (t + 1)) none (t + 1) (zln (zfn nm tn np t) none t LF)) zFr_r ?_ (fun t' z => ⟨L4, by rw [tt t' z]; exact zln_ok ok2 (by omega), by rw [ho1]⟩)
      rw [e]
      unfold zSct
      rw [Kok, Kc]
    | some a =>
      have ab := zfn_lt ho1
      rw [ho1, if_neg (show ¬ zfi (some a) < 0 from nI_pos (by omega)), n_g, n_g, c2] at e
      by_cases c3 : zfn nm tn np (t + 1) = some a
      · rw [c3, if_neg (fun z => z rfl)] at e
        have w11 : mz_rd x2 239 11 = nI (t + 1) := by
          rw [z1] at s2
          exact s2.2.1
        have t1N : t + 1 < N := by
          rw [z1] at s2
          exact s2.2.2.1
        rw [w11] at e
        obtain ⟨x5, e5, f5, L5⟩ := r_wrong (d := d) (f := 3) hpm tk4 s4.1 t1N L4 (by rw [c3]; exact ok2) (by omega)
        have e5 : R_X12_wrong d 3 (nI (t + 1)) x4 = some x5 := e5
        rw [e5, Option.bind_some] at e
        refine fin x5 _ f5 ?_ (fun t' z => ⟨L5, by rw [tt t' z]; rw [c3]; exact zlt1_ok ok2 (by omega) (by omega), ?_⟩)
        · rw [e]
          unfold zSct
          rw [Kok, Kc]
        · rw [ho1, c3]
          show zlt1 3 (t + 1) _ = if some a = some a then _ else _
          rw [if_pos rfl]
          rfl
      · have nq : ¬ zfi (some a) = zfi (zfn nm tn np (t + 1)) := fun z => by
          match ho2 : zfn nm tn np (t + 1) with
          | none =>
            rw [ho2] at z
            have z : nI a = -1 := z
            exact absurd (show nI a < 0 by rw [z]; decide) (nI_pos (by omega))
          | some b =>
            rw [ho2] at z
            have := zfn_lt ho2
            exact c3 (by rw [ho2, (nI_eq (a := a) (b := b) (by omega) (by omega)).mp z])
        rw [if_pos nq] at e
        refine fin x4 (zln (zfn nm tn np (t + 1)) none (t + 1) (zln (zfn nm tn np t) none t LF)) zFr_r ?_ (fun t' z => ⟨L4, by rw [tt t' z]; exact zln_ok ok2 (by omega), ?_⟩)
        · rw [e]
          unfold zSct
          rw [Kok, Kc]
        · rw [ho1]
          match ho2 : zfn nm tn np (t + 1) with
          | none => rfl
          | some b =>
            exact (zln_ne (by simp)).trans (zln_ne (fun z => c3 (by rw [ho2, Option.some.inj z]))).symm
end ZRtell2
