/-! what is told, one after the other: the reference, all of it -/
def zRWu (sd : Nat) (x : MzM) (cc bb o k : Nat) (ts : List (ZP × ZP × ZP)) (last : ZP) : Prop := (ts = [] ∧ last = zdf0 k ∧ mz_rd x 258 o = mz_rd x 259 o) ∨ ∃ a, mz_rd x 258 o = nI a ∧ mz_rd x 259 o = nI (a + ts.length + 1) ∧ 130 * sd ≤ a ∧ a + ts.length + 1 ≤ bb ∧ zRb sd x cc a ts last
def zClr (sd : Nat) (x : MzM) (cc bb np ns : Nat) (D : ZDt) : Prop := mz_rd x 255 sd = nI D.2.2.2.2.2.2 ∧ mz_rd x 256 sd = nI D.2.2.2.1 ∧ mz_rd x 257 sd = nI D.2.2.2.2.1 ∧ (∀ k, k < 4 * np → mz_rd x 249 (24 * sd + k) = nI (D.2.2.2.2.2.1 k)) ∧ (∀ i, i < ns → mz_rd x 251 (8 * sd + i) = nI (D.1 i 0) ∧ mz_rd x 252 (8 * sd + i) = nI (D.1 i 1) ∧ mz_rd x 253 (8 * sd + i) = nI (D.1 i 2) ∧ mz_rd x 254 (8 * sd + i) = nI (D.1 i 3)) ∧ ∀ k, k < 4 → zRWu sd x cc bb (4 * sd + k) k (D.2.1 k) (D.2.2.1 k)
def zXr (kd nr pl : Nat → Nat) (sd : Nat) (x : MzM) (t : Nat) (S : ZX) : Prop := zNmR kd nr sd S.1 S.2.2.1 x ∧ mz_rd x 250 sd = nI S.2.1 ∧ zLFr pl x S.2.2.2.1 ∧ ∃ b c, mz_rd x 239 33 = nI (130 * sd + b) ∧ 4 * b ≤ t ∧ mz_rd x 239 39 = nI (420 * sd + c) ∧ c ≤ t ∧ (S.2.2.2.1.1 = 0 → zClr sd x (420 * sd + c) (130 * sd + b) S.1 S.2.1 S.2.2.2.2)
/-- what the reference may touch while it reads -/
def zRTe (sd a i : Nat) : Prop := (a = 239 ∧ (i = 11 ∨ i = 12 ∨ i = 13 ∨ i = 14 ∨ i = 15 ∨ i = 16 ∨ i = 33 ∨ i = 39 ∨ i = 43)) ∨ ((a = 248 ∨ a = 250 ∨ a = 255 ∨ a = 256 ∨ a = 257) ∧ i = sd) ∨ a = 249 ∨ (251 ≤ a ∧ a ≤ 254 ∧ 8 * sd ≤ i ∧ i < 8 * sd + 8) ∨ ((a = 258 ∨ a = 259) ∧ 4 * sd ≤ i ∧ i < 4 * sd + 4) ∨ (260 ≤ a ∧ a ≤ 264 ∧ 130 * sd ≤ i ∧ i < 130 * sd + 130) ∨ (265 ≤ a ∧ a ≤ 266 ∧ 420 * sd ≤ i ∧ i < 420 * sd + 420) ∨ a = 267
def zFR (sd : Nat) (x x' : MzM) : Prop := (∀ a i, ¬ zRTe sd a i → mz_rd x' a i = mz_rd x a i) ∧ ∀ a, a ≠ 247 → x'.2 a = x.2 a
theorem zRWu_f {sd cc cc' bb bb' o k : Nat} {x x' : MzM} {ts : List (ZP × ZP × ZP)} {last : ZP} (h : zRWu sd x cc bb o k ts last) (l : cc ≤ cc') (l2 : bb ≤ bb') (g1 : mz_rd x' 258 o = mz_rd x 258 o) (g2 : mz_rd x' 259 o = mz_rd x 259 o) (g3 : ∀ i, i < cc → mz_rd x' 265 i = mz_rd x 265 i ∧ mz_rd x' 266 i = mz_rd x 266 i) (g4 : ∀ a i, 260 ≤ a → a ≤ 264 → i < bb → mz_rd x' a i = mz_rd x a i) : zRWu sd x' cc' bb' o k ts last := by
  rcases h with ⟨h1, h2, h3⟩ | ⟨a, h1, h2, h3, h4, h5⟩
  · exact Or.inl ⟨h1, h2, by rw [g1, g2]; exact h3⟩
  · exact Or.inr ⟨a, g1.trans h1, g2.trans h2, h3, by omega, zRb_f h5 l g3 (fun a i p q r s => g4 a i p q (by omega))⟩
section ZRrun
variable {kd vl nm nr pl : Nat → Nat} {N sd d : Nat}
theorem zFR_r {x : MzM} : zFR sd x x := ⟨fun _ _ _ => rfl, fun _ _ => rfl⟩
theorem zFR_t {x x1 x2 : MzM} (h : zFR sd x x1) (g : zFR sd x1 x2) : zFR sd x x2 := ⟨fun a i z => (g.1 a i z).trans (h.1 a i z), fun a z => (g.2 a z).trans (h.2 a z)⟩
theorem zFR_m {x x' : MzM} {F : Nat → Nat → Prop} (f : zFr F x x') (hF : ∀ a i, F a i → zRTe sd a i) : zFR sd x x' := ⟨fun a i z => f.1 a i (fun w => z (hF a i w)), fun a _ => by rw [f.2]⟩
theorem zTkR_R {x x' : MzM} (h : zTkR kd vl nr pl N x) (f : zFR sd x x') : zTkR kd vl nr pl N x' := by
  obtain ⟨h1, h2, h3, h4, h5⟩ := h
  have g : ∀ a i, 242 ≤ a → a ≤ 245 → mz_rd x' a i = mz_rd x a i := fun a i p q => f.1 a i (by unfold zRTe; omega)
  have e : ∀ i, mz_rl x' 245 i = mz_rl x 245 i := fun i => by unfold mz_rl; rw [f.2 245 (by omega)]
  refine ⟨h1, h2, h3, h4, fun i hi => ?_⟩
  obtain ⟨a, b, c, q⟩ := h5 i hi
  exact ⟨(g _ _ (by omega) (by omega)).trans a, (g _ _ (by omega) (by omega)).trans b, fun z => (g _ _ (by omega) (by omega)).trans (c z), fun z => (e i).trans (q z)⟩
theorem zFR_5 {x x' : MzM} (f : zFr zF5 x x') : zFR sd x x' := zFR_m f (fun a i z => by unfold zF5 at z; unfold zRTe; omega)
theorem r_pers {x : MzM} {np t : Nat} {tn : Nat → Nat} {LF : Nat × Nat} (hs : sd < 2) (hpm : zPM pl N) (hN : ∀ i j, kd i = 2 → kd j = 2 → (nm i = nm j ↔ nr i = nr j)) (hr : ∀ i, kd i = 2 → nr i < 2 ^ 63) (hp : np < 6) (tk : zTkR kd vl nr pl N x) (s : zRst pl N x (.inr t)) (t4 : t ≤ 400) (hL : zLFr pl x LF) (ok : zLok kd t LF) (hnm : zNmR kd nr sd np tn x) : ∃ x', R_X12_tellPerson d x = some x' ∧ zFR sd x x' ∧ zRst pl N x' (zn (zex kd 4 (zit kd 4 (zex kd 2 (.inr t))))) ∧ ∀ t', zn (zex kd 4 (zit kd 4 (zex kd 2 (.inr t)))) = .inr t' → (∀ a i, a ≠ 239 → a ≠ 249 → ¬ (a = 248 ∧ i = sd) → mz_rd x' a i = mz_rd x a i) ∧ (∀ i, ¬ zF5 239 i → mz_rd x' 239 i = mz_rd x 239 i) ∧ mz_rd x' 248 sd = nI (np + 1) ∧ (∀ k, k < np → mz_rl x' 247 k = mz_rl x 247 k) ∧ mz_rl x' 247 np = lN (nr t) ∧ (∀ i, i < 4 * np → mz_rd x' 249 (24 * sd + i) = mz_rd x 249 (24 * sd + i)) ∧ (∀ i, i < 4 → mz_rd x' 249 (24 * sd + 4 * np + i) = nI (vl (t + 1 + i))) ∧ zLFr pl x' (zlfs vl 0 99 4 (t + 1) (if (zfn nm tn np t).isSome = true then zlt1 3 t LF else LF)) := by
  have sz : zRst pl N x (zn (.inr t)) := by rw [zn_r t4]; exact s
  have tN := s.2.2.1
  have lNN := tk.2.1
  have e := R_X12_tellPerson_eq d x
  obtain ⟨x1, e1, f1, s1⟩ := r_mustA (d := d) (k := 2) (y := 1) tk sz rfl (by omega) (by omega)
  have tk1 := zTkR_3 tk f1
  rw [e1, Option.bind_some, s.2.1] at e
  have hnm1 : zNmR kd nr sd np tn x1 := zNmR_f hnm f1 ⟨by unfold zF3; omega, by unfold zF3; omega⟩
  have fin : ∀ (x2 : MzM) (LF2 : Nat × Nat), zFr (fun a i => a = 239 ∧ (i = 15 ∨ i = 16)) x1 x2 → R_X12_tellPerson d x = H_X12_tellPerson_33 d (nI t) 0 x2 → (∀ t', zn (zex kd 2 (.inr t)) = .inr t' → zLFr pl x2 LF2 ∧ zLok kd t' LF2 ∧ LF2 = (if (zfn nm tn np t).isSome = true then zlt1 3 t LF else LF)) → ∃ x', R_X12_tellPerson d x = some x' ∧ zFR sd x x' ∧ zRst pl N x' (zn (zex kd 4 (zit kd 4 (zex kd 2 (.inr t))))) ∧ ∀ t', zn (zex kd 4 (zit kd 4 (zex kd 2 (.inr t)))) = .inr t' → (∀ a i, a ≠ 239 → a ≠ 249 → ¬ (a = 248 ∧ i = sd) → mz_rd x' a i = mz_rd x a i) ∧ (∀ i, ¬ zF5 239 i → mz_rd x' 239 i = mz_rd x 239 i) ∧ mz_rd x' 248 sd = nI (np + 1) ∧ (∀ k, k < np → mz_rl x' 247 k = mz_rl x 247 k) ∧ mz_rl x' 247 np = lN (nr t) ∧ (∀ i, i < 4 * np → mz_rd x' 249 (24 * sd + i) = mz_rd x 249 (24 * sd + i)) ∧ (∀ i, i < 4 → mz_rd x' 249 (24 * sd + 4 * np + i) = nI (vl (t + 1 + i))) ∧ zLFr pl x' (zlfs vl 0 99 4 (t + 1) (if (zfn nm tn np t).isSome = true then zlt1 3 t LF else LF)) := by
    intro x2 LF2 f2 y h2
    have tk2 := zTkR_5 tk1 (zF56 f2)
    have hnm2 := zNmR_f hnm1 f2 ⟨by omega, by omega⟩
    obtain ⟨x3, e3, f3, s3, p3⟩ := r_ints (d := d) (y := nI t) hs hpm hp 4 0 x2 (zex kd 2 (.inr t)) LF2 (by omega) tk2 (zRst_56 s1 f2) (fun t' z => ⟨(h2 t' z).1, (h2 t' z).2.1⟩) hnm2.1 hnm2.2.1
    have e3 : H_X12_tellPerson_33 d (nI t) 0 x2 = zPe d (nI t) x3 := e3
    have tk3 : zTkR kd vl nr pl N x3 := zTkR_f tk2 f3 (fun a i z => by unfold zF5 at z; omega)
    obtain ⟨x4, e4, f4, s4⟩ := r_mustA (d := d) (k := 4) (y := 4) tk3 s3 rfl (by omega) (by omega)
    have G4 : zFR sd x x4 := zFR_t (zFR_5 (zF3_5 f1)) (zFR_t (zFR_5 (zF56 f2)) (zFR_t (zFR_m f3 (fun a i z => by unfold zF5 at z; unfold zRTe; omega)) (zFR_5 (zF3_5 f4))))
    have y := y.trans e3
    unfold zPe at y
    rw [e4, Option.bind_some] at y
    rcases zn_cs (zex kd 4 (zit kd 4 (zex kd 2 (.inr t)))) with ⟨q, h⟩ | ⟨t', h, l, hq⟩
    · rw [h] at s4 ⊢
      rw [s4.1, if_neg (r_fd s4.2.2).2.1] at y
      exact ⟨x4, y, G4, s4, fun t z => absurd z (by simp)⟩
    · obtain ⟨t5, q1, q2, q3⟩ := zex_r h
      have a5 : zn (zit kd 4 (zex kd 2 (.inr t))) = .inr t5 := by rw [q1]; exact zn_r (by omega)
      obtain ⟨t1, r1, r2, r3, r4⟩ := p3 t5 a5
      obtain ⟨t0, u1, u2, u3⟩ := zex_r r1
      have : t = t0 := Sum.inr.inj u1
      subst this
      subst u3
      have a1 : zn (zex kd 2 (.inr t)) = .inr (t + 1) := by rw [r1]; exact zn_r (by omega)
      rw [hq] at s4 ⊢
      have w4 : ∀ a i, a ≠ 239 → a ≠ 249 → mz_rd x4 a i = mz_rd x a i := fun a i p q => by
        rw [f4.1 a i (by unfold zF3; omega), f3.1 a i (by unfold zF5; omega), f2.1 a i (by omega), f1.1 a i (by unfold zF3; omega)]
      have v4 : ∀ i, ¬ zF5 239 i → mz_rd x4 239 i = mz_rd x 239 i := fun i z => by
        rw [f4.1 239 i (by unfold zF5 at z; unfold zF3; omega), f3.1 239 i (by unfold zF5 at z ⊢; omega), f2.1 239 i (by unfold zF5 at z; omega), f1.1 239 i (by unfold zF5 at z; unfold zF3; omega)]
      have l4 : ∀ a i, mz_rl x4 a i = mz_rl x a i := fun a i => by unfold mz_rl; rw [f4.2, f3.2, f2.2, f1.2]
      have z19 : mz_rd x4 239 19 = nI sd := (v4 19 (by unfold zF5; omega)).trans hnm.1
      have z48 : mz_rd x4 248 sd = nI np := (w4 _ _ (by omega) (by omega)).trans hnm.2.1
      have z45 : mz_rl x4 245 t = lN (nr t) := (l4 _ _).trans ((tk.2.2.2.2 t tN).2.2.2 u2)
      rw [s4.1, if_pos (show (0 : Int32) ≤ 0 by decide), z19, n_ok (by omega), n_gd (by omega), n_ok (show t < 2 ^ 31 by omega), n_gd (by omega), nI_clamp (show sd < 2 ^ 31 by omega), z48, n_ok (show np < 2 ^ 31 by omega), n_gd (by omega), m_rwl, z19, n_ok (show sd < 2 ^ 31 by omega), n_gd (by omega), n_gd (by omega), nI_clamp (show np < 2 ^ 31 by omega), nI_clamp (show t < 2 ^ 31 by omega), nI_clamp (show sd < 2 ^ 31 by omega), z45, m_rwl, z48, nI_1] at y
      obtain ⟨x5, hx⟩ : ∃ q : MzM, q = mz_wr (mz_wl x4 247 np (lN (nr t))) 248 sd (nI (np + 1)) := ⟨_, rfl⟩
      rw [← hx] at y
      have w5 : ∀ a i, ¬ (a = 248 ∧ i = sd) → mz_rd x5 a i = mz_rd x4 a i := fun a i z => by rw [hx, m_rw, if_neg z, m_rwl]
      have F5 : zFR sd x4 x5 := ⟨fun a i z => w5 a i (fun w => z (by unfold zRTe; omega)), fun b z => by
        rw [hx]
        show (fun i' => if b = 247 ∧ i' = np then lN (nr t) else x4.2 b i') = x4.2 b
        funext i
        rw [if_neg (fun w => z w.1)]⟩
      refine ⟨x5, y, zFR_t G4 F5, ?_, fun t'' z => ⟨fun a i p q r => ?_, fun i z => ?_, ?_, fun k hk => ?_, ?_, fun i hi => ?_, fun i hi => ?_, ?_⟩⟩
      · exact ⟨(w5 _ _ (by omega)).trans s4.1, (w5 _ _ (by omega)).trans s4.2.1, s4.2.2.1, (w5 _ _ (by omega)).trans s4.2.2.2⟩
      · rw [w5 a i r]; exact w4 a i p q
      · rw [w5 _ _ (by omega)]; exact v4 i z
      · rw [hx, m_eq]
      · rw [hx, m_lw, m_lwl, if_neg (by omega)]; exact l4 _ _
      · rw [hx, m_lw, m_lwl, if_pos ⟨rfl, rfl⟩]
      · rw [w5 _ _ (by omega), f4.1 _ _ (by unfold zF3; omega), f3.1 _ _ (by unfold zF5; omega), f2.1 _ _ (by omega), f1.1 _ _ (by unfold zF3; omega)]
      · rw [w5 _ _ (by omega), f4.1 _ _ (by unfold zF3; omega)]
        have := r3 i hi
        rw [Nat.add_zero] at this
        exact this
      · rw [(h2 _ a1).2.2] at r4
        have L := zLFr_3 r4 f4
        exact ⟨(w5 _ _ (by omega)).trans L.1, L.2.1, fun w => (w5 _ _ (by omega)).trans (L.2.2 w)⟩
  rcases zn_cs (zex kd 2 (.inr t)) with ⟨q, h⟩ | ⟨t', h, l, hq⟩
  · rw [h] at s1
    rw [s1.1, if_pos (r_fd s1.2.2).1] at e
    exact fin x1 LF zFr_r e (fun t' z => by rw [h] at z; exact absurd z (by simp))
  · obtain ⟨t0, u1, u2, u3⟩ := zex_r h
    have : t = t0 := Sum.inr.inj u1
    subst this
    subst u3
    rw [hq] at s1
    have nb := r_number (d := d) hs hN hr tk1 tN u2 hnm1 (by omega)
    rw [if_neg (fun z => z s1.1), nb, Option.bind_some] at e
    dsimp only at e
    have L1 := zLFr_3 hL f1
    have tt : ∀ t', zn (zex kd 2 (.inr t)) = .inr t' → t' = t + 1 := fun t' z => by
      rw [hq] at z
      exact (Sum.inr.inj z).symm
    obtain ⟨o, ho⟩ : ∃ o, zfn nm tn np t = o := ⟨_, rfl⟩
    cases o with
    | none =>
      rw [ho, if_pos (show zfi none < 0 by decide)] at e
      exact fin x1 LF zFr_r e (fun t' z => ⟨L1, zLok_s ok (by rw [tt t' z]; omega), by rw [ho]; rfl⟩)
    | some j =>
      have jb := zfn_lt ho
      obtain ⟨x2, e2, f2, L2⟩ := r_wrong (d := d) (f := 3) hpm tk1 s1.1 tN L1 ok (by omega)
      have e2 : R_X12_wrong d 3 (nI t) x1 = some x2 := e2
      rw [ho, if_neg (show ¬ zfi (some j) < 0 from nI_pos (by omega)), e2, Option.bind_some] at e
      exact fin x2 _ f2 e (fun t' z => ⟨L2, by rw [tt t' z]; exact zlt1_ok ok (by omega) (by omega), by rw [ho]; rfl⟩)
end ZRrun
