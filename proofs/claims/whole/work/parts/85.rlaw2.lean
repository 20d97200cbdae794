/-! a law, read by the reference: the loop -/
theorem z_nb0 : vp_nar .boolean 0 = (0 : Int32) := by decide
theorem z_nb1 : vp_nar .boolean 1 = (1 : Int32) := by decide
def zLX (sd k b a i : Nat) : Prop := zXR sd a i ∨ (a = 239 ∧ i = 33) ∨ (260 ≤ a ∧ a ≤ 264 ∧ b ≤ i ∧ i < 130 * sd + 130) ∨ ((a = 258 ∨ a = 259) ∧ i = 4 * sd + k)
def zRPu (sd : Nat) (x : MzM) (c fr : Nat) (P : ZP) : Prop := 420 * sd ≤ fr ∧ fr + P.length ≤ c ∧ (∀ i q, P[i]? = some q → mz_rd x 265 (fr + i) = nI q.1 ∧ (q.1 ≤ 1 → mz_rd x 266 (fr + i) = nI q.2)) ∧ zcs 0 P 1
def zRb (sd : Nat) (x : MzM) (c b : Nat) (ts : List (ZP × ZP × ZP)) (last : ZP) : Prop := (∀ j q, ts[j]? = some q → mz_rd x 260 (b + j) = 1 ∧ ∃ s, mz_rd x 261 (b + j) = nI s ∧ mz_rd x 262 (b + j) = nI (s + q.1.length) ∧ mz_rd x 263 (b + j) = nI (s + q.1.length + q.2.1.length) ∧ mz_rd x 264 (b + j) = nI (s + q.1.length + q.2.1.length + q.2.2.length) ∧ zRPu sd x c s q.1 ∧ zRPu sd x c (s + q.1.length) q.2.1 ∧ zRPu sd x c (s + q.1.length + q.2.1.length) q.2.2) ∧ mz_rd x 260 (b + ts.length) = 0 ∧ ∃ s, mz_rd x 263 (b + ts.length) = nI s ∧ mz_rd x 264 (b + ts.length) = nI (s + last.length) ∧ zRPu sd x c s last
noncomputable def zLend (d : Nat) (y1 y2 : Int32) (x : MzM) : Option MzM := mz_g (mz_ok (mz_rd x 239 33) 260) ((R_X12_term d (mz_wr x 260 ((mz_rd x 239 33) : Int32).toNatClampNeg (vp_nar .boolean 0))).bind (fun m6 => (R_X12_must d 4 m6).bind (fun m9 => if (mz_rd m9 239 13) ≤ 0 then (mz_g (mz_ok (((4 : Int32) * (mz_rd m9 239 19)) + y1) 8) (mz_g (mz_ok (((4 : Int32) * (mz_rd (mz_wr m9 258 ((((4 : Int32) * (mz_rd m9 239 19)) + y1) : Int32).toNatClampNeg y2) 239 19)) + y1) 8) (some (mz_wr (mz_wr m9 258 ((((4 : Int32) * (mz_rd m9 239 19)) + y1) : Int32).toNatClampNeg y2) 259 ((((4 : Int32) * (mz_rd (mz_wr m9 258 ((((4 : Int32) * (mz_rd m9 239 19)) + y1) : Int32).toNatClampNeg y2) 239 19)) + y1) : Int32).toNatClampNeg (mz_rd (mz_wr m9 258 ((((4 : Int32) * (mz_rd m9 239 19)) + y1) : Int32).toNatClampNeg y2) 239 33))))) else some m9)))
theorem zRPu_f {sd c c' fr : Nat} {x x' : MzM} {P : ZP} (h : zRPu sd x c fr P) (l : c ≤ c') (g : ∀ i, i < c → mz_rd x' 265 i = mz_rd x 265 i ∧ mz_rd x' 266 i = mz_rd x 266 i) : zRPu sd x' c' fr P := by
  obtain ⟨h1, h2, h3, h4⟩ := h
  refine ⟨h1, by omega, fun i q hi => ?_, h4⟩
  have li : i < P.length := (List.getElem?_eq_some_iff.mp hi).1
  have k := h3 i q hi
  have w := g (fr + i) (by omega)
  exact ⟨w.1.trans k.1, fun z => w.2.trans (k.2 z)⟩
theorem zRb_f {sd c c' b : Nat} {x x' : MzM} {ts : List (ZP × ZP × ZP)} {last : ZP} (h : zRb sd x c b ts last) (l : c ≤ c') (g : ∀ i, i < c → mz_rd x' 265 i = mz_rd x 265 i ∧ mz_rd x' 266 i = mz_rd x 266 i) (w : ∀ a i, 260 ≤ a → a ≤ 264 → b ≤ i → i ≤ b + ts.length → mz_rd x' a i = mz_rd x a i) : zRb sd x' c' b ts last := by
  obtain ⟨h1, h2, s, h3, h4, h5⟩ := h
  refine ⟨fun j q hj => ?_, (w _ _ (by omega) (by omega) (by omega) (by omega)).trans h2, s, (w _ _ (by omega) (by omega) (by omega) (by omega)).trans h3, (w _ _ (by omega) (by omega) (by omega) (by omega)).trans h4, zRPu_f h5 l g⟩
  have lj : j < ts.length := (List.getElem?_eq_some_iff.mp hj).1
  obtain ⟨k1, s, k2, k3, k4, k5, k6, k7, k8⟩ := h1 j q hj
  exact ⟨(w _ _ (by omega) (by omega) (by omega) (by omega)).trans k1, s, (w _ _ (by omega) (by omega) (by omega) (by omega)).trans k2, (w _ _ (by omega) (by omega) (by omega) (by omega)).trans k3, (w _ _ (by omega) (by omega) (by omega) (by omega)).trans k4, (w _ _ (by omega) (by omega) (by omega) (by omega)).trans k5, zRPu_f k6 l g, zRPu_f k7 l g, zRPu_f k8 l g⟩
section ZRlaw2
variable {kd vl nr pl : Nat → Nat} {N sd d : Nat}
theorem zSu_cs (hv : ∀ i, vl i < 10000) {A : ZA} {t : Nat} {P : ZP} (g : zSu kd vl P A (.inr t)) : zcs 0 P 1 := by
  match A, g with
  | .inl e, g =>
    have g : (.inr t : ZA) = .inl e := g
    exact absurd g (by simp)
  | .inr s, g =>
    rcases g with ⟨e, _, q⟩ | ⟨t2, g', q⟩
    · exact absurd q (by simp)
    · exact zG_s hv g'
theorem zCA_u {x x' : MzM} {c : Nat} {P : ZP} (h : zCA x x' c P) (l : 420 * sd ≤ c) (z : zcs 0 P 1) : zRPu sd x' (c + P.length) c P := ⟨l, Nat.le_refl _, h.1, z⟩
theorem zRst_0 {x x' : MzM} {A : ZA} {F : Nat → Nat → Prop} (s : zRst pl N x A) (f : zFr F x x') (hF : ∀ a i, F a i → a ≠ 239) : zRst pl N x' A := zRst_f s f (fun i z => absurd rfl (hF 239 i z))
theorem r_llE (hk : ∀ i, 402 ≤ i → kd i = 0) (hs : sd < 2) {x : MzM} {k c b a0 : Nat} {A A1 : ZA} {P : ZP} (tk : zTkR kd vl nr pl N x) (s : zRst pl N x (zn A)) (hb : mz_rd x 239 33 = nI b) (hb0 : 130 * sd ≤ b) (hb2 : b < 130 * sd + 130) (h19 : mz_rd x 239 19 = nI sd) (k4 : k < 4) (hc : ∀ t, zn A = .inr t → mz_rd x 239 39 = nI c ∧ 420 * sd ≤ c ∧ c ≤ 420 * sd + t) (g : zSu kd vl P A A1) : ∃ x', zLend d (nI k) (nI a0) x = some x' ∧ zFr (zLX sd k b) x x' ∧ zRst pl N x' (zn (zex kd 4 A1)) ∧ ∀ t, zn (zex kd 4 A1) = .inr t → mz_rd x' 239 39 = nI (c + P.length) ∧ zCA x x' c P ∧ c + P.length ≤ 420 * sd + t ∧ mz_rd x' 258 (4 * sd + k) = nI a0 ∧ mz_rd x' 259 (4 * sd + k) = nI (b + 1) ∧ mz_rd x' 239 33 = nI (b + 1) ∧ mz_rd x' 260 b = 0 ∧ mz_rd x' 263 b = nI c ∧ mz_rd x' 264 b = nI (c + P.length) := by
  obtain ⟨x1, hx⟩ : ∃ q : MzM, q = mz_wr x 260 b 0 := ⟨_, rfl⟩
  have k1 : ∀ a i, a ≠ 260 → mz_rd x1 a i = mz_rd x a i := fun a i z => by rw [hx, m_ne z]
  have F1 : zFr (fun a i => a = 260 ∧ i = b) x x1 := by rw [hx]; exact zFr_w ⟨rfl, rfl⟩
  have tk1 : zTkR kd vl nr pl N x1 := zTkR_f tk F1 (fun a i z => by omega)
  obtain ⟨x2, e2, f2, s2, b2, p2⟩ := r_termA (d := d) (b := b) hk hs tk1 (zRst_0 s F1 (fun a i z => by omega)) ((k1 _ _ (by omega)).trans hb) (by omega) (fun t z => ⟨(k1 _ _ (by omega)).trans (hc t z).1, (hc t z).2⟩) g
  have tk2 : zTkR kd vl nr pl N x2 := zTkR_f tk1 f2 (fun a i z => by unfold zTF zXR at z; omega)
  obtain ⟨x3, e3, f3, s3⟩ := r_mustA (d := d) (k := 4) (y := 4) tk2 s2 rfl (by omega) (by omega)
  have G3 : zFr (zLX sd k b) x x3 := zFr_t (zFr_m F1 (fun a i z => by unfold zLX; omega)) (zFr_t (zFr_m f2 (fun a i z => by unfold zTF zXR at z; unfold zLX zXR; omega)) (zFr_m f3 (fun a i z => by unfold zF3 at z; unfold zLX zXR; omega)))
  have e : zLend d (nI k) (nI a0) x = _ := rfl
  unfold zLend at e
  rw [hb, n_ok (by omega), n_gd (by omega), nI_clamp (by omega), z_nb0, ← hx, e2, Option.bind_some, e3, Option.bind_some] at e
  rcases zn_cs (zex kd 4 A1) with ⟨q, h⟩ | ⟨t, h, l, hq⟩
  · rw [h] at s3 ⊢
    rw [s3.1, if_neg (r_fd s3.2.2).2.1] at e
    refine ⟨x3, ?_, G3, s3, fun t z => absurd z (by simp)⟩
    unfold zLend
    rw [hb, n_ok (by omega), n_gd (by omega), nI_clamp (by omega), z_nb0, ← hx, e2, Option.bind_some, e3, Option.bind_some, s3.1, if_neg (r_fd s3.2.2).2.1]
  · have z19 : mz_rd x3 239 19 = nI sd := by
      rw [f3.1 239 19 (by unfold zF3; omega), f2.1 239 19 (by unfold zTF zXR; omega), k1 _ _ (by omega)]
      exact h19
    have ix : (4 : Int32) * nI sd + nI k = nI (4 * sd + k) := by
      rw [show (4 : Int32) * nI sd = nI (4 * sd) from pk_mul 4 sd, nI_add]
    rw [hq] at s3 ⊢
    obtain ⟨t1, h1, _, tt⟩ := zex_r h
    have al1 : zn A1 = .inr t1 := by rw [h1]; exact zn_r (by omega)
    obtain ⟨q1, q2, q3, q4, q5⟩ := p2 t1 al1
    obtain ⟨x4, hx4⟩ : ∃ q : MzM, q = mz_wr (mz_wr x3 258 (4 * sd + k) (nI a0)) 259 (4 * sd + k) (nI (b + 1)) := ⟨_, rfl⟩
    have w3 : ∀ a i, a ≠ 239 → mz_rd x3 a i = mz_rd x2 a i := fun a i z => f3.1 a i (by unfold zF3; omega)
    have w4 : ∀ a i, a ≠ 258 → a ≠ 259 → mz_rd x4 a i = mz_rd x3 a i := fun a i z1 z2 => by rw [hx4, m_ne z2, m_ne z1]
    have b3 : mz_rd x3 239 33 = nI (b + 1) := (f3.1 239 33 (by unfold zF3; omega)).trans b2
    refine ⟨x4, ?_, ?_, ?_, fun t' z => ?_⟩
    · unfold zLend
      rw [hb, n_ok (by omega), n_gd (by omega), nI_clamp (by omega), z_nb0, ← hx, e2, Option.bind_some, e3, Option.bind_some, s3.1, if_pos (show (0 : Int32) ≤ 0 by decide), z19, ix, n_ok (by omega), n_gd (by omega), nI_clamp (by omega), m_ne (show 239 ≠ 258 by omega), z19, ix, n_ok (by omega), n_gd (by omega), nI_clamp (by omega), m_ne (show 239 ≠ 258 by omega), b3, hx4]
    · rw [hx4]
      exact zFr_w2 (zFr_w2 G3 (by unfold zLX; omega)) (by unfold zLX; omega)
    · exact zRst_0 (F := fun a i => a = 258 ∨ a = 259) s3 (by rw [hx4]; exact zFr_w2 (zFr_w (Or.inl rfl)) (Or.inr rfl)) (fun a i z => by omega)
    · have : t = t' := Sum.inr.inj z
      subst this
      refine ⟨?_, zCA_pre (x1 := x1) (fun a i w => k1 a i (by omega)) (zCA_post q2 (fun a i w => by rw [w4 _ _ (by omega) (by omega), w3 _ _ (by omega)])), by omega, ?_, ?_, ?_, ?_, ?_, ?_⟩
      · rw [w4 _ _ (by omega) (by omega), f3.1 239 39 (by unfold zF3; omega)]; exact q1
      · rw [hx4, m_ne (by omega), m_eq]
      · rw [hx4, m_eq]
      · rw [w4 _ _ (by omega) (by omega)]; exact b3
      · rw [w4 _ _ (by omega) (by omega), w3 _ _ (by omega), f2.1 260 b (by unfold zTF zXR; omega), hx, m_eq]
      · rw [w4 _ _ (by omega) (by omega), w3 _ _ (by omega)]; exact q4
      · rw [w4 _ _ (by omega) (by omega), w3 _ _ (by omega)]; exact q5
theorem z12_end {x : MzM} {y1 y2 y3 : Int32} {A : ZA} (tk : zTkR kd vl nr pl N x) (s : zRst pl N x (zn A)) (hi : ∀ t, zn A = .inr t → kd t ≠ 22) : H_X12_tellLaw_12 d y1 y2 y3 x = zLend d y1 y2 x := by
  rcases zn_cs A with ⟨q, h⟩ | ⟨t, h, l, hq⟩
  · rw [h] at s
    rw [H_X12_tellLaw_12_eq, s.1, if_pos (r_fd s.2.2).1]
    rfl
  · have ht := hi t hq
    rw [hq] at s
    rw [H_X12_tellLaw_12_eq, if_neg (fun z => z s.1), r_isF tk s.1 s.2.1 s.2.2.1 (y := 29) (k := 22) rfl (by omega) ht, Option.bind_some]
    dsimp only
    rw [if_pos rfl]
    rfl
/-- what is left behind a law -/
def zLp (sd k c a0 b : Nat) (x x' : MzM) (t : Nat) (ts : List (ZP × ZP × ZP)) (last : ZP) : Prop := ∃ c', mz_rd x' 239 39 = nI c' ∧ c ≤ c' ∧ c' ≤ 420 * sd + t ∧ mz_rd x' 239 33 = nI (b + ts.length + 1) ∧ mz_rd x' 258 (4 * sd + k) = nI a0 ∧ mz_rd x' 259 (4 * sd + k) = nI (b + ts.length + 1) ∧ zRb sd x' c' b ts last ∧ ∀ i, i < c → mz_rd x' 265 i = mz_rd x 265 i ∧ mz_rd x' 266 i = mz_rd x 266 i
theorem r_ll (hk : ∀ i, 402 ≤ i → kd i = 0) (hs : sd < 2) {k a0 : Nat} (k4 : k < 4) : ∀ (j : Nat) (A A' : ZA) (ts : List (ZP × ZP × ZP)) (last : ZP) (x : MzM) (b c : Nat), j ≤ 4 → zLl kd vl j A ts last A' → zTkR kd vl nr pl N x → zRst pl N x (zn A) → mz_rd x 239 33 = nI b → 130 * sd ≤ b → b + j + 1 ≤ 130 * sd + 130 → mz_rd x 239 19 = nI sd → (∀ t, zn A = .inr t → mz_rd x 239 39 = nI c ∧ 420 * sd ≤ c ∧ c ≤ 420 * sd + t) → ∃ x', H_X12_tellLaw_12 d (nI k) (nI a0) (nI (4 - j)) x = some x' ∧ zFr (zLX sd k b) x x' ∧ zRst pl N x' (zn A') ∧ ∀ t, zn A' = .inr t → zLp sd k c a0 b x x' t ts last := by
  have dead : ∀ (y : Int32) (A A' : ZA) (e : Nat × Nat) (ts : List (ZP × ZP × ZP)) (last : ZP) (x : MzM) (b c : Nat), zn A = .inl e → zn A' = .inl e → zTkR kd vl nr pl N x → zRst pl N x (zn A) → mz_rd x 239 33 = nI b → 130 * sd ≤ b → b < 130 * sd + 130 → mz_rd x 239 19 = nI sd → ∃ x', H_X12_tellLaw_12 d (nI k) (nI a0) y x = some x' ∧ zFr (zLX sd k b) x x' ∧ zRst pl N x' (zn A') ∧ ∀ t, zn A' = .inr t → zLp sd k c a0 b x x' t ts last := by
    intro y A A' e ts last x b c h h' tk s hb hb0 hb2 h19
    have s' : zRst pl N x (zn (zn A)) := by
      have : zn (zn A) = zn A := by
        rw [h]
        match A, h with
        | .inl q, h =>
          by_cases c : q.2 ≤ 400
          · rw [zn_l c] at h
            rw [← h]; exact zn_l c
          · have h2 : zn (.inl q) = .inl (2, 400) := if_neg c
            rw [h2] at h
            rw [← h]; rfl
        | .inr t, h =>
          have h2 : zn (.inr t) = .inl (2, 400) := zn_hi (by
            rcases Nat.lt_or_ge 400 t with q | q
            · exact q
            · rw [zn_r q] at h; exact absurd h (by simp))
          rw [h2] at h
          rw [← h]; rfl
      rw [this]; exact s
    have hd : zn (.inl e) = .inl e := by
      have : zn (zn A) = zn A := by
        rw [h]
        match A, h with
        | .inl q, h =>
          by_cases c : q.2 ≤ 400
          · rw [zn_l c] at h
            rw [← h]; exact zn_l c
          · have h2 : zn (.inl q) = .inl (2, 400) := if_neg c
            rw [h2] at h
            rw [← h]; rfl
        | .inr t, h =>
          have h2 : zn (.inr t) = .inl (2, 400) := zn_hi (by
            rcases Nat.lt_or_ge 400 t with q | q
            · exact q
            · rw [zn_r q] at h; exact absurd h (by simp))
          rw [h2] at h
          rw [← h]; rfl
      rw [h] at this
      exact this
    have se : zRst pl N x (zn (.inl e)) := by rw [hd, ← h]; exact s
    obtain ⟨x1, e1, f1, s1, _⟩ := r_llE (d := d) (k := k) (c := 0) (a0 := a0) (A := .inl e) (A1 := .inl e) (P := []) hk hs tk se hb hb0 hb2 h19 k4 (fun t z => by rw [hd] at z; exact absurd z (by simp)) rfl
    refine ⟨x1, ?_, f1, ?_, fun t z => by rw [h'] at z; exact absurd z (by simp)⟩
    · rw [z12_end tk se (fun t z => by rw [hd] at z; exact absurd z (by simp))]
      exact e1
    · rw [h', ← hd]; exact s1
  have fin : ∀ (y : Int32) (A A' : ZA) (ts : List (ZP × ZP × ZP)) (last : ZP) (x : MzM) (b c : Nat), (¬ zIf kd A ∧ ts = [] ∧ ∃ A1, zSu kd vl last A A1 ∧ A' = zex kd 4 A1) → zTkR kd vl nr pl N x → zRst pl N x (zn A) → mz_rd x 239 33 = nI b → 130 * sd ≤ b → b < 130 * sd + 130 → mz_rd x 239 19 = nI sd → (∀ t, zn A = .inr t → mz_rd x 239 39 = nI c ∧ 420 * sd ≤ c ∧ c ≤ 420 * sd + t) → ∃ x', H_X12_tellLaw_12 d (nI k) (nI a0) y x = some x' ∧ zFr (zLX sd k b) x x' ∧ zRst pl N x' (zn A') ∧ ∀ t, zn A' = .inr t → zLp sd k c a0 b x x' t ts last := by
    intro y A A' ts last x b c ⟨hi, e1, A1, g, e2⟩ tk s hb hb0 hb2 h19 hc
    subst e1
    subst e2
    obtain ⟨x1, e1, f1, s1, p1⟩ := r_llE (d := d) (k := k) (a0 := a0) hk hs tk s hb hb0 hb2 h19 k4 hc g
    refine ⟨x1, ?_, f1, s1, fun t z => ?_⟩
    · rw [z12_end tk s (fun t z => by have := (zn_ir z).1; rw [this] at hi; exact hi)]
      exact e1
    · obtain ⟨q1, q2, q3, q4, q5, q6, q7, q8, q9⟩ := p1 t z
      obtain ⟨t1, h1, _, tt⟩ := zex_r (zn_ir z).1
      have c0 : 420 * sd ≤ c := by
        rcases zn_cs A with ⟨q, h⟩ | ⟨t, h, l, hq⟩
        · rw [zn_ex (by omega) (zn_su g h)] at z; exact absurd z (by simp)
        · exact (hc t hq).2.1
      refine ⟨c + last.length, q1, by omega, q3, q6, q4, q5, ⟨fun j q hj => absurd (List.getElem?_eq_some_iff.mp hj).1 (by simp), q7, c, q8, q9, zCA_u q2 c0 (zSu_cs (fun i => (tk.1 i).2) (by rw [h1] at g; exact g))⟩, q2.2⟩
  intro j
  induction j with
  | zero =>
    intro A A' ts last x b c hj g tk s hb hb0 hb2 h19 hc
    rcases zn_cs A with ⟨q, h⟩ | ⟨t, h, l, hq⟩
    · exact dead _ A A' q ts last x b c h (zn_ll g h) tk s hb hb0 (by omega) h19
    · rcases g with g | ⟨s', es, ks, rfl⟩
      · exact fin _ A A' ts last x b c g tk s hb hb0 (by omega) h19 hc
      · rw [h] at es
        have : t = s' := Sum.inr.inj es
        subst this
        rw [hq] at s
        have e := H_X12_tellLaw_12_eq d (nI k) (nI a0) (nI (4 - 0)) x
        rw [if_neg (fun z => z s.1), r_isT tk s.1 s.2.1 s.2.2.1 (y := 29) (k := 22) rfl ks, Option.bind_some] at e
        dsimp only at e
        rw [if_neg (show ¬ (1 : Int32) = 0 by decide), if_neg (show ¬ ¬ nI (4 - 0) = 4 from fun z => z rfl), r_fl tk s.1 s.2.1 s.2.2.1, Option.bind_some, m_ni (show 13 ≠ 14 by omega), m_eq, if_neg (show ¬ (2 : Int32) ≤ 0 by decide)] at e
        refine ⟨_, e, zFr_w2 (zFr_w (by unfold zLX zXR; omega)) (by unfold zLX zXR; omega), ?_, fun t' z => by rw [zn_l (e := (2, t)) l] at z; exact absurd z (by simp)⟩
        rw [zn_l (e := (2, t)) l]
        exact ⟨by rw [m_ni (by omega), m_eq]; rfl, m_eq, Or.inr rfl⟩
  | succ j ih =>
    intro A A' ts last x b c hj g tk s hb hb0 hb2 h19 hc
    rcases zn_cs A with ⟨q, h⟩ | ⟨t, h, l, hq⟩
    · exact dead _ A A' q ts last x b c h (zn_ll g h) tk s hb hb0 (by omega) h19
    · rcases g with g | ⟨s', es, ks, P1, A1, P2, A2, P3, A3, ts', g1, g2, g3, g4, rfl⟩
      · exact fin _ A A' ts last x b c g tk s hb hb0 (by omega) h19 hc
      · rw [h] at es
        have : t = s' := Sum.inr.inj es
        subst this
        obtain ⟨hc1, hc2, hc3⟩ := hc t hq
        rw [hq] at s
        obtain ⟨x1, e1, f1, s1⟩ := r_goA (d := d) tk s (by omega)
        have tk1 := zTkR_3 tk f1
        have v1 : ∀ i, i ≠ 11 → i ≠ 13 → i ≠ 14 → mz_rd x1 239 i = mz_rd x 239 i := fun i p q r => f1.1 239 i (by unfold zF3; omega)
        have w1 : ∀ a i, a ≠ 239 → mz_rd x1 a i = mz_rd x a i := fun a i z => f1.1 a i (by unfold zF3; omega)
        have b1 : mz_rd x1 239 33 = nI b := (v1 _ (by omega) (by omega) (by omega)).trans hb
        have c1 : mz_rd x1 239 39 = nI c := (v1 _ (by omega) (by omega) (by omega)).trans hc1
        obtain ⟨x2, hx2⟩ : ∃ q : MzM, q = mz_wr (mz_wr x1 260 b 1) 261 b (nI c) := ⟨_, rfl⟩
        have F2 : zFr (fun a i => (a = 260 ∨ a = 261) ∧ i = b) x1 x2 := by rw [hx2]; exact zFr_w2 (zFr_w ⟨Or.inl rfl, rfl⟩) ⟨Or.inr rfl, rfl⟩
        have tk2 : zTkR kd vl nr pl N x2 := zTkR_f tk1 F2 (fun a i z => by omega)
        have s2 := zRst_0 s1 F2 (fun a i z => by omega)
        have w2 : ∀ a i, a ≠ 260 → a ≠ 261 → mz_rd x2 a i = mz_rd x1 a i := fun a i p q => F2.1 a i (by omega)
        obtain ⟨x3, e3, f3, s3, p3⟩ := r_sumA (d := d) (c := c) hk hs tk2 s2 (fun t' z => by
          have := (zn_ir z).1
          have : t + 1 = t' := Sum.inr.inj this
          exact ⟨(w2 _ _ (by omega) (by omega)).trans c1, hc2, by omega⟩) g1
        have tk3 := zTkR_x tk2 f3
        obtain ⟨x4, e4, f4, s4⟩ := r_mustA (d := d) (k := 10) (y := 13) tk3 s3 rfl (by omega) (by omega)
        have tk4 := zTkR_3 tk3 f4
        have b4 : mz_rd x4 239 33 = nI b := by rw [f4.1 239 33 (by unfold zF3; omega), f3.1 239 33 (by unfold zXR; omega), w2 _ _ (by omega) (by omega)]; exact b1
        obtain ⟨x5, hx5⟩ : ∃ q : MzM, q = mz_wr x4 262 b (mz_rd x4 239 39) := ⟨_, rfl⟩
        have F5 : zFr (fun a i => a = 262 ∧ i = b) x4 x5 := by rw [hx5]; exact zFr_w ⟨rfl, rfl⟩
        have tk5 : zTkR kd vl nr pl N x5 := zTkR_f tk4 F5 (fun a i z => by omega)
        have s5 := zRst_0 s4 F5 (fun a i z => by omega)
        have al4 : ∀ t', zn (zex kd 10 A1) = .inr t' → ∃ t1, zn A1 = .inr t1 ∧ t' = t1 + 1 := fun t' z => by
          obtain ⟨h1, h2⟩ := zn_ir z
          obtain ⟨t1, h3, _, h4⟩ := zex_r h1
          exact ⟨t1, by rw [h3]; exact zn_r (by omega), h4⟩
        have c4 : ∀ t', zn (zex kd 10 A1) = .inr t' → mz_rd x4 239 39 = nI (c + P1.length) ∧ c + P1.length + 1 ≤ 420 * sd + t' := fun t' z => by
          obtain ⟨t1, h1, h2⟩ := al4 t' z
          obtain ⟨q1, q2, q3⟩ := p3 t1 h1
          exact ⟨(f4.1 239 39 (by unfold zF3; omega)).trans q1, by omega⟩
        obtain ⟨x6, e6, f6, s6, p6⟩ := r_sumC (d := d) (c := c + P1.length) hk hs (fun m53 => (R_X12_must d 30 m53).bind (fun m56 => (R_X12_term d m56).bind (fun m59 => (R_X12_must d 31 m59).bind (fun m62 => H_X12_tellLaw_12 d (nI k) (nI a0) (nI (4 - (j + 1)) + 1) m62)))) tk5 s5 (fun t' z => ⟨(F5.1 239 39 (by omega)).trans (c4 t' z).1, by omega, by have := (c4 t' z).2; omega⟩) g2
        have tk6 := zTkR_x tk5 f6
        obtain ⟨x7, e7, f7, s7⟩ := r_mustA (d := d) (k := 23) (y := 30) tk6 s6 rfl (by omega) (by omega)
        have tk7 := zTkR_3 tk6 f7
        have b7 : mz_rd x7 239 33 = nI b := by rw [f7.1 239 33 (by unfold zF3; omega), f6.1 239 33 (by unfold zXR; omega), F5.1 239 33 (by omega)]; exact b4
        have al7 : ∀ t', zn (zex kd 23 A2) = .inr t' → ∃ t1, zn A2 = .inr t1 ∧ t' = t1 + 1 := fun t' z => by
          obtain ⟨h1, h2⟩ := zn_ir z
          obtain ⟨t1, h3, _, h4⟩ := zex_r h1
          exact ⟨t1, by rw [h3]; exact zn_r (by omega), h4⟩
        have c7 : ∀ t', zn (zex kd 23 A2) = .inr t' → mz_rd x7 239 39 = nI (c + P1.length + P2.length) ∧ c + P1.length + P2.length + 1 ≤ 420 * sd + t' := fun t' z => by
          obtain ⟨t1, h1, h2⟩ := al7 t' z
          obtain ⟨q1, q2, q3⟩ := p6 t1 h1
          exact ⟨(f7.1 239 39 (by unfold zF3; omega)).trans q1, by omega⟩
        obtain ⟨x8, e8, f8, s8, b8, p8⟩ := r_termA (d := d) (b := b) (c := c + P1.length + P2.length) hk hs tk7 s7 b7 (by omega) (fun t' z => ⟨(c7 t' z).1, by omega, by have := (c7 t' z).2; omega⟩) g3
        have tk8 : zTkR kd vl nr pl N x8 := zTkR_f tk7 f8 (fun a i z => by unfold zTF zXR at z; omega)
        obtain ⟨x9, e9, f9, s9⟩ := r_mustA (d := d) (k := 24) (y := 31) tk8 s8 rfl (by omega) (by omega)
        have tk9 := zTkR_3 tk8 f9
        have al9 : ∀ t', zn (zex kd 24 A3) = .inr t' → ∃ t1, zn A3 = .inr t1 ∧ t' = t1 + 1 := fun t' z => by
          obtain ⟨h1, h2⟩ := zn_ir z
          obtain ⟨t1, h3, _, h4⟩ := zex_r h1
          exact ⟨t1, by rw [h3]; exact zn_r (by omega), h4⟩
        have b9 : mz_rd x9 239 33 = nI (b + 1) := (f9.1 239 33 (by unfold zF3; omega)).trans b8
        have z19 : mz_rd x9 239 19 = nI sd := by
          rw [f9.1 239 19 (by unfold zF3; omega), f8.1 239 19 (by unfold zTF zXR; omega), f7.1 239 19 (by unfold zF3; omega), f6.1 239 19 (by unfold zXR; omega), F5.1 239 19 (by omega), f4.1 239 19 (by unfold zF3; omega), f3.1 239 19 (by unfold zXR; omega), w2 _ _ (by omega) (by omega), v1 _ (by omega) (by omega) (by omega)]
          exact h19
        obtain ⟨x10, e10, f10, s10, p10⟩ := ih (zex kd 24 A3) A' ts' last x9 (b + 1) (c + P1.length + P2.length + P3.length) (by omega) g4 tk9 s9 b9 (by omega) (by omega) z19 (fun t' z => by
          obtain ⟨t1, h1, h2⟩ := al9 t' z
          obtain ⟨q1, q2, q3, _⟩ := p8 t1 h1
          exact ⟨(f9.1 239 39 (by unfold zF3; omega)).trans q1, by omega, by omega⟩)
        have G29 : zFr (zLX sd k b) x x9 := zFr_t (zFr_m f1 (fun a i z => by unfold zF3 at z; unfold zLX zXR; omega)) (zFr_t (zFr_m F2 (fun a i z => by unfold zLX; omega)) (zFr_t (zFr_m f3 (fun a i z => Or.inl z)) (zFr_t (zFr_m f4 (fun a i z => by unfold zF3 at z; unfold zLX zXR; omega)) (zFr_t (zFr_m F5 (fun a i z => by unfold zLX; omega)) (zFr_t (zFr_m f6 (fun a i z => Or.inl z)) (zFr_t (zFr_m f7 (fun a i z => by unfold zF3 at z; unfold zLX zXR; omega)) (zFr_t (zFr_m f8 (fun a i z => by unfold zTF zXR at z; unfold zLX zXR; omega)) (zFr_m f9 (fun a i z => by unfold zF3 at z; unfold zLX zXR; omega)))))))))
        have e := H_X12_tellLaw_12_eq d (nI k) (nI a0) (nI (4 - (j + 1))) x
        rw [if_neg (fun z => z s.1), r_isT tk s.1 s.2.1 s.2.2.1 (y := 29) (k := 22) rfl ks, Option.bind_some] at e
        dsimp only at e
        rw [if_neg (show ¬ (1 : Int32) = 0 by decide), if_pos (show ¬ nI (4 - (j + 1)) = 4 from k_ne (b := 4) (by omega) (by omega) (by omega)), s.1, if_pos (show (0 : Int32) ≤ 0 by decide), e1, Option.bind_some, b1, n_ok (by omega), n_gd (by omega), nI_clamp (by omega), z_nb1, m_ne (show 239 ≠ 260 by omega), b1, n_ok (by omega), n_gd (by omega), nI_clamp (by omega), m_ne (show 239 ≠ 260 by omega), c1, ← hx2, e3, Option.bind_some, e4, Option.bind_some, b4, n_ok (by omega), n_gd (by omega), nI_clamp (by omega), ← hx5] at e
        have e := e.trans e6
        rw [e7, Option.bind_some, e8, Option.bind_some, e9, Option.bind_some, nI_1, show 4 - (j + 1) + 1 = 4 - j by omega, e10] at e
        refine ⟨x10, e, zFr_t G29 (zFr_m f10 (fun a i z => by unfold zLX zXR at z ⊢; omega)), s10, fun t' z => ?_⟩
        obtain ⟨c', r1, r2, r3, r4, r5, r6, r7, r8⟩ := p10 t' z
        have a9 : ∃ t9, zn (zex kd 24 A3) = .inr t9 := by
          rcases zn_cs (zex kd 24 A3) with ⟨q, h⟩ | ⟨t, h, l, hq⟩
          · rw [zn_ll g4 h] at z; exact absurd z (by simp)
          · exact ⟨t, hq⟩
        obtain ⟨t9, h9⟩ := a9
        obtain ⟨t8, h8, _⟩ := al9 t9 h9
        obtain ⟨y1, y2, y3, y4, y5⟩ := p8 t8 h8
        have a7 : ∃ t7, zn (zex kd 23 A2) = .inr t7 := by
          rcases zn_cs (zex kd 23 A2) with ⟨q, h⟩ | ⟨t, h, l, hq⟩
          · rw [zn_su g3 h] at h8; exact absurd h8 (by simp)
          · exact ⟨t, hq⟩
        obtain ⟨t7, h7⟩ := a7
        obtain ⟨t6, h6, _⟩ := al7 t7 h7
        obtain ⟨u1, u2, u3⟩ := p6 t6 h6
        have a4 : ∃ t4, zn (zex kd 10 A1) = .inr t4 := by
          rcases zn_cs (zex kd 10 A1) with ⟨q, h⟩ | ⟨t, h, l, hq⟩
          · rw [zn_su g2 h] at h6; exact absurd h6 (by simp)
          · exact ⟨t, hq⟩
        obtain ⟨t4, h4⟩ := a4
        obtain ⟨t3, h3, _⟩ := al4 t4 h4
        obtain ⟨o1, o2, o3⟩ := p3 t3 h3
        have hv : ∀ i, vl i < 10000 := fun i => (tk.1 i).2
        have L3 : ∀ i, i < c + P1.length → mz_rd x9 265 i = mz_rd x3 265 i ∧ mz_rd x9 266 i = mz_rd x3 266 i := fun i hi => by
          have q8 := y2.2 i (by omega)
          have q6 := u2.2 i (by omega)
          refine ⟨?_, ?_⟩
          · rw [f9.1 265 i (by unfold zF3; omega), q8.1, f7.1 265 i (by unfold zF3; omega), q6.1, F5.1 265 i (by omega), f4.1 265 i (by unfold zF3; omega)]
          · rw [f9.1 266 i (by unfold zF3; omega), q8.2, f7.1 266 i (by unfold zF3; omega), q6.2, F5.1 266 i (by omega), f4.1 266 i (by unfold zF3; omega)]
        have L6 : ∀ i, i < c + P1.length + P2.length → mz_rd x9 265 i = mz_rd x6 265 i ∧ mz_rd x9 266 i = mz_rd x6 266 i := fun i hi => by
          have q8 := y2.2 i (by omega)
          refine ⟨?_, ?_⟩
          · rw [f9.1 265 i (by unfold zF3; omega), q8.1, f7.1 265 i (by unfold zF3; omega)]
          · rw [f9.1 266 i (by unfold zF3; omega), q8.2, f7.1 266 i (by unfold zF3; omega)]
        have L8 : ∀ a i, a ≠ 239 → mz_rd x9 a i = mz_rd x8 a i := fun a i q => f9.1 a i (by unfold zF3; omega)
        have br : ∀ a, 260 ≤ a → a ≤ 264 → mz_rd x10 a b = mz_rd x9 a b := fun a p q => f10.1 a b (by unfold zLX zXR; omega)
        refine ⟨c', r1, by omega, r3, ?_, r5, ?_, ⟨fun i q hi => ?_, ?_, ?_⟩, fun i hi => ?_⟩
        · rw [r4, List.length_cons]; congr 1; omega
        · rw [r6, List.length_cons]; congr 1; omega
        · match i, hi with
          | 0, hi =>
            have : (P1, P2, P3) = q := Option.some.inj hi
            subst this
            refine ⟨?_, c, ?_, ?_, ?_, ?_, ?_, ?_, ?_⟩
            · show mz_rd x10 260 b = 1
              rw [br 260 (by omega) (by omega), L8 _ _ (by omega), f8.1 260 b (by unfold zTF zXR; omega), f7.1 260 b (by unfold zF3; omega), f6.1 260 b (by unfold zXR; omega), F5.1 260 b (by omega), f4.1 260 b (by unfold zF3; omega), f3.1 260 b (by unfold zXR; omega), hx2, m_ne (by omega), m_eq]
            · show mz_rd x10 261 b = nI c
              rw [br 261 (by omega) (by omega), L8 _ _ (by omega), f8.1 261 b (by unfold zTF zXR; omega), f7.1 261 b (by unfold zF3; omega), f6.1 261 b (by unfold zXR; omega), F5.1 261 b (by omega), f4.1 261 b (by unfold zF3; omega), f3.1 261 b (by unfold zXR; omega), hx2, m_eq]
            · show mz_rd x10 262 b = nI (c + P1.length)
              rw [br 262 (by omega) (by omega), L8 _ _ (by omega), f8.1 262 b (by unfold zTF zXR; omega), f7.1 262 b (by unfold zF3; omega), f6.1 262 b (by unfold zXR; omega), hx5, m_eq]
              exact (c4 t4 h4).1
            · show mz_rd x10 263 b = nI (c + P1.length + P2.length)
              rw [br 263 (by omega) (by omega), L8 _ _ (by omega)]
              exact y4
            · show mz_rd x10 264 b = nI (c + P1.length + P2.length + P3.length)
              rw [br 264 (by omega) (by omega), L8 _ _ (by omega)]
              exact y5
            · show zRPu sd x10 c' c P1
              refine zRPu_f (zCA_u (sd := sd) o2 hc2 (zSu_cs hv (by rw [(zn_ir h3).1] at g1; exact g1))) (c' := c') (by omega) (fun i hi => ?_)
              have q1 := r8 i (by omega)
              have q2 := L3 i hi
              exact ⟨q1.1.trans q2.1, q1.2.trans q2.2⟩
            · show zRPu sd x10 c' (c + P1.length) P2
              refine zRPu_f (zCA_u (sd := sd) u2 (by omega) (zSu_cs hv (by rw [(zn_ir h6).1] at g2; exact g2))) (c' := c') (by omega) (fun i hi => ?_)
              have q1 := r8 i (by omega)
              have q2 := L6 i hi
              exact ⟨q1.1.trans q2.1, q1.2.trans q2.2⟩
            · show zRPu sd x10 c' (c + P1.length + P2.length) P3
              refine zRPu_f (zCA_u (sd := sd) y2 (by omega) (zSu_cs hv (by rw [(zn_ir h8).1] at g3; exact g3))) (c' := c') (by omega) (fun i hi => ?_)
              have q1 := r8 i hi
              exact ⟨q1.1.trans (L8 _ _ (by omega)), q1.2.trans (L8 _ _ (by omega))⟩
          | i + 1, hi =>
            have := r7.1 i q hi
            rw [show b + 1 + i = b + (i + 1) by omega] at this
            exact this
        · have := r7.2.1
          rw [show b + 1 + ts'.length = b + (ts'.length + 1) by omega] at this
          exact this
        · have := r7.2.2
          rw [show b + 1 + ts'.length = b + (ts'.length + 1) by omega] at this
          exact this
        · have q1 := r8 i (by omega)
          have q2 := L3 i (by omega)
          have q3 := o2.2 i hi
          refine ⟨?_, ?_⟩
          · rw [q1.1, q2.1, q3.1, w2 _ _ (by omega) (by omega), w1 _ _ (by omega)]
          · rw [q1.2, q2.2, q3.2, w2 _ _ (by omega) (by omega), w1 _ _ (by omega)]
end ZRlaw2
