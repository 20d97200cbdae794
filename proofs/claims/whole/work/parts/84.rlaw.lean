/-! a law, read by the reference -/
def zn : ZA → ZA
  | .inl e => if e.2 ≤ 400 then .inl e else .inl (2, 400)
  | .inr t => if t ≤ 400 then .inr t else .inl (2, 400)
def zRst (pl : Nat → Nat) (N : Nat) (x : MzM) : ZA → Prop
  | .inl e => mz_rd x 239 13 = nI e.1 ∧ mz_rd x 239 14 = nI (pl e.2) ∧ (e.1 = 1 ∨ e.1 = 2)
  | .inr t => mz_rd x 239 13 = 0 ∧ mz_rd x 239 11 = nI t ∧ t < N ∧ mz_rd x 239 12 = 0
def zF3 (a i : Nat) : Prop := a = 239 ∧ (i = 11 ∨ i = 13 ∨ i = 14)
section ZRlaw
variable {kd vl nr pl : Nat → Nat} {N sd d : Nat}
theorem zn_cs (A : ZA) : (∃ e, zn A = .inl e) ∨ ∃ t, A = .inr t ∧ t ≤ 400 ∧ zn A = .inr t := by
  match A with
  | .inl e =>
    refine Or.inl ?_
    by_cases c : e.2 ≤ 400
    · exact ⟨e, if_pos c⟩
    · exact ⟨(2, 400), if_neg c⟩
  | .inr t =>
    by_cases c : t ≤ 400
    · exact Or.inr ⟨t, rfl, c, if_pos c⟩
    · exact Or.inl ⟨(2, 400), if_neg c⟩
theorem zn_r {t : Nat} (h : t ≤ 400) : zn (.inr t) = .inr t := if_pos h
theorem zn_l {e : Nat × Nat} (h : e.2 ≤ 400) : zn (.inl e) = .inl e := if_pos h
theorem zn_hi {A : ZA} (h : 400 < zpo A) : zn A = .inl (2, 400) := by
  match A, h with
  | .inl e, h => exact if_neg (by have h : 400 < e.2 := h; omega)
  | .inr t, h => exact if_neg (by have h : 400 < t := h; omega)
theorem zn_ir {A : ZA} {t : Nat} (h : zn A = .inr t) : A = .inr t ∧ t ≤ 400 := by
  rcases zn_cs A with ⟨e, q⟩ | ⟨s, q, l, q2⟩
  · rw [q] at h; exact absurd h (by simp)
  · rw [q2] at h
    have : s = t := Sum.inr.inj h
    subst this
    exact ⟨q, l⟩
/-- dead stays dead -/
theorem zn_d {A A' : ZA} {e : Nat × Nat} (h : zn A = .inl e) (k : ∀ f, A = .inl f → A' = .inl f) (c : ∀ t, A = .inr t → zcnA kd t A') : zn A' = .inl e := by
  match A, h, k, c with
  | .inl f, h, k, c => rw [k f rfl]; exact h
  | .inr t, h, k, c =>
    have t4 : 400 < t := by
      rcases Nat.lt_or_ge 400 t with q | q
      · exact q
      · rw [zn_r q] at h; exact absurd h (by simp)
    have h' : zn (.inr t) = .inl (2, 400) := zn_hi t4
    rw [h'] at h
    rw [zn_hi (Nat.lt_of_lt_of_le t4 (c t rfl).1)]
    exact h
theorem zcn_0 {t : Nat} : zcnA kd t (.inr t) := ⟨Nat.le_refl _, fun i p q => absurd (Nat.lt_of_le_of_lt p q) (Nat.lt_irrefl _)⟩
theorem zn_ex {A : ZA} {e : Nat × Nat} {k : Nat} (k0 : k ≠ 0) (h : zn A = .inl e) : zn (zex kd k A) = .inl e :=
  zn_d (kd := kd) h (fun f z => by rw [z]; rfl) (fun t z => by rw [z]; exact zcn_ex k0 zcn_0)
theorem zn_su {A A' : ZA} {e : Nat × Nat} {P : ZP} (g : zSu kd vl P A A') (h : zn A = .inl e) : zn A' = .inl e :=
  zn_d (kd := kd) h (fun f z => by rw [z] at g; exact g) (fun t z => by rw [z] at g; exact zcn_su zcn_0 g)
theorem zLl_d {j : Nat} {f : Nat × Nat} {A' : ZA} {ts : List (ZP × ZP × ZP)} {last : ZP} (g : zLl kd vl j (.inl f) ts last A') : A' = .inl f := by
  have fin : (∃ A1, zSu kd vl last (.inl f) A1 ∧ A' = zex kd 4 A1) → A' = .inl f := by
    rintro ⟨A1, s, e⟩
    have s : A1 = .inl f := s
    rw [e, s]
    rfl
  match j, g with
  | 0, Or.inl g => exact fin g.2.2
  | 0, Or.inr ⟨s, es, _⟩ => exact absurd es (by simp)
  | j + 1, Or.inl g => exact fin g.2.2
  | j + 1, Or.inr ⟨s, es, _⟩ => exact absurd es (by simp)
theorem zn_ll {j : Nat} {A A' : ZA} {e : Nat × Nat} {ts : List (ZP × ZP × ZP)} {last : ZP} (g : zLl kd vl j A ts last A') (h : zn A = .inl e) : zn A' = .inl e :=
  zn_d (kd := kd) h (fun f z => by rw [z] at g; exact zLl_d g) (fun t z => by rw [z] at g; exact zcn_ll j t _ _ ts last zcn_0 g)
theorem zTkR_3 {x x' : MzM} (h : zTkR kd vl nr pl N x) (f : zFr zF3 x x') : zTkR kd vl nr pl N x' := zTkR_f h f (fun a i z => by unfold zF3 at z; omega)
theorem r_goA {x : MzM} {t : Nat} (tk : zTkR kd vl nr pl N x) (s : zRst pl N x (.inr t)) (k : kd t ≠ 0) : ∃ x', R_X12_goesOn d x = some x' ∧ zFr zF3 x x' ∧ zRst pl N x' (zn (.inr (t + 1))) := by
  obtain ⟨s1, s2, s3, s4⟩ := s
  have l := tk.2.1
  by_cases c : t < 400
  · refine ⟨_, r_go s2 c, zFr_w (by unfold zF3; omega), ?_⟩
    rw [zn_r (by omega)]
    refine ⟨?_, m_eq, tk.2.2.2.1 t s3 k c, ?_⟩
    · rw [m_ni (by omega)]; exact s1
    · rw [m_ni (by omega)]; exact s4
  · have t4 : t = 400 := by omega
    subst t4
    refine ⟨_, r_go4 tk s1 s2 s3, zFr_w2 (zFr_w (by unfold zF3; omega)) (by unfold zF3; omega), ?_⟩
    rw [zn_hi (by show 400 < 401; omega)]
    exact ⟨by rw [m_ni (by omega), m_eq]; rfl, m_eq, Or.inr rfl⟩
theorem r_mustA {x : MzM} {k : Nat} {y : Int32} {A : ZA} (tk : zTkR kd vl nr pl N x) (s : zRst pl N x (zn A)) (hy : y = nI (zkr k)) (k0 : k ≠ 0) (hk : k < 34) : ∃ x', R_X12_must d y x = some x' ∧ zFr zF3 x x' ∧ zRst pl N x' (zn (zex kd k A)) := by
  rcases zn_cs A with ⟨e, q⟩ | ⟨t, rfl, l, q⟩
  · rw [q] at s
    rw [zn_ex k0 q]
    refine ⟨x, ?_, zFr_r, s⟩
    rw [R_X12_must_eq, r_isX s.1 s.2.2, Option.bind_some]
    dsimp only
    rw [if_pos rfl, r_flD s.1 s.2.2, Option.bind_some]
  · rw [q] at s
    by_cases c : kd t = k
    · rw [show zex kd k (.inr t) = .inr (t + 1) from if_pos c]
      obtain ⟨x1, e1, f1, s1⟩ := r_goA (d := d) tk s (by omega)
      refine ⟨x1, ?_, f1, s1⟩
      rw [R_X12_must_eq, r_isT tk s.1 s.2.1 s.2.2.1 hy c, Option.bind_some]
      dsimp only
      rw [if_neg (show ¬ (1 : Int32) = 0 by decide), e1, Option.bind_some]
    · rw [show zex kd k (.inr t) = .inl (1, t) from if_neg c, zn_l (e := (1, t)) l]
      refine ⟨mz_wr (mz_wr x 239 13 1) 239 14 (nI (pl t)), ?_, zFr_w2 (zFr_w ?_) ?_, ?_⟩
      · rw [R_X12_must_eq, r_isF tk s.1 s.2.1 s.2.2.1 hy hk c, Option.bind_some]
        dsimp only
        rw [if_pos rfl, r_fl tk s.1 s.2.1 s.2.2.1, Option.bind_some]
      · unfold zF3; omega
      · unfold zF3; omega
      · exact ⟨by rw [m_ni (by omega), m_eq]; rfl, m_eq, Or.inl rfl⟩
theorem r_sumA (hk : ∀ i, 402 ≤ i → kd i = 0) (hs : sd < 2) {x : MzM} {c : Nat} {A A' : ZA} {P : ZP} (tk : zTkR kd vl nr pl N x) (s : zRst pl N x (zn A)) (hc : ∀ t, zn A = .inr t → mz_rd x 239 39 = nI c ∧ 420 * sd ≤ c ∧ c ≤ 420 * sd + t) (g : zSu kd vl P A A') : ∃ x', R_X12_expression d x = some x' ∧ zFr (zXR sd) x x' ∧ zRst pl N x' (zn A') ∧ ∀ t, zn A' = .inr t → mz_rd x' 239 39 = nI (c + P.length) ∧ zCA x x' c P ∧ c + P.length ≤ 420 * sd + t := by
  rcases zn_cs A with ⟨e, q⟩ | ⟨t, rfl, l, q⟩
  · rw [q] at s
    rw [zn_su g q]
    refine ⟨mz_wr x 239 43 0, ?_, zFr_w (by unfold zXR; omega), ⟨by rw [m_ni (by omega)]; exact s.1, by rw [m_ni (by omega)]; exact s.2.1, s.2.2⟩, fun t z => absurd z (by simp)⟩
    rw [R_X12_expression_eq, H_X12_expression_12_eq, if_neg (show ¬ (1 : Int32) = 0 by decide), m_ni (show 13 ≠ 43 by omega), s.1, if_pos (r_fd s.2.2).1]
  · obtain ⟨c1, c2, c3⟩ := hc t q
    rw [q] at s
    obtain ⟨s1, s2, s3, s4⟩ := s
    rcases g with ⟨e, g', rfl⟩ | ⟨t2, g', rfl⟩
    · have k := r_expr (d := d) (pl := pl) hk hs tk s3 s1 s2 s4 c1 c2 c3 g'
      have gf := (zG_f hk g').2.1
      by_cases c4 : e.2 ≤ 400
      · rw [znz_l c4] at k
        obtain ⟨x', a, b, cc, f⟩ := k
        rw [zn_l c4]
        exact ⟨x', a, f, ⟨b, cc, gf⟩, fun t z => absurd z (by simp)⟩
      · rw [znz_b c4] at k
        obtain ⟨x', a, b, cc, f⟩ := k
        rw [zn_hi (A := .inl e) (by show 400 < e.2; omega)]
        exact ⟨x', a, f, ⟨b, cc, Or.inr rfl⟩, fun t z => absurd z (by simp)⟩
    · have k := r_expr (d := d) (pl := pl) hk hs tk s3 s1 s2 s4 c1 c2 c3 g'
      have gf : t + P.length ≤ t2 := (zG_f hk g').1
      by_cases c4 : t2 ≤ 400
      · rw [znz_r c4] at k
        obtain ⟨x', a, b1, b2, b3, b4, b5, b6, f⟩ := k
        rw [zn_r c4]
        refine ⟨x', a, f, ⟨b1, b2, b3, b4⟩, fun t' z => ⟨b5, b6, ?_⟩⟩
        have : t2 = t' := Sum.inr.inj z
        omega
      · rw [znz_o c4] at k
        obtain ⟨x', a, b, cc, f⟩ := k
        rw [zn_hi (A := .inr t2) (by show 400 < t2; omega)]
        exact ⟨x', a, f, ⟨b, cc, Or.inr rfl⟩, fun t z => absurd z (by simp)⟩
theorem r_sumC (hk : ∀ i, 402 ≤ i → kd i = 0) (hs : sd < 2) {x : MzM} {c : Nat} {A A' : ZA} {P : ZP} {β : Type} (G : MzM → Option β) (tk : zTkR kd vl nr pl N x) (s : zRst pl N x (zn A)) (hc : ∀ t, zn A = .inr t → mz_rd x 239 39 = nI c ∧ 420 * sd ≤ c ∧ c ≤ 420 * sd + t) (g : zSu kd vl P A A') : ∃ x', (if ¬ mz_rd x 239 13 = 0 then G x else (R_X12_expression d x).bind G) = G x' ∧ zFr (zXR sd) x x' ∧ zRst pl N x' (zn A') ∧ ∀ t, zn A' = .inr t → mz_rd x' 239 39 = nI (c + P.length) ∧ zCA x x' c P ∧ c + P.length ≤ 420 * sd + t := by
  rcases zn_cs A with ⟨e, q⟩ | ⟨t, _, l, q⟩
  · rw [q] at s
    rw [zn_su g q]
    exact ⟨x, by rw [s.1, if_pos (r_fd s.2.2).1], zFr_r, s, fun t z => absurd z (by simp)⟩
  · obtain ⟨x', e, f, a, b⟩ := r_sumA (d := d) hk hs tk s hc g
    rw [q] at s
    exact ⟨x', by rw [if_neg (fun z => z s.1), e, Option.bind_some], f, a, b⟩
def zTF (sd b a i : Nat) : Prop := zXR sd a i ∨ (a = 239 ∧ i = 33) ∨ ((a = 263 ∨ a = 264) ∧ i = b)
theorem zRst_f {x x' : MzM} {A : ZA} {F : Nat → Nat → Prop} (s : zRst pl N x A) (f : zFr F x x') (hF : ∀ i, F 239 i → i ≠ 11 ∧ i ≠ 12 ∧ i ≠ 13 ∧ i ≠ 14) : zRst pl N x' A := by
  have k : ∀ i, i = 11 ∨ i = 12 ∨ i = 13 ∨ i = 14 → mz_rd x' 239 i = mz_rd x 239 i := fun i z => f.1 239 i (fun w => by have := hF i w; omega)
  match A, s with
  | .inl e, s => exact ⟨(k 13 (by omega)).trans s.1, (k 14 (by omega)).trans s.2.1, s.2.2⟩
  | .inr t, s => exact ⟨(k 13 (by omega)).trans s.1, (k 11 (by omega)).trans s.2.1, s.2.2.1, (k 12 (by omega)).trans s.2.2.2⟩
theorem r_termA (hk : ∀ i, 402 ≤ i → kd i = 0) (hs : sd < 2) {x : MzM} {c b : Nat} {A A' : ZA} {P : ZP} (tk : zTkR kd vl nr pl N x) (s : zRst pl N x (zn A)) (hb : mz_rd x 239 33 = nI b) (hb2 : b < 260) (hc : ∀ t, zn A = .inr t → mz_rd x 239 39 = nI c ∧ 420 * sd ≤ c ∧ c ≤ 420 * sd + t) (g : zSu kd vl P A A') : ∃ x', R_X12_term d x = some x' ∧ zFr (zTF sd b) x x' ∧ zRst pl N x' (zn A') ∧ mz_rd x' 239 33 = nI (b + 1) ∧ ∀ t, zn A' = .inr t → mz_rd x' 239 39 = nI (c + P.length) ∧ zCA x x' c P ∧ c + P.length ≤ 420 * sd + t ∧ mz_rd x' 263 b = nI c ∧ mz_rd x' 264 b = nI (c + P.length) := by
  obtain ⟨x1, hx⟩ : ∃ q : MzM, q = mz_wr x 263 b (mz_rd x 239 39) := ⟨_, rfl⟩
  have f1 : zFr (zTF sd b) x x1 := by rw [hx]; exact zFr_w (by unfold zTF; omega)
  have k1 : ∀ a i, a ≠ 263 → mz_rd x1 a i = mz_rd x a i := fun a i z => by rw [hx, m_ne z]
  have s1 : zRst pl N x1 (zn A) := zRst_f (F := fun a i => a = 263) s (by rw [hx]; exact zFr_w rfl) (fun i z => absurd z (by omega))
  have tk1 : zTkR kd vl nr pl N x1 := zTkR_f (F := fun a i => a = 263) tk (by rw [hx]; exact zFr_w rfl) (fun a i z => by omega)
  have b1 : mz_rd x1 239 33 = nI b := (k1 _ _ (by omega)).trans hb
  obtain ⟨x2, e2, f2, s2, p2⟩ := r_sumC (d := d) hk hs (fun m4 => mz_g (mz_ok (mz_rd m4 239 33) 260) (some (mz_wr (mz_wr m4 264 ((mz_rd m4 239 33) : Int32).toNatClampNeg (mz_rd m4 239 39)) 239 33 ((mz_rd (mz_wr m4 264 ((mz_rd m4 239 33) : Int32).toNatClampNeg (mz_rd m4 239 39)) 239 33) + 1)))) tk1 s1 (fun t z => ⟨(k1 _ _ (by omega)).trans (hc t z).1, (hc t z).2⟩) g
  have b2 : mz_rd x2 239 33 = nI b := (f2.1 239 33 (by unfold zXR; omega)).trans b1
  have e := R_X12_term_eq d x
  rw [hb, n_ok (by omega), n_gd (by omega), nI_clamp (by omega), ← hx] at e
  have e := e.trans e2
  rw [b2, n_ok (by omega), n_gd (by omega), nI_clamp (by omega), m_ne (show 239 ≠ 264 by omega), b2, nI_1] at e
  have F : zFr (zTF sd b) x (mz_wr (mz_wr x2 264 b (mz_rd x2 239 39)) 239 33 (nI (b + 1))) := zFr_w2 (zFr_w2 (zFr_t f1 (zFr_m f2 (fun a i z => Or.inl z))) (by unfold zTF; omega)) (by unfold zTF; omega)
  refine ⟨_, e, F, zRst_f (F := fun a i => a = 264 ∨ (a = 239 ∧ i = 33)) s2 (zFr_w2 (zFr_w (Or.inl rfl)) (Or.inr ⟨rfl, rfl⟩)) (fun i z => by omega), m_eq, fun t z => ?_⟩
  obtain ⟨q1, q2, q3⟩ := p2 t z
  have al : ∃ t0, zn A = .inr t0 := by
    rcases zn_cs A with ⟨e, q⟩ | ⟨t, _, l, q⟩
    · rw [zn_su g q] at z; exact absurd z (by simp)
    · exact ⟨t, q⟩
  obtain ⟨t0, h0⟩ := al
  refine ⟨?_, zCA_pre (x1 := x1) (fun a i w => k1 a i (by omega)) (zCA_post q2 (fun a i w => by rw [m_ne (by omega), m_ne (by omega)])), q3, ?_, ?_⟩
  · rw [m_ni (by omega), m_ne (by omega)]; exact q1
  · rw [m_ne (by omega), m_ne (by omega), f2.1 263 b (by unfold zXR; omega), hx, m_eq]
    exact (hc t0 h0).1
  · rw [m_ne (by omega), m_eq]; exact q1
end ZRlaw
