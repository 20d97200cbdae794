/-! what is told, one after the other: the reference -/
def zF5 (a i : Nat) : Prop := a = 239 ∧ (i = 11 ∨ i = 13 ∨ i = 14 ∨ i = 15 ∨ i = 16)
def zLFr (pl : Nat → Nat) (x : MzM) (LF : Nat × Nat) : Prop := mz_rd x 239 15 = nI LF.1 ∧ LF.1 < 10 ∧ (LF.1 ≠ 0 → mz_rd x 239 16 = nI (pl LF.2))
/-- places go up -/
def zPM (pl : Nat → Nat) (N : Nat) : Prop := ∀ i j, i < j → j < N → pl i < pl j ∧ pl j < 2 ^ 30
section ZRtell
variable {kd vl nm nr pl : Nat → Nat} {N sd d : Nat}
theorem zF3_5 {x x' : MzM} (f : zFr zF3 x x') : zFr zF5 x x' := zFr_m f (fun a i z => by unfold zF3 at z; unfold zF5; omega)
theorem zTkR_5 {x x' : MzM} (h : zTkR kd vl nr pl N x) (f : zFr zF5 x x') : zTkR kd vl nr pl N x' := zTkR_f h f (fun a i z => by unfold zF5 at z; omega)
theorem zLFr_3 {x x' : MzM} {LF : Nat × Nat} (h : zLFr pl x LF) (f : zFr zF3 x x') : zLFr pl x' LF := ⟨(f.1 _ _ (by unfold zF3; omega)).trans h.1, h.2.1, fun z => (f.1 _ _ (by unfold zF3; omega)).trans (h.2.2 z)⟩
theorem r_wrong {x : MzM} {f t : Nat} {LF : Nat × Nat} (hpm : zPM pl N) (tk : zTkR kd vl nr pl N x) (h13 : mz_rd x 239 13 = 0) (ht : t < N) (h : zLFr pl x LF) (ok : zLok kd t LF) (hf : f < 10) : ∃ x', R_X12_wrong d (nI f) (nI t) x = some x' ∧ zFr (fun a i => a = 239 ∧ (i = 15 ∨ i = 16)) x x' ∧ zLFr pl x' (zlt1 f t LF) := by
  obtain ⟨h5, h10, h6⟩ := h
  have l := tk.2.1
  have e := R_X12_wrong_eq d (nI f) (nI t) x
  rw [n_ok (by omega), n_gd (by omega), nI_clamp (by omega), h13, if_neg (show ¬ (0 : Int32) < 0 by decide), h5, (tk.2.2.2.2 t ht).2.1] at e
  unfold zlt1
  by_cases c : LF.1 = 0
  · rw [if_pos (show nI LF.1 = 0 by rw [c]; rfl)] at e
    rw [if_pos c]
    exact ⟨_, e, zFr_w2 (zFr_w ⟨rfl, Or.inl rfl⟩) ⟨rfl, Or.inr rfl⟩, by rw [m_ni (by omega), m_eq], hf, fun _ => m_eq⟩
  · have q := hpm LF.2 t (ok.2 c).1 ht
    rw [if_neg (show ¬ nI LF.1 = 0 from k_ne (b := 0) (by omega) (by omega) c), h6 c, if_pos (nI_lt q.1 (by omega))] at e
    rw [if_neg c]
    exact ⟨x, e, zFr_r, h5, h10, h6⟩
theorem zRst_56 {x x' : MzM} {A : ZA} (s : zRst pl N x A) (f : zFr (fun a i => a = 239 ∧ (i = 15 ∨ i = 16)) x x') : zRst pl N x' A := zRst_f s f (fun i z => by omega)
theorem zF56 {x x' : MzM} (f : zFr (fun a i => a = 239 ∧ (i = 15 ∨ i = 16)) x x') : zFr zF5 x x' := zFr_m f (fun a i z => by unfold zF5; omega)
/-- an int within bounds -/
theorem r_int {x : MzM} {lo hi : Nat} {A : ZA} {LF : Nat × Nat} (hpm : zPM pl N) (tk : zTkR kd vl nr pl N x) (s : zRst pl N x (zn A)) (hl : ∀ t, zn A = .inr t → zLFr pl x LF ∧ zLok kd t LF) (b1 : lo < 10000) (b2 : hi < 10000) : ∃ v x', R_X12_bounded d (nI lo) (nI hi) x = some (v, x') ∧ zFr zF5 x x' ∧ zRst pl N x' (zn (zex kd 3 A)) ∧ ∀ t, zn (zex kd 3 A) = .inr (t + 1) → v = nI (vl t) ∧ zLFr pl x' (zli vl lo hi t LF) := by
  have e := R_X12_bounded_eq d (nI lo) (nI hi) x
  rcases zn_cs A with ⟨q, h⟩ | ⟨t, rfl, l, hq⟩
  · rw [h] at s
    rw [s.1, if_pos (r_fd s.2.2).2.2, r_flD s.1 s.2.2, Option.bind_some] at e
    rw [zn_ex (by omega) h]
    exact ⟨_, x, e, zFr_r, s, fun t z => absurd z (by simp)⟩
  · obtain ⟨L, ok⟩ := hl t hq
    rw [hq] at s
    have bv := (tk.1 t).2
    have ln := tk.2.1
    have tN := s.2.2.1
    by_cases c : kd t = 3
    · rw [s.1, if_neg (show ¬ (0 : Int32) < 0 by decide), r_isT tk s.1 s.2.1 tN (y := 2) (k := 3) rfl c, Option.bind_some] at e
      dsimp only at e
      rw [if_pos (show ¬ (1 : Int32) = 0 by decide), s.2.1, n_ok (by omega), n_gd (by omega), nI_clamp (by omega), (tk.2.2.2.2 t tN).2.2.1 c] at e
      have ze : zex kd 3 (.inr t) = .inr (t + 1) := if_pos c
      rw [ze]
      have tt : ∀ t', zn (.inr (t + 1)) = .inr (t' + 1) → t' = t := fun t' z => by
        have := (zn_ir z).1
        have : t + 1 = t' + 1 := Sum.inr.inj this
        omega
      by_cases o : vl t < lo ∨ hi < vl t
      · obtain ⟨x1, e1, f1, L1⟩ := r_wrong (d := d) (f := 5) hpm tk s.1 tN L ok (by omega)
        have e1 : R_X12_wrong d 5 (nI t) x = some x1 := e1
        obtain ⟨x2, e2, f2, s2⟩ := r_goA (d := d) (zTkR_5 tk (zF56 f1)) (zRst_56 (A := .inr t) s f1) (by omega)
        refine ⟨nI (vl t), x2, ?_, zFr_t (zF56 f1) (zF3_5 f2), s2, fun t' z => ?_⟩
        · rw [e, e1, Option.bind_some, e2, Option.bind_some]
          by_cases o1 : vl t < lo
          · rw [if_pos (nI_lt o1 (by omega))]
          · rw [if_neg (nI_nlt (by omega) (by omega)), if_neg (nI_ge (by omega) (by omega))]
        · rw [tt t' z]
          refine ⟨rfl, zLFr_3 ?_ f2⟩
          unfold zli
          rw [if_pos o]
          exact L1
      · obtain ⟨x2, e2, f2, s2⟩ := r_goA (d := d) tk s (by omega)
        refine ⟨nI (vl t), x2, ?_, zF3_5 f2, s2, fun t' z => ?_⟩
        · rw [e, if_neg (nI_nlt (by omega) (by omega)), if_pos (nI_le (by omega) (by omega)), e2, Option.bind_some]
        · rw [tt t' z]
          refine ⟨rfl, zLFr_3 ?_ f2⟩
          unfold zli
          rw [if_neg o]
          exact L
    · rw [s.1, if_neg (show ¬ (0 : Int32) < 0 by decide), r_isF tk s.1 s.2.1 tN (y := 2) (k := 3) rfl (by omega) c, Option.bind_some] at e
      dsimp only at e
      rw [if_neg (show ¬ ¬ (0 : Int32) = 0 from fun z => z rfl), r_fl tk s.1 s.2.1 tN, Option.bind_some] at e
      have ze : zex kd 3 (.inr t) = .inl (1, t) := if_neg c
      rw [ze, zn_l (e := (1, t)) l]
      exact ⟨_, _, e, zFr_w2 (zFr_w (by unfold zF5; omega)) (by unfold zF5; omega), ⟨by rw [m_ni (by omega), m_eq]; rfl, m_eq, Or.inl rfl⟩, fun t z => absurd z (by simp)⟩
theorem r_numb {x : MzM} {np t : Nat} {tn : Nat → Nat} (hs : sd < 2) (tk : zTkR kd vl nr pl N x) (ht : t < N) (k2 : kd t = 2) (h19 : mz_rd x 239 19 = nI sd) (h8 : mz_rd x 248 sd = nI np) (hp : np ≤ 6) (hn : ∀ k, k < np → mz_rl x 247 k = lN (nr (tn k)) ∧ nr (tn k) < 2 ^ 63) (hv : nr t < 2 ^ 63) : ∀ f k, k + f = np → H_X12_numberOf_2 d (nI t) (nI k) x = some (zfi (zff (fun k => decide (nr (tn k) = nr t)) f k), x) := by
  have l := tk.2.1
  intro f
  induction f with
  | zero =>
    intro k e
    rw [H_X12_numberOf_2_eq, h19, n_ok (by omega), n_gd (by omega), nI_clamp (by omega), h8, if_pos (nI_le (by omega) (by omega))]
    rfl
  | succ f ih =>
    intro k e
    have q := hn k (by omega)
    rw [H_X12_numberOf_2_eq, h19, n_ok (by omega), n_gd (by omega), nI_clamp (by omega), h8, if_neg (nI_ge (by omega) (by omega)), n_ok (by omega), n_gd (by omega), n_ok (by omega), n_gd (by omega), nI_clamp (by omega), nI_clamp (by omega), q.1, (tk.2.2.2.2 t ht).2.2.2 k2, nI_1]
    unfold zff
    by_cases c : nr (tn k) = nr t
    · rw [if_neg (fun z => z (lg_eq.mpr (by rw [c]))), if_pos (decide_eq_true c)]
      rfl
    · rw [if_pos (fun z => c ((pk_lEQ q.2 hv).mp (lg_eq.mp z))), if_neg (fun z => c (of_decide_eq_true z)), ih (k + 1) (by omega)]
theorem zff_eq {p q : Nat → Bool} : ∀ (f k : Nat), (∀ j, k ≤ j → j < k + f → p j = q j) → zff p f k = zff q f k := by
  intro f
  induction f with
  | zero => intro k _; rfl
  | succ f ih =>
    intro k h
    unfold zff
    rw [h k (Nat.le_refl _) (by omega), ih (k + 1) (fun j a b => h j (by omega) (by omega))]
theorem zfn_nr {tn : Nat → Nat} {np t : Nat} (hN : ∀ i j, kd i = 2 → kd j = 2 → (nm i = nm j ↔ nr i = nr j)) (hk : ∀ k, k < np → kd (tn k) = 2) (k2 : kd t = 2) : zff (fun k => decide (nr (tn k) = nr t)) np 0 = zfn nm tn np t := by
  unfold zfn
  refine zff_eq np 0 (fun j _ b => ?_)
  have := hN (tn j) t (hk j (by omega)) k2
  by_cases c : nm (tn j) = nm t
  · rw [decide_eq_true c, decide_eq_true (this.mp c)]
  · rw [decide_eq_false c, decide_eq_false (fun z => c (this.mpr z))]
/-- the names that the reference holds -/
def zNmR (kd nr : Nat → Nat) (sd np : Nat) (tn : Nat → Nat) (x : MzM) : Prop := mz_rd x 239 19 = nI sd ∧ mz_rd x 248 sd = nI np ∧ ∀ k, k < np → mz_rl x 247 k = lN (nr (tn k)) ∧ kd (tn k) = 2
theorem zNmR_f {np : Nat} {tn : Nat → Nat} {x x' : MzM} {F : Nat → Nat → Prop} (h : zNmR kd nr sd np tn x) (f : zFr F x x') (hF : ¬ F 239 19 ∧ ¬ F 248 sd) : zNmR kd nr sd np tn x' := ⟨(f.1 _ _ hF.1).trans h.1, (f.1 _ _ hF.2).trans h.2.1, fun k hk => ⟨by unfold mz_rl; rw [f.2]; exact (h.2.2 k hk).1, (h.2.2 k hk).2⟩⟩
theorem r_number {x : MzM} {np t : Nat} {tn : Nat → Nat} (hs : sd < 2) (hN : ∀ i j, kd i = 2 → kd j = 2 → (nm i = nm j ↔ nr i = nr j)) (hr : ∀ i, kd i = 2 → nr i < 2 ^ 63) (tk : zTkR kd vl nr pl N x) (ht : t < N) (k2 : kd t = 2) (h : zNmR kd nr sd np tn x) (hp : np ≤ 6) : R_X12_numberOf d (nI t) x = some (zfi (zfn nm tn np t), x) := by
  rw [R_X12_numberOf_eq, ← zfn_nr hN (fun k hk => (h.2.2 k hk).2) k2]
  exact r_numb hs tk ht k2 h.1 h.2.1 hp (fun k hk => ⟨(h.2.2 k hk).1, hr _ (h.2.2 k hk).2⟩) (hr t k2) np 0 (by omega)
/-- a name -/
theorem r_name {x : MzM} {np : Nat} {tn : Nat → Nat} {A : ZA} {LF : Nat × Nat} (hs : sd < 2) (hpm : zPM pl N) (hN : ∀ i j, kd i = 2 → kd j = 2 → (nm i = nm j ↔ nr i = nr j)) (hr : ∀ i, kd i = 2 → nr i < 2 ^ 63) (tk : zTkR kd vl nr pl N x) (s : zRst pl N x (zn A)) (hl : ∀ t, zn A = .inr t → zLFr pl x LF ∧ zLok kd t LF) (hn : zNmR kd nr sd np tn x) (hp : np ≤ 6) : ∃ v x', R_X12_known d x = some (v, x') ∧ zFr zF5 x x' ∧ zRst pl N x' (zn (zex kd 2 A)) ∧ ∀ t, zn (zex kd 2 A) = .inr (t + 1) → v = zfi (zfn nm tn np t) ∧ zLFr pl x' (zln (zfn nm tn np t) none t LF) := by
  have e := R_X12_known_eq d x
  obtain ⟨x1, e1, f1, s1⟩ := r_mustA (d := d) (k := 2) (y := 1) tk s rfl (by omega) (by omega)
  rw [e1, Option.bind_some] at e
  rcases zn_cs (zex kd 2 A) with ⟨q, h⟩ | ⟨t', h, l, hq⟩
  · rw [h] at s1 ⊢
    rw [s1.1, if_neg (r_fd s1.2.2).2.1] at e
    exact ⟨_, x1, e, zF3_5 f1, s1, fun t z => absurd z (by simp)⟩
  · obtain ⟨t, q1, q2, q3⟩ := zex_r h
    subst q1
    subst q3
    have hz : zn (.inr t) = .inr t := zn_r (by omega)
    obtain ⟨L, ok⟩ := hl t hz
    rw [hz] at s
    rw [hq] at s1 ⊢
    have tk1 := zTkR_3 tk f1
    have hn1 : zNmR kd nr sd np tn x1 := zNmR_f hn f1 ⟨by unfold zF3; omega, by unfold zF3; omega⟩
    have nb := r_number (d := d) hs hN hr tk1 s.2.2.1 q2 hn1 hp
    rw [s1.1, if_pos (show (0 : Int32) ≤ 0 by decide), s.2.1, nb, Option.bind_some] at e
    dsimp only at e
    have L1 := zLFr_3 L f1
    match ho : zfn nm tn np t with
    | none =>
      rw [ho, if_neg (show ¬ (0 : Int32) ≤ zfi none by decide)] at e
      obtain ⟨x2, e2, f2, L2⟩ := r_wrong (d := d) (f := 4) hpm tk1 s1.1 s.2.2.1 L1 ok (by omega)
      have e2 : R_X12_wrong d 4 (nI t) x1 = some x2 := e2
      have nb2 := r_number (d := d) hs hN hr (zTkR_5 tk1 (zF56 f2)) s.2.2.1 q2 (zNmR_f hn1 f2 ⟨by omega, by omega⟩) hp
      rw [e2, Option.bind_some, nb2, Option.bind_some] at e
      refine ⟨_, x2, e, zFr_t (zF3_5 f1) (zF56 f2), zRst_56 (A := .inr (t + 1)) s1 f2, fun t' z => ?_⟩
      have : t + 1 = t' + 1 := Sum.inr.inj z
      have : t' = t := by omega
      subst this
      rw [ho]
      exact ⟨rfl, L2⟩
    | some j =>
      have jb := zfn_lt ho
      rw [ho, if_pos (show (0 : Int32) ≤ zfi (some j) from nI_pos' (by omega)), nb, Option.bind_some] at e
      refine ⟨_, x1, e, zF3_5 f1, s1, fun t' z => ?_⟩
      have : t + 1 = t' + 1 := Sum.inr.inj z
      have : t' = t := by omega
      subst this
      rw [ho]
      exact ⟨rfl, L1⟩
/-- a person's end -/
noncomputable def zPe (d : Nat) (y1 : Int32) (m : MzM) : Option MzM := (R_X12_must d 4 m).bind (fun m13 => if (mz_rd m13 239 13) ≤ 0 then (mz_g (mz_ok (mz_rd m13 239 19) 2) (mz_g (mz_ok y1 403) (mz_g (mz_ok (mz_rd m13 248 ((mz_rd m13 239 19) : Int32).toNatClampNeg) 6) (mz_g (mz_ok (mz_rd (mz_wl m13 247 ((mz_rd m13 248 ((mz_rd m13 239 19) : Int32).toNatClampNeg) : Int32).toNatClampNeg (mz_rl m13 245 (y1 : Int32).toNatClampNeg)) 239 19) 2) (mz_g (mz_ok (mz_rd (mz_wl m13 247 ((mz_rd m13 248 ((mz_rd m13 239 19) : Int32).toNatClampNeg) : Int32).toNatClampNeg (mz_rl m13 245 (y1 : Int32).toNatClampNeg)) 239 19) 2) (some (mz_wr (mz_wl m13 247 ((mz_rd m13 248 ((mz_rd m13 239 19) : Int32).toNatClampNeg) : Int32).toNatClampNeg (mz_rl m13 245 (y1 : Int32).toNatClampNeg)) 248 ((mz_rd (mz_wl m13 247 ((mz_rd m13 248 ((mz_rd m13 239 19) : Int32).toNatClampNeg) : Int32).toNatClampNeg (mz_rl m13 245 (y1 : Int32).toNatClampNeg)) 239 19) : Int32).toNatClampNeg ((mz_rd (mz_wl m13 247 ((mz_rd m13 248 ((mz_rd m13 239 19) : Int32).toNatClampNeg) : Int32).toNatClampNeg (mz_rl m13 245 (y1 : Int32).toNatClampNeg)) 248 ((mz_rd (mz_wl m13 247 ((mz_rd m13 248 ((mz_rd m13 239 19) : Int32).toNatClampNeg) : Int32).toNatClampNeg (mz_rl m13 245 (y1 : Int32).toNatClampNeg)) 239 19) : Int32).toNatClampNeg) + 1)))))))) else some m13)
theorem r_ints {y : Int32} {np : Nat} (hs : sd < 2) (hpm : zPM pl N) (hp : np < 6) : ∀ (n j : Nat) (x : MzM) (A : ZA) (LF : Nat × Nat), j + n = 4 → zTkR kd vl nr pl N x → zRst pl N x (zn A) → (∀ t, zn A = .inr t → zLFr pl x LF ∧ zLok kd t LF) → mz_rd x 239 19 = nI sd → mz_rd x 248 sd = nI np → ∃ x', H_X12_tellPerson_33 d y (nI j) x = zPe d y x' ∧ zFr (fun a i => zF5 a i ∨ (a = 249 ∧ 24 * sd + 4 * np + j ≤ i ∧ i < 24 * sd + 4 * np + 4)) x x' ∧ zRst pl N x' (zn (zit kd n A)) ∧ ∀ t', zn (zit kd n A) = .inr t' → ∃ t, A = .inr t ∧ t' = t + n ∧ (∀ i, i < n → mz_rd x' 249 (24 * sd + 4 * np + j + i) = nI (vl (t + i))) ∧ zLFr pl x' (zlfs vl 0 99 n t LF) := by
  intro n
  induction n with
  | zero =>
    intro j x A LF e tk s hl h19 h8
    refine ⟨x, ?_, zFr_r, s, fun t' z => ⟨t', (zn_ir z).1, rfl, fun i hi => absurd hi (by omega), (hl t' z).1⟩⟩
    rw [H_X12_tellPerson_33_eq, if_pos (show (4 : Int32) ≤ nI j from nI_le (a := 4) (by omega) (by omega))]
    rfl
  | succ n ih =>
    intro j x A LF e tk s hl h19 h8
    obtain ⟨v, x1, e1, f1, s1, p1⟩ := r_int (d := d) (lo := 0) (hi := 99) hpm tk s hl (by omega) (by omega)
    have e1 : R_X12_bounded d 0 99 x = some (v, x1) := e1
    obtain ⟨x2, hx⟩ : ∃ q : MzM, q = mz_wr x1 249 (24 * sd + 4 * np + j) v := ⟨_, rfl⟩
    have F2 : zFr (fun a i => a = 249 ∧ i = 24 * sd + 4 * np + j) x1 x2 := by rw [hx]; exact zFr_w ⟨rfl, rfl⟩
    have tk2 : zTkR kd vl nr pl N x2 := zTkR_f (zTkR_5 tk f1) F2 (fun a i z => by omega)
    obtain ⟨x3, e3, f3, s3, p3⟩ := ih (j + 1) x2 (zex kd 3 A) (match A with | .inr t => zli vl 0 99 t LF | .inl _ => LF) (by omega) tk2 (zRst_0 s1 F2 (fun a i z => by omega)) (fun t' z => by
      obtain ⟨h1, h2⟩ := zn_ir z
      obtain ⟨t, q1, q2, q3⟩ := zex_r h1
      subst q1
      subst q3
      have L := (p1 t z).2
      have ok := (hl t (zn_r (by omega))).2
      exact ⟨⟨(F2.1 _ _ (by omega)).trans L.1, L.2.1, fun w => (F2.1 _ _ (by omega)).trans (L.2.2 w)⟩, zli_ok ok (by omega)⟩) (by rw [F2.1 _ _ (by omega), f1.1 _ _ (by unfold zF5; omega)]; exact h19) (by rw [F2.1 _ _ (by omega), f1.1 _ _ (by unfold zF5; omega)]; exact h8)
    refine ⟨x3, ?_, zFr_t (zFr_m f1 (fun a i z => Or.inl z)) (zFr_t (zFr_m F2 (fun a i z => Or.inr (by omega))) (zFr_m f3 (fun a i z => by
      rcases z with z | z
      · exact Or.inl z
      · exact Or.inr (by omega)))), s3, fun t' z => ?_⟩
    · have ix : (24 : Int32) * nI sd + (4 : Int32) * nI np + nI j = nI (24 * sd + 4 * np + j) := by
        rw [show (24 : Int32) * nI sd = nI (24 * sd) from pk_mul 24 sd, show (4 : Int32) * nI np = nI (4 * np) from pk_mul 4 np, nI_add, nI_add]
      rw [H_X12_tellPerson_33_eq, if_neg (show ¬ (4 : Int32) ≤ nI j from nI_ge (b := 4) (by omega) (by omega)), h19, n_ok (by omega), n_gd (by omega), nI_clamp (by omega), h8, e1, Option.bind_some]
      dsimp only
      rw [ix, n_ok (by omega), n_gd (by omega), nI_clamp (by omega), nI_1, ← hx]
      exact e3
    · obtain ⟨t1, q1, q2, q3, q4⟩ := p3 t' z
      obtain ⟨t, r1, r2, r3⟩ := zex_r q1
      subst r1
      subst r3
      have t4 : t + 1 ≤ 400 := by have := (zn_ir z).2; omega
      have z1 : zn (zex kd 3 (.inr t)) = .inr (t + 1) := by rw [q1]; exact zn_r t4
      refine ⟨t, rfl, by omega, fun i hi => ?_, q4⟩
      match i with
      | 0 =>
        show mz_rd x3 249 (24 * sd + 4 * np + j + 0) = nI (vl (t + 0))
        rw [f3.1 249 _ (by unfold zF5; omega), hx, Nat.add_zero, m_eq]
        exact (p1 t z1).1
      | i + 1 =>
        have := q3 i (by omega)
        rw [show 24 * sd + 4 * np + (j + 1) + i = 24 * sd + 4 * np + j + (i + 1) by omega, show t + 1 + i = t + (i + 1) by omega] at this
        exact this
end ZRtell
