/-! obligations over pairs: likest, best, foes -/
def zFP (a i : Nat) : Prop := a = 274 ∨ (a = 239 ∧ i = 54)
theorem zFP_Q {m m' : MzM} (f : zFr zFP m m') : zFr zRQ m m' := zFr_m f (fun a i z => by unfold zFP at z; unfold zRQ; omega)
/-- the pairs are filled in -/
def zPF (np : Nat) (m : MzM) : Prop := mz_rd m 239 54 = nI (zprs np).length ∧ ∀ k a b, (zprs np)[k]? = some (a, b) → mz_rd m 274 k = nI (10 * a + b)
theorem zPF_f {np : Nat} {m m' : MzM} (h : zPF np m) (g : ∀ a i, zFP a i → mz_rd m' a i = mz_rd m a i) : zPF np m' := ⟨(g _ _ (Or.inr ⟨rfl, rfl⟩)).trans h.1, fun k a b e => (g _ _ (Or.inl rfl)).trans (h.2 k a b e)⟩
theorem zget_lt {α : Type} {l : List α} {k : Nat} {x : α} (h : l[k]? = some x) : k < l.length := by
  rcases Nat.lt_or_ge k l.length with c | c
  · exact c
  · rw [List.getElem?_eq_none c] at h
    cases h
theorem r_pairs {T : ZT} {lv d : Nat} {m : MzM} (hT : zTR T lv m) : ∃ m', R_X12_fillsPairs d m = some m' ∧ zFr zFP m m' ∧ zPF (tN T) m' := by
  have h6 := hT.1.1
  rw [R_X12_fillsPairs_eq]
  have key := zlpP (tN T) h6 (fun a (x : MzM) => H_X12_fillsPairs_7 d (nI a) x) (fun a b (x : MzM) => H_X12_fillsPairs_24 d (nI a) (nI b) x) (fun r => zFr zFP m r ∧ zPF (tN T) r) (fun k x => zFr zFP m x ∧ mz_rd x 239 54 = nI k ∧ ∀ j a b, j < k → (zprs (tN T))[j]? = some (a, b) → mz_rd x 274 j = nI (10 * a + b)) ?_ ?_ ?_ ?_ (mz_wr m 239 54 0) ⟨zFr_w (Or.inr ⟨rfl, rfl⟩), m_eq, fun j a b hj => by omega⟩
  · exact key
  · rintro a k x ha ⟨F, -⟩
    obtain ⟨-, l2, l3, l4, -⟩ := zTR_Q hT (zFP_Q F)
    show H_X12_fillsPairs_7 d (nI a) x = H_X12_fillsPairs_24 d (nI a) (nI (a + 1)) x
    rw [H_X12_fillsPairs_7_eq, l3, n_ok (by omega), n_gd l2, nI_clamp (by omega), l4, if_neg (nI_ge ha (by omega)), nI_1]
  · rintro a k x ha ⟨F, -⟩
    obtain ⟨-, l2, l3, l4, -⟩ := zTR_Q hT (zFP_Q F)
    show H_X12_fillsPairs_24 d (nI a) (nI (tN T)) x = H_X12_fillsPairs_7 d (nI (a + 1)) x
    rw [H_X12_fillsPairs_24_eq, l3, n_ok (by omega), n_gd l2, nI_clamp (by omega), l4, if_pos (nI_le (Nat.le_refl _) (by omega)), nI_1]
  · rintro a b k x hab hb hk ⟨F, K, P⟩
    left
    obtain ⟨-, l2, l3, l4, -⟩ := zTR_Q hT (zFP_Q F)
    have k15 := zget_lt hk
    have l15 := zprs_len h6
    show ∃ y, (zFr zFP m y ∧ mz_rd y 239 54 = nI (k + 1) ∧ ∀ j a b, j < k + 1 → (zprs (tN T))[j]? = some (a, b) → mz_rd y 274 j = nI (10 * a + b)) ∧ H_X12_fillsPairs_24 d (nI a) (nI b) x = H_X12_fillsPairs_24 d (nI a) (nI (b + 1)) y
    rw [H_X12_fillsPairs_24_eq, l3, n_ok (by omega), n_gd l2, nI_clamp (by omega), l4, if_neg (nI_ge hb (by omega)), K, n_ok (by omega), n_gd (by omega), nI_clamp (by omega), m_ne (show 239 ≠ 274 by omega), K, nI_1, nI_1, z_mul10, nI_add]
    refine ⟨_, ⟨zFr_w2 (zFr_w2 F (Or.inl rfl)) (Or.inr ⟨rfl, rfl⟩), m_eq, ?_⟩, rfl⟩
    intro j c e hj hje
    rw [m_ne (by omega)]
    by_cases q : j = k
    · subst q
      rw [hk] at hje
      cases hje
      exact m_eq
    · rw [m_ni q]
      exact P j c e (by omega) hje
  · rintro x ⟨F, K, P⟩
    obtain ⟨-, l2, l3, l4, -⟩ := zTR_Q hT (zFP_Q F)
    show ∃ r, H_X12_fillsPairs_7 d (nI (tN T)) x = some r ∧ _
    rw [H_X12_fillsPairs_7_eq, l3, n_ok (by omega), n_gd l2, nI_clamp (by omega), l4, if_pos (nI_le (Nat.le_refl _) (by omega))]
    exact ⟨_, rfl, F, K, fun k a b e => P k a b (zget_lt e) e⟩
theorem z_ten {a b : Nat} (ha : a < 6) (hb : b < 6) : nI (10 * a + b) / 10 = nI a ∧ nI (10 * a + b) - nI (10 * a + b) / 10 * 10 = nI b := by
  have e1 : nI (10 * a + b) / 10 = nI ((10 * a + b) / 10) := pk_div (d := 10) (by omega) (by omega) (by omega)
  have e2 : nI (10 * a + b) - nI (10 * a + b) / 10 * 10 = nI ((10 * a + b) % 10) := pk_rem (d := 10) (by omega) (by omega) (by omega)
  exact ⟨by rw [e1, show (10 * a + b) / 10 = a by omega], by rw [e2, show (10 * a + b) % 10 = b by omega]⟩
def zpc (np k : Nat) : Nat := match (zprs np)[k]? with
  | some (a, b) => 10 * a + b
  | none => 0
def zpv (f : Nat → Nat → Nat) (np k : Nat) : Nat := match (zprs np)[k]? with
  | some (a, b) => f a b
  | none => 0
theorem zpc_e {np k a b : Nat} (h : (zprs np)[k]? = some (a, b)) : zpc np k = 10 * a + b := by unfold zpc; rw [h]
theorem zpv_e {f : Nat → Nat → Nat} {np k a b : Nat} (h : (zprs np)[k]? = some (a, b)) : zpv f np k = f a b := by unfold zpv; rw [h]
theorem zpc_b {np k : Nat} (hn : np ≤ 6) : zpc np k ≤ 100 := by
  unfold zpc
  split
  · rename_i a b e
    have := zprs_in hn e
    omega
  · omega
theorem zpv_b {f : Nat → Nat → Nat} {np k B : Nat} (hn : np ≤ 6) (h : ∀ a b, a < b → b < np → f a b ≤ B) : zpv f np k ≤ B := by
  unfold zpv
  split
  · rename_i a b e
    have := zprs_in hn e
    exact h a b this.1 this.2
  · omega
theorem zap_B {np B a b : Nat} {v : Nat → Nat} (h : zB np B v) (ha : a < np) (hb : b < np) : zap v a b ≤ 4 * B := by
  have h0 := (zmo_le h ha hb 4 (by omega)).2 0 (by omega)
  have h1 := (zmo_le h ha hb 4 (by omega)).2 1 (by omega)
  have h2 := (zmo_le h ha hb 4 (by omega)).2 2 (by omega)
  have h3 := (zmo_le h ha hb 4 (by omega)).2 3 (by omega)
  unfold zap
  omega
theorem zcnt_B (T : ZT) (v : Nat → Nat) : ∀ (l : List (Nat × Nat)), zcnt T v l ≤ l.length := by
  have key : ∀ (l : List (Nat × Nat)) (k : Nat), l.foldl (fun n q => if zq T v q.1 q.2 = true then n + 1 else n) k ≤ k + l.length := by
    intro l
    induction l with
    | nil => intro k; simp
    | cons x l ih =>
      intro k
      simp only [List.foldl_cons, List.length_cons]
      have h1 := ih (if zq T v x.1 x.2 = true then k + 1 else k)
      split at h1
      · rename_i c; rw [if_pos c]; omega
      · rename_i c; rw [if_neg c]; omega
  intro l
  have := key l 0
  unfold zcnt
  omega
abbrev zAp (T : ZT) (v : Nat → Nat) (k : Nat) : Option (Nat × Nat) := zarg zltB (zpc (tN T)) (zpv (zap v) (tN T)) k
theorem o_likest : mz_o_likest zI := by
  intro n m a1 hn hI
  obtain ⟨T, lv, v, h⟩ := id hI
  obtain ⟨h1, h2, h3, h4, h5, -⟩ := h
  have h6 := h1.1.1
  have hb := zBn_3 hn
  have x1 := R_X11_likest_eq 8 a1 m
  have x2 := R_X12_likest_eq 8 a1 m
  rw [c_is01, Option.bind_some] at x1
  rw [r_in (n := 2) (by omega) (by decide), Option.bind_some] at x2
  dsimp only at x1 x2
  have b1 : ∀ k j, j < k + 1 → zpc (tN T) j ≤ 2 ^ 30 := fun k j _ => by have := zpc_b (k := j) h6; omega
  have b2 : ∀ k j, j < k + 1 → zpv (zap v) (tN T) j ≤ 2 ^ 30 := fun k j _ => by
    have := zpv_b (f := zap v) (k := j) (B := 4 * zBn n) h6 (fun a b hab hb => zap_B h5 (by omega) hb)
    omega
  cases c2 : zIsP 2 a1 with
  | false =>
    rw [c2, zb_f1] at x1 x2
    exact ⟨_, _, _, x1, x2, zI_q hn hI zFr_r zFr_r⟩
  | true =>
    rw [c2, zb_t1] at x1 x2
    have cl : ∃ r, H_X11_likest_18 8 a1 (-2) (-2) (nI 0) m = some r ∧ r = (if ¬ a1 = 0 then zo2 (zAp T v (zprs (tN T)).length) else zo1 (zAp T v (zprs (tN T)).length), m) := by
      refine zlpP (tN T) h6 (fun a (x : Int32 × Int32) => H_X11_likest_18 8 a1 x.1 x.2 (nI a) m) (fun a b (x : Int32 × Int32) => H_X11_likest_36 8 a1 x.1 x.2 (nI a) (nI b) m) (fun r => r = (if ¬ a1 = 0 then zo2 (zAp T v (zprs (tN T)).length) else zo1 (zAp T v (zprs (tN T)).length), m)) (fun k x => x = (zo1 (zAp T v k), zo2 (zAp T v k))) ?_ ?_ ?_ ?_ (-2, -2) rfl
      · rintro a k ⟨y, z⟩ ha -
        show H_X11_likest_18 8 a1 y z (nI a) m = H_X11_likest_36 8 a1 y z (nI a) (nI (a + 1)) m
        rw [H_X11_likest_18_eq, h1.2.1, if_neg (nI_ge ha (by omega)), nI_1]
      · rintro a k ⟨y, z⟩ ha -
        show H_X11_likest_36 8 a1 y z (nI a) (nI (tN T)) m = H_X11_likest_18 8 a1 y z (nI (a + 1)) m
        rw [H_X11_likest_36_eq, h1.2.1, if_pos (nI_le (Nat.le_refl _) (by omega)), nI_1]
      · rintro a b k x hab hbn hk rfl
        left
        refine ⟨_, rfl, ?_⟩
        show H_X11_likest_36 8 a1 (zo1 (zAp T v k)) (zo2 (zAp T v k)) (nI a) (nI b) m = H_X11_likest_36 8 a1 (zo1 (zAp T v (k + 1))) (zo2 (zAp T v (k + 1))) (nI a) (nI (b + 1)) m
        rw [H_X11_likest_36_eq, h1.2.1, if_neg (nI_ge hbn (by omega)), c_apart z_s29 h3 h6 h5 (show a < tN T by omega) hbn, Option.bind_some]
        dsimp only
        rw [nI_1, z_mul10, nI_add, ← zpc_e hk, ← zpv_e (f := zap v) hk]
        exact zarg_c (fun u w => H_X11_likest_36 8 a1 u w (nI a) (nI (b + 1)) m) (b1 k) (b2 k)
      · rintro x rfl
        show ∃ r, H_X11_likest_18 8 a1 _ _ (nI (tN T)) m = some r ∧ _
        rw [H_X11_likest_18_eq, h1.2.1, if_pos (nI_le (Nat.le_refl _) (by omega))]
        by_cases q : a1 = 0
        · rw [if_neg (fun z => z q), if_neg (fun z => z q)]; exact ⟨_, rfl, rfl⟩
        · rw [if_pos q, if_pos q]; exact ⟨_, rfl, rfl⟩
    obtain ⟨r1, e1, rfl⟩ := cl
    have e1' : H_X11_likest_18 8 a1 (-2) (-2) 0 m = _ := e1
    rw [e1'] at x1
    obtain ⟨m2, e2, f2, g2, -, -⟩ := r_copies (d := 8) h2 h4
    have t2 := zTR_C h2 f2
    obtain ⟨m3, e3, f3, p3⟩ := r_pairs (d := 8) t2
    have g3 : zRA (tN T) m3 271 v := zRA_f g2 (fun i => f3.1 271 i (by unfold zFP; omega))
    have l15 := zprs_len h6
    have rl : ∃ r, H_X12_likest_28 8 a1 (zo1 (zAp T v 0)) (zo2 (zAp T v 0)) (nI 0) m3 = some r ∧ r = (if ¬ a1 = 0 then zo2 (zAp T v (zprs (tN T)).length) else zo1 (zAp T v (zprs (tN T)).length), m3) := by
      refine zlp (fun k (_ : Unit) => H_X12_likest_28 8 a1 (zo1 (zAp T v k)) (zo2 (zAp T v k)) (nI k) m3) (fun r => r = (if ¬ a1 = 0 then zo2 (zAp T v (zprs (tN T)).length) else zo1 (zAp T v (zprs (tN T)).length), m3)) (fun _ _ => True) (zprs (tN T)).length ?_ ?_ 0 () (by omega) trivial
      · intro k _ hk _
        left
        refine ⟨(), trivial, ?_⟩
        rcases hq : (zprs (tN T))[k] with ⟨a, b⟩
        have hk2 : (zprs (tN T))[k]? = some (a, b) := by rw [List.getElem?_eq_getElem hk, hq]
        obtain ⟨hab, hbn⟩ := zprs_in h6 hk2
        obtain ⟨q1, q2⟩ := z_ten (a := a) (b := b) (by omega) (by omega)
        show H_X12_likest_28 8 a1 (zo1 (zAp T v k)) (zo2 (zAp T v k)) (nI k) m3 = H_X12_likest_28 8 a1 (zo1 (zAp T v (k + 1))) (zo2 (zAp T v (k + 1))) (nI (k + 1)) m3
        rw [H_X12_likest_28_eq, p3.1, if_neg (nI_ge hk (by omega)), n_ok (by omega), n_gd (by omega), n_gd (by omega), nI_clamp (by omega), p3.2 k a b hk2, q2, q1, r_apart g3 h6 h5 (show a < tN T by omega) hbn, Option.bind_some]
        dsimp only
        rw [n_gd (by omega), p3.2 k a b hk2, nI_1, ← zpc_e hk2, ← zpv_e (f := zap v) hk2]
        exact zarg_r (fun u w => H_X12_likest_28 8 a1 u w (nI (k + 1)) m3) (b1 k) (b2 k)
      · intro _ _
        show ∃ r, H_X12_likest_28 8 a1 _ _ (nI (zprs (tN T)).length) m3 = some r ∧ _
        rw [H_X12_likest_28_eq, p3.1, if_pos (nI_le (Nat.le_refl _) (by omega))]
        by_cases q : a1 = 0
        · rw [if_neg (fun z => z q), if_neg (fun z => z q)]; exact ⟨_, rfl, rfl⟩
        · rw [if_pos q, if_pos q]; exact ⟨_, rfl, rfl⟩
    obtain ⟨r2, e4, rfl⟩ := rl
    have e4' : H_X12_likest_28 8 a1 (-2) (-2) 0 m3 = _ := e4
    rw [e2, Option.bind_some, e3, Option.bind_some, e4'] at x2
    exact ⟨_, _, _, x1, x2, zI_q hn hI zFr_r (zFr_t (zRC_Q f2) (zFP_Q f3))⟩
abbrev zBe (T : ZT) (v : Nat → Nat) (k : Nat) : Option (Nat × Nat) := zarg zltB (zpc (tN T)) (zpv (fun a b => zcnt T (zturn T v a b) (zprs (tN T))) (tN T)) k
theorem o_best : mz_o_best zI := by
  intro n m a1 hn hI
  obtain ⟨T, lv, v, h⟩ := id hI
  obtain ⟨h1, h2, h3, h4, h5, -⟩ := h
  have h6 := h1.1.1
  have hb := zBn_3 hn
  have l15 := zprs_len h6
  have x1 := R_X11_best_eq 8 a1 m
  have x2 := fun mm => R_X12_best_eq 8 a1 mm
  rw [c_is01, Option.bind_some] at x1
  dsimp only at x1
  have b1 : ∀ k j, j < k + 1 → zpc (tN T) j ≤ 2 ^ 30 := fun k j _ => by have := zpc_b (k := j) h6; omega
  have b2 : ∀ k j, j < k + 1 → zpv (fun a b => zcnt T (zturn T v a b) (zprs (tN T))) (tN T) j ≤ 2 ^ 30 := fun k j _ => by
    have := zpv_b (f := fun a b => zcnt T (zturn T v a b) (zprs (tN T))) (k := j) (B := 15) h6 (fun a b hab hb => by have := zcnt_B T (zturn T v a b) (zprs (tN T)); show zcnt T (zturn T v a b) (zprs (tN T)) ≤ 15; omega)
    omega
  cases c2 : zIsP 2 a1 with
  | false =>
    rw [c2, zb_f1] at x1
    have x3 := x2 m
    rw [r_in (n := 2) (by omega) (by decide), c2, Option.bind_some] at x3
    exact ⟨_, _, _, x1, x3, zI_q hn hI zFr_r zFr_r⟩
  | true =>
    rw [c2, zb_t1] at x1
    have cl : ∃ r, H_X11_best_18 8 a1 (-2) (-2) (nI 0) m = some r ∧ r.1 = (if ¬ a1 = 0 then zo2 (zBe T v (zprs (tN T)).length) else zo1 (zBe T v (zprs (tN T)).length)) ∧ zFr (zES 33) m r.2 := by
      refine zlpP (tN T) h6 (fun a (x : Int32 × Int32 × MzM) => H_X11_best_18 8 a1 x.1 x.2.1 (nI a) x.2.2) (fun a b (x : Int32 × Int32 × MzM) => H_X11_best_36 8 a1 x.1 x.2.1 (nI a) (nI b) x.2.2) (fun r => r.1 = (if ¬ a1 = 0 then zo2 (zBe T v (zprs (tN T)).length) else zo1 (zBe T v (zprs (tN T)).length)) ∧ zFr (zES 33) m r.2) (fun k x => x.1 = zo1 (zBe T v k) ∧ x.2.1 = zo2 (zBe T v k) ∧ zFr (zES 33) m x.2.2) ?_ ?_ ?_ ?_ (-2, -2, m) ⟨rfl, rfl, zFr_r⟩
      · rintro a k ⟨y, z, x⟩ ha ⟨-, -, F⟩
        show H_X11_best_18 8 a1 y z (nI a) x = H_X11_best_36 8 a1 y z (nI a) (nI (a + 1)) x
        rw [H_X11_best_18_eq, (zTC_S h1 z_s33 F).2.1, if_neg (nI_ge ha (by omega)), nI_1]
      · rintro a k ⟨y, z, x⟩ ha ⟨-, -, F⟩
        show H_X11_best_36 8 a1 y z (nI a) (nI (tN T)) x = H_X11_best_18 8 a1 y z (nI (a + 1)) x
        rw [H_X11_best_36_eq, (zTC_S h1 z_s33 F).2.1, if_pos (nI_le (Nat.le_refl _) (by omega)), nI_1]
      · rintro a b k ⟨y, z, x⟩ hab hbn hk ⟨rfl, rfl, F⟩
        left
        have Tx := zTC_S h1 z_s33 F
        have ha : a < tN T := by omega
        obtain ⟨m1, e1, f1, g1⟩ := c_copy (d := 8) z_s33 z_s29 (by omega) (zSC_S h3 z_s29 z_s33 (by omega) F)
        have T1 := zTC_S Tx z_s33 (zS_Q f1)
        obtain ⟨m2, e2, f2, g2⟩ := c_putThrough (d := 8) T1 z_s33 g1 h5 ha hbn (by omega)
        obtain ⟨m3, e3, f3⟩ := c_quarrels (d := 8) (zTC_S T1 z_s33 f2) z_s33 g2 (zturn_B h5 h6 ha hbn (by omega))
        refine ⟨(_, _, m3), ⟨rfl, rfl, zFr_t F (zFr_t (zS_Q f1) (zFr_t f2 (zE_S f3)))⟩, ?_⟩
        show H_X11_best_36 8 a1 (zo1 (zBe T v k)) (zo2 (zBe T v k)) (nI a) (nI b) x = H_X11_best_36 8 a1 (zo1 (zBe T v (k + 1))) (zo2 (zBe T v (k + 1))) (nI a) (nI (b + 1)) m3
        rw [H_X11_best_36_eq, Tx.2.1, if_neg (nI_ge hbn (by omega)), R_X11_quarrelsBehind_eq, e1, Option.bind_some, e2, Option.bind_some, e3, Option.bind_some, Option.bind_some]
        dsimp only
        have ev : zcnt T (zturn T v a b) (zprs (tN T)) = zpv (fun a b => zcnt T (zturn T v a b) (zprs (tN T))) (tN T) k := (zpv_e (f := fun a b => zcnt T (zturn T v a b) (zprs (tN T))) hk).symm
        rw [nI_1, z_mul10, nI_add, ← zpc_e hk, ev]
        exact zarg_c (fun u w => H_X11_best_36 8 a1 u w (nI a) (nI (b + 1)) m3) (b1 k) (b2 k)
      · rintro ⟨y, z, x⟩ ⟨rfl, rfl, F⟩
        show ∃ r, H_X11_best_18 8 a1 _ _ (nI (tN T)) x = some r ∧ _
        rw [H_X11_best_18_eq, (zTC_S h1 z_s33 F).2.1, if_pos (nI_le (Nat.le_refl _) (by omega))]
        by_cases q : a1 = 0
        · rw [if_neg (fun z => z q), if_neg (fun z => z q)]; exact ⟨_, rfl, rfl, F⟩
        · rw [if_pos q, if_pos q]; exact ⟨_, rfl, rfl, F⟩
    obtain ⟨⟨r1, m1⟩, e1, rfl, f1⟩ := cl
    have e1' : H_X11_best_18 8 a1 (-2) (-2) 0 m = _ := e1
    rw [e1'] at x1
    have f1 := zT_Q f1
    have t1 := zTR_q h2 f1
    obtain ⟨m3, e3, f3, p3⟩ := r_pairs (d := 8) t1
    have t3 := zTR_Q t1 (zFP_Q f3)
    have N3 := zRA_Q (zRA_q h4 f1) (zFP_Q f3)
    have rl : ∃ r, H_X12_best_24 8 a1 (zo1 (zBe T v 0)) (zo2 (zBe T v 0)) (nI 0) m3 = some r ∧ r.1 = (if ¬ a1 = 0 then zo2 (zBe T v (zprs (tN T)).length) else zo1 (zBe T v (zprs (tN T)).length)) ∧ zFr zRQ m3 r.2 := by
      refine zlp (fun k (x : MzM) => H_X12_best_24 8 a1 (zo1 (zBe T v k)) (zo2 (zBe T v k)) (nI k) x) (fun r => r.1 = (if ¬ a1 = 0 then zo2 (zBe T v (zprs (tN T)).length) else zo1 (zBe T v (zprs (tN T)).length)) ∧ zFr zRQ m3 r.2) (fun _ x => zFr zRQ m3 x ∧ zPF (tN T) x) (zprs (tN T)).length ?_ ?_ 0 m3 (by omega) ⟨zFr_r, p3⟩
      · rintro k x hk ⟨F, P⟩
        left
        have Tx := zTR_Q t3 F
        rcases hq : (zprs (tN T))[k] with ⟨a, b⟩
        have hk2 : (zprs (tN T))[k]? = some (a, b) := by rw [List.getElem?_eq_getElem hk, hq]
        obtain ⟨hab, hbn⟩ := zprs_in h6 hk2
        have ha : a < tN T := by omega
        obtain ⟨q1, q2⟩ := z_ten (a := a) (b := b) (by omega) (by omega)
        obtain ⟨m4, e4, f4, g4, -, -⟩ := r_copies (d := 8) Tx (zRA_Q N3 F)
        have T4 := zTR_C Tx f4
        have P4 : zPF (tN T) m4 := zPF_f P (fun a i z => f4.1 a i (by unfold zRC; unfold zFP at z; omega))
        obtain ⟨m5, e5, f5, g5⟩ := r_turn (d := 8) T4 g4 h5 ha hbn (by omega)
        have P5 : zPF (tN T) m5 := zPF_f P4 (fun a i z => f5.1 a i (by unfold zRT; unfold zFP at z; omega))
        obtain ⟨m6, e6, f6⟩ := r_quarrels (d := 8) (zTR_T T4 f5) g5 (zturn_B h5 h6 ha hbn (by omega))
        have P6 : zPF (tN T) m6 := zPF_f P5 (fun a i z => f6.1 a i (by unfold zRE; unfold zFP at z; omega))
        refine ⟨m6, ⟨zFr_t F (zFr_t (zRC_Q f4) (zFr_t (zR_Q f5) (zR_QE f6))), P6⟩, ?_⟩
        show H_X12_best_24 8 a1 (zo1 (zBe T v k)) (zo2 (zBe T v k)) (nI k) x = H_X12_best_24 8 a1 (zo1 (zBe T v (k + 1))) (zo2 (zBe T v (k + 1))) (nI (k + 1)) m6
        rw [H_X12_best_24_eq, P.1, if_neg (nI_ge hk (by omega)), e4, Option.bind_some, n_ok (by omega), n_gd (by omega), nI_clamp (by omega), P4.2 k a b hk2, R_X12_turnsPair_eq, q2, q1, e5, Option.bind_some, Option.bind_some, e6, Option.bind_some]
        dsimp only
        have ev : zcnt T (zturn T v a b) (zprs (tN T)) = zpv (fun a b => zcnt T (zturn T v a b) (zprs (tN T))) (tN T) k := (zpv_e (f := fun a b => zcnt T (zturn T v a b) (zprs (tN T))) hk2).symm
        rw [n_gd (by omega), P6.2 k a b hk2, nI_1, ← zpc_e hk2, ev]
        exact zarg_r (fun u w => H_X12_best_24 8 a1 u w (nI (k + 1)) m6) (b1 k) (b2 k)
      · rintro x ⟨F, P⟩
        show ∃ r, H_X12_best_24 8 a1 _ _ (nI (zprs (tN T)).length) x = some r ∧ _
        rw [H_X12_best_24_eq, P.1, if_pos (nI_le (Nat.le_refl _) (by omega))]
        by_cases q : a1 = 0
        · rw [if_neg (fun z => z q), if_neg (fun z => z q)]; exact ⟨_, rfl, rfl, F⟩
        · rw [if_pos q, if_pos q]; exact ⟨_, rfl, rfl, F⟩
    obtain ⟨⟨r2, m2⟩, e2, rfl, f2⟩ := rl
    have e2' : H_X12_best_24 8 a1 (-2) (-2) 0 m3 = _ := e2
    have x3 := x2 m1
    rw [r_in (n := 2) (by omega) (by decide), c2, Option.bind_some] at x3
    dsimp only at x3
    rw [zb_t1, e3, Option.bind_some, e2'] at x3
    exact ⟨_, _, _, x1, x3, zI_q hn hI f1 (zFr_t (zFP_Q f3) f2)⟩
