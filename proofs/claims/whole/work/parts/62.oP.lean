/-! obligations: two, ask -/
def zcn (P : Nat → Bool) : Nat → Nat
  | 0 => 0
  | k + 1 => if P k = true then zcn P k + 1 else zcn P k
theorem zcn_le (P : Nat → Bool) : ∀ k, zcn P k ≤ k := by
  intro k
  induction k with
  | zero => exact Nat.le_refl _
  | succ k ih => unfold zcn; split <;> omega
theorem zcn_mono (P : Nat → Bool) {j : Nat} : ∀ k, j ≤ k → zcn P j ≤ zcn P k := by
  intro k
  induction k with
  | zero => intro h; rw [show j = 0 by omega]; exact Nat.le_refl _
  | succ k ih =>
    intro h
    by_cases c : j = k + 1
    · rw [c]; exact Nat.le_refl _
    · have := ih (by omega)
      show zcn P j ≤ if P k = true then zcn P k + 1 else zcn P k
      split <;> omega
theorem zcn_e {P Q : Nat → Bool} : ∀ k, (∀ i, i < k → P i = Q i) → zcn P k = zcn Q k := by
  intro k
  induction k with
  | zero => intro _; rfl
  | succ k ih =>
    intro h
    show (if P k = true then zcn P k + 1 else zcn P k) = (if Q k = true then zcn Q k + 1 else zcn Q k)
    rw [ih (fun i hi => h i (by omega)), h k (by omega)]
theorem zpopN_mk (P : Nat → Bool) {n N : Nat} (h : n ≤ N) : zpopN (zmk P n) N = zcn P n := by
  have e1 : ∀ N, zpopN (zmk P n) N = zcn (fun k => decide (k < n) && P k) N := by
    intro N
    induction N with
    | zero => rfl
    | succ N ih =>
      show (if (zmk P n).testBit N = true then zpopN (zmk P n) N + 1 else zpopN (zmk P n) N) = (if (decide (N < n) && P N) = true then _ else _)
      rw [zmk_bit, ih]
  have e2 : ∀ N, n ≤ N → zcn (fun k => decide (k < n) && P k) N = zcn (fun k => decide (k < n) && P k) n := by
    intro N
    induction N with
    | zero => intro h; rw [show n = 0 by omega]
    | succ N ih =>
      intro h
      by_cases c : n = N + 1
      · rw [c]
      · rw [← ih (by omega)]
        show (if (decide (N < n) && P N) = true then _ else _) = _
        rw [decide_eq_false (by omega), Bool.false_and, if_neg (by decide)]
  rw [e1, e2 N h]
  exact zcn_e n (fun i hi => by rw [decide_eq_true hi, Bool.true_and])
/-- the one behind j of them -/
def zith (P : Nat → Bool) (n j : Nat) : Option Nat := (List.range n).find? fun k => P k && decide (zcn P k = j)
theorem zith_none {P : Nat → Bool} {n j : Nat} (h : zcn P n ≤ j) : zith P n j = none := by
  unfold zith
  rw [List.find?_eq_none]
  intro k hk hh
  have hk := List.mem_range.mp hk
  simp only [Bool.and_eq_true, decide_eq_true_eq] at hh
  have := zcn_mono P (j := k + 1) n (by omega)
  have e : zcn P (k + 1) = zcn P k + 1 := by
    show (if P k = true then zcn P k + 1 else zcn P k) = _
    rw [if_pos hh.1]
  omega
theorem zith_some {P : Nat → Bool} {j : Nat} : ∀ {n : Nat}, j < zcn P n → ∃ k, zith P n j = some k ∧ k < n := by
  intro n
  induction n with
  | zero => intro h; exact absurd h (by show ¬ j < 0; omega)
  | succ n ih =>
    intro h
    unfold zith
    rw [List.range_succ, List.find?_append]
    by_cases c : j < zcn P n
    · obtain ⟨k, e1, e2⟩ := ih c
      unfold zith at e1
      rw [e1]
      exact ⟨k, rfl, by omega⟩
    · have e1 := zith_none (P := P) (n := n) (j := j) (by omega)
      unfold zith at e1
      rw [e1]
      have q : P n = true := by
        cases hp : P n with
        | true => rfl
        | false =>
          have : zcn P (n + 1) = zcn P n := by
            show (if P n = true then zcn P n + 1 else zcn P n) = _
            rw [hp, if_neg (by decide)]
          omega
      have q2 : zcn P n = j := by
        have : zcn P (n + 1) = zcn P n + 1 := by
          show (if P n = true then zcn P n + 1 else zcn P n) = _
          rw [if_pos q]
        omega
      exact ⟨n, by simp [q, q2], by omega⟩
abbrev ZD : Type := Nat → Nat × Nat × Nat × Bool
def zftQ (T : ZT) (v : Nat → Nat) (D : ZD) (a b i : Nat) : Bool := decide ((D i).2.2.1 ≤ zturn T v a b (4 * (D i).1 + (D i).2.1)) == (D i).2.2.2
def zft (T : ZT) (v : Nat → Nat) (D : ZD) (k a b : Nat) : Bool := (List.range k).all (zftQ T v D a b)
theorem zft_s (T : ZT) (v : Nat → Nat) (D : ZD) (k a b : Nat) : zft T v D (k + 1) a b = (zft T v D k a b && zftQ T v D a b k) := by
  unfold zft
  rw [List.range_succ]
  simp
theorem zft_f {T : ZT} {v : Nat → Nat} {D : ZD} {k n a b : Nat} (hk : k < n) (h : zftQ T v D a b k = false) : zft T v D n a b = false := by
  unfold zft
  rw [List.all_eq_false]
  exact ⟨k, List.mem_range.mpr hk, by rw [h]; simp⟩
def zDok (np u : Nat) (D : ZD) (m : MzM) : Prop := mz_rd m 222 6 = nI u ∧ mz_rd m 239 62 = nI u ∧ u ≤ 20 ∧ ∀ j, j < u → zTold np m j (D j).1 (D j).2.1 (D j).2.2.1 (D j).2.2.2
theorem zDok_of {np : Nat} {m : MzM} (h : zTo np m) : ∃ u D, zDok np u D m := by
  obtain ⟨u, u1, u2, u3, u4⟩ := h
  have ch : ∀ j, ∃ q : Nat × Nat × Nat × Bool, j < u → zTold np m j q.1 q.2.1 q.2.2.1 q.2.2.2 := by
    intro j
    by_cases c : j < u
    · obtain ⟨p, t, x, so, y⟩ := u4 j c
      exact ⟨(p, t, x, so), fun _ => y⟩
    · exact ⟨(0, 0, 0, false), fun z => absurd z c⟩
  exact ⟨u, fun j => Classical.choose (ch j), u2, u3, u1, fun j hj => Classical.choose_spec (ch j) hj⟩
theorem zDok_f {np u : Nat} {D : ZD} {m m' : MzM} (h : zDok np u D m) (g : ∀ a i, zToG a i → mz_rd m' a i = mz_rd m a i) : zDok np u D m' := by
  obtain ⟨h1, h2, h3, h4⟩ := h
  refine ⟨(g _ _ (by unfold zToG; omega)).trans h1, (g _ _ (by unfold zToG; omega)).trans h2, h3, fun j hj => ?_⟩
  obtain ⟨q1, q2, q3, q4, q5, q6, q7, q8, q9, q10⟩ := h4 j hj
  exact ⟨q1, q2, q3, (g _ _ (by unfold zToG; omega)).trans q4, (g _ _ (by unfold zToG; omega)).trans q5, (g _ _ (by unfold zToG; omega)).trans q6, (g _ _ (by unfold zToG; omega)).trans q7, (g _ _ (by unfold zToG; omega)).trans q8, (g _ _ (by unfold zToG; omega)).trans q9, (g _ _ (by unfold zToG; omega)).trans q10⟩
def zPk (T : ZT) (v : Nat → Nat) (D : ZD) (kn k : Nat) : Bool := match (zprs (tN T))[k]? with
  | some (a, b) => zft T v D kn a b
  | none => false
theorem zPk_e {T : ZT} {v : Nat → Nat} {D : ZD} {kn k a b : Nat} (h : (zprs (tN T))[k]? = some (a, b)) : zPk T v D kn k = zft T v D kn a b := by unfold zPk; rw [h]
section ZTw
variable {T : ZT} {lv d B a b u : Nat} {m : MzM} {v : Nat → Nat} {D : ZD}
theorem c_ab (h1 : zTC T m) (h3 : zSC (tN T) m 29 v) (hB : zB (tN T) B v) (ha : a < tN T) (hb : b < tN T) (hab : a ≠ b) {p t : Nat} (hp : p < tN T) (ht : t < 4) : ∃ m', R_X10_amountBehind d 29 (nI a) (nI b) (nI p) (nI t) m = some (nI (zturn T v a b (4 * p + t)), m') ∧ zFr zE m m' := by
  have h6 := h1.1.1
  obtain ⟨m1, e1, f1⟩ := c_share (d := d) h1 z_s29 h3 hB ha hb hab ht
  have za := zturn_a (T := T) (v := v) (a := a) (b := b) (t := t) (by omega) (by omega) ht
  rw [R_X10_amountBehind_eq d 29 _ _ _ _ m z_s29]
  by_cases c1 : p = a
  · subst c1
    rw [if_pos rfl, e1, Option.bind_some, za.1]
    exact ⟨m1, rfl, f1⟩
  · rw [if_neg (fun z => c1 ((nI_eq (by omega) (by omega)).mp z))]
    by_cases c2 : p = b
    · subst c2
      rw [if_neg (fun z => z rfl), e1, Option.bind_some, za.2.1]
      exact ⟨m1, rfl, f1⟩
    · rw [if_pos (fun z => c2 ((nI_eq (by omega) (by omega)).mp z)), c_amount z_s29 h3 h6 hp ht, Option.bind_some, zturn_o (by omega) (by omega) (by omega) c1 c2 ht]
      exact ⟨m, rfl, zFr_r⟩
theorem zE_To {m m' : MzM} (f : zFr zE m m') : ∀ a i, zToG a i → mz_rd m' a i = mz_rd m a i := fun a i z => f.1 a i (by unfold zE; unfold zToG at z; omega)
theorem c_fits (h1 : zTC T m) (h3 : zSC (tN T) m 29 v) (hB : zB (tN T) B v) (hD : zDok (tN T) u D m) (ha : a < tN T) (hb : b < tN T) (hab : a ≠ b) {kn : Nat} (hk : kn ≤ u) : ∃ m', R_X10_fits d 29 (nI a) (nI b) (nI kn) m = some (zb (zft T v D kn a b), m') ∧ zFr zE m m' := by
  have h6 := h1.1.1
  have hB2 := hB.2.2.2
  have u20 := hD.2.2.1
  rw [R_X10_fits_eq d 29 _ _ _ m z_s29]
  have key := zlp (fun i x => H_X10_fits_3 d 29 (nI a) (nI b) (nI kn) (nI i) x) (fun r => r.1 = zb (zft T v D kn a b) ∧ zFr zE m r.2) (fun i x => zft T v D i a b = true ∧ zFr zE m x) kn ?_ ?_ 0 m (Nat.zero_le _) ⟨rfl, zFr_r⟩
  · obtain ⟨⟨r1, r2⟩, e, rfl, f⟩ := key
    exact ⟨r2, e, f⟩
  · rintro i x hi ⟨P, F⟩
    have Dx := zDok_f hD (zE_To F)
    obtain ⟨q1, q2, q3, q4, q5, q6, q7, -, -, -⟩ := Dx.2.2.2 i (by omega)
    obtain ⟨m1, e1, f1⟩ := c_ab (d := d) (zTC_E h1 F) (zSC_E h3 z_s29 F) hB ha hb hab q1 q2
    have D1 := zDok_f Dx (zE_To f1)
    obtain ⟨-, -, -, -, -, r6, r7, -, -, -⟩ := D1.2.2.2 i (by omega)
    have zb1 := zB_a (zturn_B (T := T) hB h6 ha hb hab) q1 q2
    show (∃ y, (zft T v D (i + 1) a b = true ∧ zFr zE m y) ∧ H_X10_fits_3 d 29 (nI a) (nI b) (nI kn) (nI i) x = H_X10_fits_3 d 29 (nI a) (nI b) (nI kn) (nI (i + 1)) y) ∨ (∃ r, H_X10_fits_3 d 29 (nI a) (nI b) (nI kn) (nI i) x = some r ∧ _)
    rw [H_X10_fits_3_eq d 29 _ _ _ _ x z_s29, if_neg (nI_ge hi (by omega)), Dx.1, if_neg (nI_ge (by omega) (by omega)), n_ok (by omega), n_gd (by omega), n_gd (by omega), nI_clamp (by omega), q4, q5, e1, Option.bind_some]
    dsimp only
    rw [n_gd (by omega), n_gd (by omega), n_gd (by omega), r6, r7, nI_1]
    have q0 : zftQ T v D a b i = (decide ((D i).2.2.1 ≤ zturn T v a b (4 * (D i).1 + (D i).2.1)) == (D i).2.2.2) := rfl
    by_cases c : zturn T v a b (4 * (D i).1 + (D i).2.1) < (D i).2.2.1
    · rw [if_pos (nI_lt c (by omega))]
      rw [decide_eq_false (by omega)] at q0
      cases hso : (D i).2.2.2 with
      | false =>
        rw [hso] at q0
        rw [if_pos (show (0 : Int32) = zb false from rfl)]
        exact Or.inl ⟨m1, ⟨by rw [zft_s, P, q0]; rfl, zFr_t F f1⟩, rfl⟩
      | true =>
        rw [hso] at q0
        rw [if_neg (show ¬ (0 : Int32) = zb true by decide)]
        exact Or.inr ⟨_, rfl, by rw [zft_f hi q0]; rfl, zFr_t F f1⟩
    · rw [if_neg (nI_nlt (by omega) (by omega))]
      rw [decide_eq_true (by omega)] at q0
      cases hso : (D i).2.2.2 with
      | true =>
        rw [hso] at q0
        rw [if_pos (show (1 : Int32) = zb true from rfl)]
        exact Or.inl ⟨m1, ⟨by rw [zft_s, P, q0]; rfl, zFr_t F f1⟩, rfl⟩
      | false =>
        rw [hso] at q0
        rw [if_neg (show ¬ (1 : Int32) = zb false by decide)]
        exact Or.inr ⟨_, rfl, by rw [zft_f hi q0]; rfl, zFr_t F f1⟩
  · rintro x ⟨P, F⟩
    show ∃ r, H_X10_fits_3 d 29 (nI a) (nI b) (nI kn) (nI kn) x = some r ∧ _
    rw [H_X10_fits_3_eq d 29 _ _ _ _ x z_s29, if_pos (nI_le (Nat.le_refl _) (by omega))]
    exact ⟨_, rfl, by rw [P]; rfl, F⟩
theorem c_left (h1 : zTC T m) (h3 : zSC (tN T) m 29 v) (hB : zB (tN T) B v) (hD : zDok (tN T) u D m) {kn : Nat} (hk : kn ≤ u) : ∃ m', R_X10_pairsLeft d 29 (nI kn) m = some (nI (zmk (zPk T v D kn) (zprs (tN T)).length), m') ∧ zFr zE m m' := by
  have h6 := h1.1.1
  have l15 := zprs_len h6
  rw [R_X10_pairsLeft_eq d 29 _ m z_s29]
  have key := zlpP (tN T) h6 (fun a (x : Int32 × Int32 × MzM) => H_X10_pairsLeft_8 d 29 (nI kn) x.1 x.2.1 (nI a) x.2.2) (fun a b (x : Int32 × Int32 × MzM) => H_X10_pairsLeft_26 d 29 (nI kn) x.1 x.2.1 (nI a) (nI b) x.2.2) (fun r => r.1 = nI (zmk (zPk T v D kn) (zprs (tN T)).length) ∧ zFr zE m r.2) (fun k x => x.1 = nI (zmk (zPk T v D kn) k) ∧ x.2.1 = nI k ∧ zFr zE m x.2.2) ?_ ?_ ?_ ?_ (0, 0, m) ⟨rfl, rfl, zFr_r⟩
  · obtain ⟨⟨r1, r2⟩, e, rfl, f⟩ := key
    exact ⟨r2, e, f⟩
  · rintro a k ⟨y, z, x⟩ ha ⟨-, -, F⟩
    show H_X10_pairsLeft_8 d 29 (nI kn) y z (nI a) x = H_X10_pairsLeft_26 d 29 (nI kn) y z (nI a) (nI (a + 1)) x
    rw [H_X10_pairsLeft_8_eq d 29 _ _ _ _ x z_s29, (zTC_E h1 F).2.1, if_neg (nI_ge ha (by omega)), nI_1]
  · rintro a k ⟨y, z, x⟩ ha ⟨-, -, F⟩
    show H_X10_pairsLeft_26 d 29 (nI kn) y z (nI a) (nI (tN T)) x = H_X10_pairsLeft_8 d 29 (nI kn) y z (nI (a + 1)) x
    rw [H_X10_pairsLeft_26_eq d 29 _ _ _ _ _ x z_s29, (zTC_E h1 F).2.1, if_pos (nI_le (Nat.le_refl _) (by omega)), nI_1]
  · rintro a b k ⟨y, z, x⟩ hab hbn hq ⟨rfl, rfl, F⟩
    left
    have k15 := zget_lt hq
    obtain ⟨m1, e1, f1⟩ := c_fits (d := d) (a := a) (b := b) (zTC_E h1 F) (zSC_E h3 z_s29 F) hB (zDok_f hD (zE_To F)) (by omega) hbn (by omega) hk
    refine ⟨(nI (zmk (zPk T v D kn) (k + 1)), nI (k + 1), m1), ⟨rfl, rfl, zFr_t F f1⟩, ?_⟩
    show H_X10_pairsLeft_26 d 29 (nI kn) (nI (zmk (zPk T v D kn) k)) (nI k) (nI a) (nI b) x = H_X10_pairsLeft_26 d 29 (nI kn) (nI (zmk (zPk T v D kn) (k + 1))) (nI (k + 1)) (nI a) (nI (b + 1)) m1
    rw [H_X10_pairsLeft_26_eq d 29 _ _ _ _ _ x z_s29, (zTC_E h1 F).2.1, if_neg (nI_ge hbn (by omega)), e1, Option.bind_some]
    dsimp only
    rw [nI_1, nI_1, Int32.or_zero, ← zPk_e hq]
    cases c : zPk T v D kn k with
    | false => rw [zb_f0, zmk_f c]
    | true => rw [zb_t0, zmk_t (by omega) c]
  · rintro ⟨y, z, x⟩ ⟨rfl, rfl, F⟩
    show ∃ r, H_X10_pairsLeft_8 d 29 (nI kn) _ _ (nI (tN T)) x = some r ∧ _
    rw [H_X10_pairsLeft_8_eq d 29 _ _ _ _ x z_s29, (zTC_E h1 F).2.1, if_pos (nI_le (Nat.le_refl _) (by omega))]
    exact ⟨_, rfl, rfl, F⟩
def zithI (np : Nat) (o : Option Nat) : Int32 := match o with
  | some k => nI (zpc np k)
  | none => -1
theorem c_pairOf {P : Nat → Bool} (h1 : zTC T m) {j : Nat} (hj : j < 2 ^ 31) : R_X10_pairOf d (nI (zmk P (zprs (tN T)).length)) (nI j) m = some (zithI (tN T) (zith P (zprs (tN T)).length j), m) := by
  have h6 := h1.1.1
  have l15 := zprs_len h6
  have ml := zmk_lt P (zprs (tN T)).length
  have p15 : 2 ^ (zprs (tN T)).length ≤ 2 ^ 15 := Nat.pow_le_pow_right (by omega) l15
  rw [R_X10_pairOf_eq]
  have key := zlpP (tN T) h6 (fun a (x : Int32 × Int32) => H_X10_pairOf_8 d (nI (zmk P (zprs (tN T)).length)) (nI j) x.1 x.2 (nI a) m) (fun a b (x : Int32 × Int32) => H_X10_pairOf_26 d (nI (zmk P (zprs (tN T)).length)) (nI j) x.1 x.2 (nI a) (nI b) m) (fun r => r = (zithI (tN T) (zith P (zprs (tN T)).length j), m)) (fun k x => x.1 = nI k ∧ x.2 = nI (zcn P k) ∧ ((List.range (zprs (tN T)).length).take k).find? (fun k => P k && decide (zcn P k = j)) = none) ?_ ?_ ?_ ?_ (0, 0) ⟨rfl, rfl, rfl⟩
  · obtain ⟨r, e, rfl⟩ := key
    exact e
  · rintro a k ⟨y, z⟩ ha -
    show H_X10_pairOf_8 d _ (nI j) y z (nI a) m = H_X10_pairOf_26 d _ (nI j) y z (nI a) (nI (a + 1)) m
    rw [H_X10_pairOf_8_eq, h1.2.1, if_neg (nI_ge ha (by omega)), nI_1]
  · rintro a k ⟨y, z⟩ ha -
    show H_X10_pairOf_26 d _ (nI j) y z (nI a) (nI (tN T)) m = H_X10_pairOf_8 d _ (nI j) y z (nI (a + 1)) m
    rw [H_X10_pairOf_26_eq, h1.2.1, if_pos (nI_le (Nat.le_refl _) (by omega)), nI_1]
  · rintro a b k ⟨y, z⟩ hab hbn hq ⟨rfl, rfl, N⟩
    have k15 := zget_lt hq
    have hg := zrange_get k15
    have cl := zcn_le P k
    have bit : (zmk P (zprs (tN T)).length).testBit k = P k := by rw [zmk_bit, decide_eq_true k15, Bool.true_and]
    have uf : zcn P (k + 1) = if P k = true then zcn P k + 1 else zcn P k := rfl
    show (∃ x : Int32 × Int32, (x.1 = nI (k + 1) ∧ x.2 = nI (zcn P (k + 1)) ∧ ((List.range (zprs (tN T)).length).take (k + 1)).find? (fun k => P k && decide (zcn P k = j)) = none) ∧ H_X10_pairOf_26 d (nI (zmk P (zprs (tN T)).length)) (nI j) (nI k) (nI (zcn P k)) (nI a) (nI b) m = H_X10_pairOf_26 d (nI (zmk P (zprs (tN T)).length)) (nI j) x.1 x.2 (nI a) (nI (b + 1)) m) ∨ (∃ r, H_X10_pairOf_26 d (nI (zmk P (zprs (tN T)).length)) (nI j) (nI k) (nI (zcn P k)) (nI a) (nI b) m = some r ∧ _)
    rw [H_X10_pairOf_26_eq, h1.2.1, if_neg (nI_ge hbn (by omega)), z_bit (by omega) (by omega), bit, nI_1, nI_1, nI_1, z_mul10, nI_add, uf]
    cases c : P k with
    | false =>
      rw [zb_f0]
      exact Or.inl ⟨(_, _), ⟨rfl, rfl, zfind_n hg N (by simp [c])⟩, rfl⟩
    | true =>
      rw [zb_t0]
      by_cases q : zcn P k = j
      · rw [if_neg (show ¬ ¬ nI (zcn P k) = nI j from fun z => z (by rw [q]))]
        refine Or.inr ⟨_, rfl, ?_⟩
        have : zith P (zprs (tN T)).length j = some k := zfind hg N (by simp [c, q])
        rw [this]
        show (nI (10 * a + b), m) = (nI (zpc (tN T) k), m)
        rw [zpc_e hq]
      · rw [if_pos (show ¬ nI (zcn P k) = nI j from fun z => q ((nI_eq (by omega) hj).mp z))]
        exact Or.inl ⟨(_, _), ⟨rfl, rfl, zfind_n hg N (by simp [q])⟩, rfl⟩
  · rintro ⟨y, z⟩ ⟨rfl, rfl, N⟩
    have e : (List.range (zprs (tN T)).length).take (zprs (tN T)).length = List.range (zprs (tN T)).length := by
      have := List.take_length (l := List.range (zprs (tN T)).length)
      rw [List.length_range] at this
      exact this
    rw [e] at N
    show ∃ r, H_X10_pairOf_8 d _ (nI j) _ _ (nI (tN T)) m = some r ∧ r = (zithI (tN T) ((List.range (zprs (tN T)).length).find? fun k => P k && decide (zcn P k = j)), m)
    rw [H_X10_pairOf_8_eq, h1.2.1, if_pos (nI_le (Nat.le_refl _) (by omega)), N]
    exact ⟨_, rfl, rfl⟩
end ZTw
