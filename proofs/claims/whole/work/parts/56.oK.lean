/-! obligations: foes, count -/
theorem zcnt_e (T : ZT) (v : Nat → Nat) (l : List (Nat × Nat)) : zcnt T v l = l.countP fun q => zq T v q.1 q.2 := by
  have key : ∀ (l : List (Nat × Nat)) (k : Nat), l.foldl (fun n q => if zq T v q.1 q.2 = true then n + 1 else n) k = k + l.countP fun q => zq T v q.1 q.2 := by
    intro l
    induction l with
    | nil => intro k; rfl
    | cons x l ih =>
      intro k
      rw [List.foldl_cons, ih, List.countP_cons]
      split <;> omega
  unfold zcnt
  rw [key]
  omega
theorem zcnt_0 (T : ZT) (v : Nat → Nat) (l : List (Nat × Nat)) : zcnt T v l = 0 ↔ l.find? (fun q => zq T v q.1 q.2) = none := by
  rw [zcnt_e, List.countP_eq_zero, List.find?_eq_none]
theorem zfind_k {α : Type} {p : α → Bool} {l : List α} {k : Nat} {x : α} (h : (l.take k).find? p = some x) : (l.take (k + 1)).find? p = some x := by
  rw [List.take_add_one, List.find?_append, h]
  rfl
def zFF (a i : Nat) : Prop := a = 275 ∨ a = 268 ∨ a = 269 ∨ (a = 239 ∧ i = 46)
theorem r_fillsFoes {T : ZT} {lv d B : Nat} {v : Nat → Nat} {m : MzM} (hT : zTR T lv m) (h : zRA (tN T) m 270 v) (hB : zB (tN T) B v) : ∃ m', R_X12_fillsFoes d m = some m' ∧ zFr zRQ m m' ∧ zTR T lv m' ∧ zRA (tN T) m' 271 v ∧ ∀ a, a < tN T → mz_rd m' 275 a = nI (zmk (zfP T v a) (tN T)) := by
  have h6 := hT.1.1
  obtain ⟨m1, e1, f1, g1, -, -⟩ := r_copies (d := d) hT h
  have t1 := zTR_C hT f1
  rw [R_X12_fillsFoes_eq, e1, Option.bind_some]
  have key : ∃ r, H_X12_fillsFoes_6 d (nI 0) m1 = some r ∧ zFr zFF m1 r ∧ ∀ a, a < tN T → mz_rd r 275 a = nI (zmk (zfP T v a) (tN T)) := by
    refine zlp (fun k x => H_X12_fillsFoes_6 d (nI k) x) (fun r => zFr zFF m1 r ∧ ∀ a, a < tN T → mz_rd r 275 a = nI (zmk (zfP T v a) (tN T))) (fun k x => zFr zFF m1 x ∧ ∀ a, a < k → mz_rd x 275 a = nI (zmk (zfP T v a) (tN T))) (tN T) ?_ ?_ 0 m1 (by omega) ⟨zFr_r, fun a ha => by omega⟩
    · rintro k x hk ⟨F, P⟩
      left
      have Tx : zTR T lv x := zTR_f t1 (fun a i z => F.1 a i (by unfold zFF; unfold zRx at z; omega))
      have Rx : zRA (tN T) x 271 v := zRA_f g1 (fun i => F.1 271 i (by unfold zFF; omega))
      obtain ⟨-, l2, l3, l4, -⟩ := id Tx
      obtain ⟨m2, e2, f2⟩ := r_foesOf (d := d) Tx Rx hB hk
      show ∃ y, (zFr zFF m1 y ∧ ∀ a, a < k + 1 → mz_rd y 275 a = nI (zmk (zfP T v a) (tN T))) ∧ H_X12_fillsFoes_6 d (nI k) x = H_X12_fillsFoes_6 d (nI (k + 1)) y
      rw [H_X12_fillsFoes_6_eq, l3, n_ok (by omega), n_gd l2, nI_clamp (by omega), l4, if_neg (nI_ge hk (by omega)), e2, Option.bind_some]
      dsimp only
      rw [n_ok (by omega), n_gd (by omega), nI_clamp (by omega), nI_1, zfo_e T v k _ h6]
      refine ⟨_, ⟨zFr_w2 (zFr_t F (zFr_m f2 (fun a i z => by unfold zRE at z; unfold zFF; omega))) (Or.inl rfl), fun a ha => ?_⟩, rfl⟩
      by_cases c : a = k
      · subst c; exact m_eq
      · rw [m_ni c, f2.1 275 a (by unfold zRE; omega)]
        exact P a (by omega)
    · rintro x ⟨F, P⟩
      have Tx : zTR T lv x := zTR_f t1 (fun a i z => F.1 a i (by unfold zFF; unfold zRx at z; omega))
      obtain ⟨-, l2, l3, l4, -⟩ := id Tx
      show ∃ r, H_X12_fillsFoes_6 d (nI (tN T)) x = some r ∧ _
      rw [H_X12_fillsFoes_6_eq, l3, n_ok (by omega), n_gd l2, nI_clamp (by omega), l4, if_pos (nI_le (Nat.le_refl _) (by omega))]
      exact ⟨_, rfl, F, P⟩
  obtain ⟨m2, e2, f2, p2⟩ := key
  have e2' : H_X12_fillsFoes_6 d 0 m1 = some m2 := e2
  exact ⟨m2, e2', zFr_t (zRC_Q f1) (zFr_m f2 (fun a i z => by unfold zFF at z; unfold zRQ; omega)), zTR_f t1 (fun a i z => f2.1 a i (by unfold zFF; unfold zRx at z; omega)), zRA_f g1 (fun i => f2.1 271 i (by unfold zFF; omega)), p2⟩
theorem o_foes : mz_o_foes zI := by
  intro n m a1 hn hI
  obtain ⟨T, lv, v, h⟩ := id hI
  obtain ⟨h1, h2, h3, h4, h5, -⟩ := h
  have h6 := h1.1.1
  have l15 := zprs_len h6
  have x2 := fun mm => R_X12_foes_eq 8 a1 mm
  cases c2 : zIsP 2 a1 with
  | false =>
    have n0 : ¬ a1 = 0 := fun z => by subst z; exact absurd c2 (by decide)
    have n1 : ¬ a1 = 1 := fun z => by subst z; exact absurd c2 (by decide)
    have x1 := R_X11_foes_eq 8 a1 m
    rw [if_neg n0, if_neg n1] at x1
    have x3 := x2 m
    rw [r_in (n := 2) (by omega) (by decide), c2, Option.bind_some] at x3
    exact ⟨_, _, _, x1, x3, zI_q hn hI zFr_r zFr_r⟩
  | true =>
    obtain ⟨j, hj, rfl⟩ := zIsP_t c2 (by omega)
    have cl : ∃ m1, R_X11_foes 8 (nI j) m = some (if j = 0 then nI (zcnt T v (zprs (tN T))) else zpn (zfq T v), m1) ∧ zFr zE m m1 := by
      rcases (show j = 0 ∨ j = 1 by omega) with rfl | rfl
      · obtain ⟨m1, e1, f1⟩ := c_quarrels (d := 8) h1 z_s29 h3 h5
        exact ⟨m1, by rw [R_X11_foes_eq, if_pos (by decide), e1, Option.bind_some]; rfl, f1⟩
      · obtain ⟨m1, e1, f1⟩ := c_firstQuarrel (d := 8) h1 z_s29 h3 h5
        exact ⟨m1, by rw [R_X11_foes_eq, if_neg (by decide), if_pos (by decide), e1, Option.bind_some]; rfl, f1⟩
    obtain ⟨m1, x1, f1⟩ := cl
    have f1 := zE_Q f1
    obtain ⟨m2, e2, f2, t2, g2, p2⟩ := r_fillsFoes (d := 8) (zTR_q h2 f1) (zRA_q h4 f1) h5
    obtain ⟨m3, e3, f3, p3⟩ := r_pairs (d := 8) t2
    have q3 : ∀ a, a < tN T → mz_rd m3 275 a = nI (zmk (zfP T v a) (tN T)) := fun a ha => (f3.1 275 a (by unfold zFP; omega)).trans (p2 a ha)
    have rl : ∃ r, H_X12_foes_27 8 (nI j) (nI 0) (-2) (nI 0) m3 = some r ∧ r = (if j = 0 then nI (zcnt T v (zprs (tN T))) else zpn (zfq T v), m3) := by
      refine zlp (fun k (x : Nat × Int32) => H_X12_foes_27 8 (nI j) (nI x.1) x.2 (nI k) m3) (fun r => r = (if j = 0 then nI (zcnt T v (zprs (tN T))) else zpn (zfq T v), m3)) (fun k x => x.1 = zcnt T v ((zprs (tN T)).take k) ∧ x.2 = zpn (((zprs (tN T)).take k).find? fun q => zq T v q.1 q.2)) (zprs (tN T)).length ?_ ?_ 0 (0, -2) (by omega) ⟨rfl, rfl⟩
      · rintro k ⟨y, z⟩ hk ⟨rfl, rfl⟩
        left
        rcases hq : (zprs (tN T))[k] with ⟨a, b⟩
        have hk2 : (zprs (tN T))[k]? = some (a, b) := by rw [List.getElem?_eq_getElem hk, hq]
        obtain ⟨hab, hbn⟩ := zprs_in h6 hk2
        have ha : a < tN T := by omega
        obtain ⟨d1, d2⟩ := z_ten (a := a) (b := b) (by omega) (by omega)
        have ml := zmk_lt (zfP T v a) (tN T)
        have ml2 : 2 ^ tN T ≤ 2 ^ 6 := Nat.pow_le_pow_right (by omega) h6
        have bit : (zmk (zfP T v a) (tN T)).testBit b = zq T v a b := by
          rw [zmk_bit, decide_eq_true hbn]
          unfold zfP
          rw [decide_eq_false (show ¬ b = a by omega)]
          rfl
        have cb := zcnt_B T v ((zprs (tN T)).take k)
        have cb2 : ((zprs (tN T)).take k).length ≤ 15 := by rw [List.length_take]; omega
        have uf : zcnt T v ((zprs (tN T)).take (k + 1)) = if zq T v a b = true then zcnt T v ((zprs (tN T)).take k) + 1 else zcnt T v ((zprs (tN T)).take k) := ztake hk2 _ _
        show ∃ x : Nat × Int32, (x.1 = zcnt T v ((zprs (tN T)).take (k + 1)) ∧ x.2 = zpn (((zprs (tN T)).take (k + 1)).find? fun q => zq T v q.1 q.2)) ∧ H_X12_foes_27 8 (nI j) (nI (zcnt T v ((zprs (tN T)).take k))) (zpn (((zprs (tN T)).take k).find? fun q => zq T v q.1 q.2)) (nI k) m3 = H_X12_foes_27 8 (nI j) (nI x.1) x.2 (nI (k + 1)) m3
        rw [H_X12_foes_27_eq, p3.1, if_neg (nI_ge hk (by omega)), n_ok (show k < 2 ^ 31 by omega), n_gd (show k < 15 by omega), nI_clamp (show k < 2 ^ 31 by omega), p3.2 k a b hk2, d2, d1, n_ok (show a < 2 ^ 31 by omega), n_gd (show a < 6 by omega), n_gd (show k < 15 by omega), nI_clamp (show a < 2 ^ 31 by omega), q3 a ha, z_bit (by omega) (by omega), bit, n_gd (show k < 15 by omega), nI_1, nI_1, uf, zb_ifn]
        cases hqq : zq T v a b with
        | false =>
          have hn2 : ((zprs (tN T)).take (k + 1)).find? (fun q => zq T v q.1 q.2) = ((zprs (tN T)).take k).find? (fun q => zq T v q.1 q.2) := by
            cases hf : ((zprs (tN T)).take k).find? (fun q => zq T v q.1 q.2) with
            | none => exact zfind_n hk2 hf hqq
            | some w => exact zfind_k hf
          rw [hn2]
          exact ⟨(_, _), ⟨rfl, rfl⟩, rfl⟩
        | true =>
          dsimp only
          by_cases c0 : zcnt T v ((zprs (tN T)).take k) = 0
          · rw [if_neg (show ¬ ¬ nI (zcnt T v ((zprs (tN T)).take k)) = 0 by rw [c0]; decide)]
            have hf := (zcnt_0 T v _).mp c0
            have hn2 : ((zprs (tN T)).take (k + 1)).find? (fun q => zq T v q.1 q.2) = some (a, b) := by
              rw [List.take_add_one, List.find?_append, hf, hk2]
              simp [hqq]
            rw [hn2]
            exact ⟨(_, _), ⟨rfl, rfl⟩, rfl⟩
          · rw [if_pos (nI_ne0 (by omega) (by omega))]
            have hn2 : ((zprs (tN T)).take (k + 1)).find? (fun q => zq T v q.1 q.2) = ((zprs (tN T)).take k).find? (fun q => zq T v q.1 q.2) := by
              cases hf : ((zprs (tN T)).take k).find? (fun q => zq T v q.1 q.2) with
              | none => exact absurd ((zcnt_0 T v _).mpr hf) c0
              | some w => exact zfind_k hf
            rw [hn2]
            exact ⟨(_, _), ⟨rfl, rfl⟩, rfl⟩
      · rintro ⟨y, z⟩ ⟨rfl, rfl⟩
        show ∃ r, H_X12_foes_27 8 (nI j) _ _ (nI (zprs (tN T)).length) m3 = some r ∧ _
        rw [H_X12_foes_27_eq, p3.1, if_pos (nI_le (Nat.le_refl _) (by omega)), List.take_length]
        rcases (show j = 0 ∨ j = 1 by omega) with rfl | rfl
        · rw [if_neg (by decide)]; exact ⟨_, rfl, rfl⟩
        · rw [if_pos (by decide)]; exact ⟨_, rfl, rfl⟩
    obtain ⟨r2, e4, rfl⟩ := rl
    have e4' : H_X12_foes_27 8 (nI j) 0 (-2) 0 m3 = _ := e4
    have x3 := x2 m1
    rw [r_in (n := 2) (by omega) (by decide), c2, Option.bind_some] at x3
    dsimp only at x3
    rw [zb_t1, e2, Option.bind_some, e3, Option.bind_some, e4'] at x3
    exact ⟨_, _, _, x1, x3, zI_q hn hI f1 (zFr_t f2 (zFP_Q f3))⟩
/-- who quarrels with anybody: by all foes of the first k -/
def zwho (T : ZT) (v : Nat → Nat) (np : Nat) : Nat → Nat
  | 0 => 0
  | k + 1 => zwho T v np k ||| zmk (zfP T v k) np
theorem zwho_e (T : ZT) (v : Nat → Nat) (np : Nat) : zwho T v np np = zmk (fun a => !decide (zmk (zfP T v a) np = 0)) np := by
  have key : ∀ k b, (zwho T v np k).testBit b = (decide (b < np) && (List.range k).any fun a => zfP T v a b) := by
    intro k b
    induction k with
    | zero => simp [zwho]
    | succ k ih =>
      unfold zwho
      rw [Nat.testBit_or, ih, zmk_bit, List.range_succ]
      simp only [List.any_append, List.any_cons, List.any_nil, Bool.or_false]
      cases decide (b < np) <;> simp
  apply Nat.eq_of_testBit_eq
  intro b
  rw [key, zmk_bit]
  by_cases c : b < np
  · rw [decide_eq_true c, Bool.true_and, Bool.true_and]
    by_cases z : zmk (zfP T v b) np = 0
    · have z2 := (zmk_0 _ _).mp z
      rw [decide_eq_true z]
      show _ = false
      rw [List.any_eq_false]
      intro a ha
      have e := z2 a (List.mem_range.mp ha)
      unfold zfP at e ⊢
      rw [zq_s T v a b]
      by_cases q : a = b
      · subst q; simp
      · rw [decide_eq_false q] at e
        rw [decide_eq_false (fun z => q z.symm)]
        simpa using e
    · rw [decide_eq_false z]
      show _ = true
      have hz : ∃ a, a < np ∧ zfP T v b a = true := by
        apply Classical.byContradiction
        intro hh
        apply z
        rw [zmk_0]
        intro a ha
        cases q : zfP T v b a with
        | false => rfl
        | true => exact absurd ⟨a, ha, q⟩ hh
      obtain ⟨a, ha, q⟩ := hz
      rw [List.any_eq_true]
      refine ⟨a, List.mem_range.mpr ha, ?_⟩
      unfold zfP at q ⊢
      rw [zq_s T v a b]
      simp only [Bool.and_eq_true, Bool.not_eq_true', decide_eq_false_iff_not] at q ⊢
      exact ⟨fun z => q.1 z.symm, q.2⟩
  · rw [decide_eq_false c, Bool.false_and, Bool.false_and]
theorem c_who {T : ZT} {s d B : Nat} {v : Nat → Nat} {m : MzM} (hT : zTC T m) (hs : mz_isS s = true) (h : zSC (tN T) m s v) (hB : zB (tN T) B v) : ∃ m', R_X3_whoQuarrels d s m = some (nI (zwho T v (tN T) (tN T)), m') ∧ zFr zE m m' := by
  have h6 := hT.1.1
  rw [R_X3_whoQuarrels_eq d s m hs]
  have key := zlp (fun k (x : Nat × MzM) => H_X3_whoQuarrels_4 d s (nI x.1) (nI k) x.2) (fun r => r.1 = nI (zwho T v (tN T) (tN T)) ∧ zFr zE m r.2) (fun k x => x.1 = zwho T v (tN T) k ∧ zFr zE m x.2) (tN T) ?_ ?_ 0 (0, m) (Nat.zero_le _) ⟨rfl, zFr_r⟩
  · obtain ⟨⟨r1, r2⟩, e, rfl, f⟩ := key
    exact ⟨r2, e, f⟩
  · rintro k ⟨y, x⟩ hk ⟨rfl, F⟩
    left
    have Tx := zTC_E hT F
    obtain ⟨m1, e1, f1⟩ := c_foesOf (d := d) Tx hs (zSC_E h hs F) hB hk
    show ∃ z : Nat × MzM, (z.1 = zwho T v (tN T) (k + 1) ∧ zFr zE m z.2) ∧ H_X3_whoQuarrels_4 d s (nI (zwho T v (tN T) k)) (nI k) x = H_X3_whoQuarrels_4 d s (nI z.1) (nI (k + 1)) z.2
    rw [H_X3_whoQuarrels_4_eq d s _ _ x hs, Tx.2.1, if_neg (nI_ge hk (by omega)), e1, Option.bind_some]
    dsimp only
    rw [zfo_e T v k _ h6, z_or, nI_1]
    exact ⟨(_, m1), ⟨rfl, zFr_t F f1⟩, rfl⟩
  · rintro ⟨y, x⟩ ⟨rfl, F⟩
    show ∃ r, H_X3_whoQuarrels_4 d s (nI (zwho T v (tN T) (tN T))) (nI (tN T)) x = some r ∧ _
    rw [H_X3_whoQuarrels_4_eq d s _ _ x hs, (zTC_E hT F).2.1, if_pos (nI_le (Nat.le_refl _) (by omega))]
    exact ⟨_, rfl, rfl, F⟩
