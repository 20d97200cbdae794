/-! obligation: paired, the reference -/
theorem zfind_c {α : Type} {p q : α → Bool} : ∀ {l : List α}, (∀ x, x ∈ l → p x = q x) → l.find? p = l.find? q := by
  intro l
  induction l with
  | nil => intro _; rfl
  | cons y l ih =>
    intro h
    rw [List.find?_cons, List.find?_cons, h y List.mem_cons_self, ih (fun x hx => h x (List.mem_cons_of_mem _ hx))]
theorem zfp_agree {F : Nat → Nat} {k p s t : Nat} (h1 : p + (k + 1) ≤ 6) (hs : s < 64) (ht : t < 64) (h : ∀ i, p ≤ i → i < 6 → s.testBit i = t.testBit i) : zfp F k p s = zfp F k p t := by
  unfold zfp
  have e1 := zmp_agree F k (p + 1) s t (by omega) hs ht (fun i a b => h i (by omega) b)
  have e2 := zmp_agree F (k + 1) p s t (by omega) hs ht h
  have e3 : (List.range k).find? (zfpQ F k p s) = (List.range k).find? (zfpQ F k p t) := zfind_c (fun j hj => by
    have hj := List.mem_range.mp hj
    unfold zfpQ
    rw [h (p + 1 + j) (by omega) (by omega), e2, zmp_agree F k (p + 1) (zclr s (p + 1 + j)) (zclr t (p + 1 + j)) (by omega) (Nat.lt_of_le_of_lt (zclr_l _ _) hs) (Nat.lt_of_le_of_lt (zclr_l _ _) ht) (fun i a e => by rw [zclr_t hs (by omega) e, zclr_t ht (by omega) e, h i (by omega) e])])
  rw [e1, e2, e3]
theorem zmi_ext {F : Nat → Nat} {p s base k : Nat} {g : Nat → Nat} : ∀ j, k ≤ j → (∀ i, k ≤ i → i < j → s.testBit (p + 1 + i) = false) → zmi F p s g base j = zmi F p s g base k := by
  intro j
  induction j with
  | zero => intro h _; rw [show k = 0 by omega]
  | succ j ih =>
    intro h h2
    by_cases c : k = j + 1
    · rw [c]
    · rw [← ih (by omega) (fun i a b => h2 i a (by omega))]
      show (if _ then _ else _) = _
      rw [h2 j (by omega) (by omega), Bool.and_false, if_neg (by decide)]
theorem zbit_np {s np i : Nat} (hs : s < 2 ^ np) (hi : np ≤ i) : s.testBit i = false := Nat.testBit_lt_two_pow (Nat.lt_of_lt_of_le hs (Nat.pow_le_pow_right (by omega) hi))
section ZBo
variable {F : Nat → Nat} {np s k : Nat}
theorem zbo1 (hn : np ≤ 6) (hs : s < 2 ^ np) (h0 : s ≠ 0) (hk : zlow s + (k + 1) = np) : zmp F np 0 s = zmp F (k + 1) (zlow s) s ∧ zmp F (k + 1) (zlow s) s = zmi F (zlow s) s (fun t => zmp F k (zlow s + 1) t) (zmp F k (zlow s + 1) s) k := by
  have p64 : 2 ^ np ≤ 2 ^ 6 := Nat.pow_le_pow_right (by omega) hn
  obtain ⟨e1, e2, e3⟩ := zlow_e (s := s) (by omega) h0
  refine ⟨?_, ?_⟩
  · rw [← hk]
    exact zmp_low F (zlow s) e3
  · show (if _ then _ else _) = _
    rw [if_pos e1]
theorem zbo2 (hn : np ≤ 6) (hs : s < 2 ^ np) (h0 : s ≠ 0) (hk : zlow s + (k + 1) = np) : zmp F np 0 (zclr s (zlow s)) = zmp F k (zlow s + 1) s := by
  have p64 : 2 ^ np ≤ 2 ^ 6 := Nat.pow_le_pow_right (by omega) hn
  obtain ⟨e1, e2, e3⟩ := zlow_e (s := s) (by omega) h0
  have cl := zclr_l s (zlow s)
  have q : np = zlow s + 1 + k := by omega
  rw [q, zmp_low F (zlow s + 1) (fun i hi => by
    rw [zclr_t (by omega) e2 (by omega)]
    by_cases c : i = zlow s
    · rw [decide_eq_true c, Bool.not_true, Bool.and_false]
    · rw [e3 i (by omega), Bool.false_and])]
  exact zmp_agree F k _ _ _ (by omega) (by omega) (by omega) (fun i a b => by
    rw [zclr_t (by omega) e2 b, decide_eq_false (by omega)]
    simp)
theorem zbo3 (hn : np ≤ 6) (hs : s < 2 ^ np) (h0 : s ≠ 0) (hk : zlow s + (k + 1) = np) {b : Nat} (hb : zlow s < b) (hb2 : b < 6) : zmp F np 0 (zclr (zclr s (zlow s)) b) = zmp F k (zlow s + 1) (zclr s b) := by
  have p64 : 2 ^ np ≤ 2 ^ 6 := Nat.pow_le_pow_right (by omega) hn
  obtain ⟨e1, e2, e3⟩ := zlow_e (s := s) (by omega) h0
  have cl := zclr_l s (zlow s)
  have cl2 := zclr_l (zclr s (zlow s)) b
  have cl3 := zclr_l s b
  have q : np = zlow s + 1 + k := by omega
  rw [q, zmp_low F (zlow s + 1) (fun i hi => by
    rw [zclr_t (by omega) hb2 (by omega), zclr_t (by omega) e2 (by omega)]
    by_cases c : i = zlow s
    · rw [decide_eq_true c, Bool.not_true, Bool.and_false, Bool.false_and]
    · rw [e3 i (by omega), Bool.false_and, Bool.false_and])]
  exact zmp_agree F k _ _ _ (by omega) (by omega) (by omega) (fun i a c => by
    rw [zclr_t (by omega) hb2 c, zclr_t (by omega) e2 c, zclr_t (by omega) hb2 c, decide_eq_false (show ¬ i = zlow s by omega)]
    simp)
end ZBo
def zPd (a : Nat) (_ : Nat) : Prop := a = 276
section ZPr
variable {T : ZT} {lv d : Nat} {m : MzM} {F : Nat → Nat}
/-- the reference's table -/
theorem r_tab (h2 : zTR T lv m) (hF : ∀ a, a < tN T → mz_rd m 275 a = nI (F a)) (hF2 : ∀ a, F a < 64) : ∃ m', H_X12_fillsPaired_13 d 1 (mz_wr m 276 0 0) = some m' ∧ zFr zPd m m' ∧ ∀ t, t < 2 ^ tN T → mz_rd m' 276 t = nI (zmp F (tN T) 0 t) := by
  have h6 := h2.1.1
  have p64 : 2 ^ tN T ≤ 2 ^ 6 := Nat.pow_le_pow_right (by omega) h6
  have p1 : 0 < 2 ^ tN T := Nat.two_pow_pos _
  have z0 : zmp F (tN T) 0 0 = 0 := by
    have := zmp_low F (k := 0) (s := 0) (tN T) (fun i _ => Nat.zero_testBit i)
    rw [Nat.add_zero] at this
    rw [this]
    rfl
  have key : ∃ r, H_X12_fillsPaired_13 d (nI (0 + 1)) (mz_wr m 276 0 0) = some r ∧ zFr zPd m r ∧ ∀ t, t < 2 ^ tN T → mz_rd r 276 t = nI (zmp F (tN T) 0 t) := by
    refine zlp (fun k x => H_X12_fillsPaired_13 d (nI (k + 1)) x) (fun r => zFr zPd m r ∧ ∀ t, t < 2 ^ tN T → mz_rd r 276 t = nI (zmp F (tN T) 0 t)) (fun k x => zFr zPd m x ∧ ∀ t, t < k + 1 → mz_rd x 276 t = nI (zmp F (tN T) 0 t)) (2 ^ tN T - 1) ?_ ?_ 0 _ (by omega) ⟨zFr_w rfl, fun t ht => ?_⟩
    · rintro k x hk ⟨Fx, P⟩
      left
      have hs : k + 1 < 2 ^ tN T := by omega
      have Tx : zTR T lv x := zTR_f h2 (fun a i z => Fx.1 a i (by unfold zPd; unfold zRx at z; omega))
      obtain ⟨-, l2, l3, l4, -⟩ := id Tx
      obtain ⟨e1, e2, e3⟩ := zlow_e (s := k + 1) (by omega) (by omega)
      have ln := zlow_np h6 hs (by omega)
      obtain ⟨kk, hkk⟩ : ∃ kk, zlow (k + 1) + (kk + 1) = tN T := ⟨tN T - zlow (k + 1) - 1, by omega⟩
      have cl := zclr_l (k + 1) (zlow (k + 1))
      have clt : zclr (k + 1) (zlow (k + 1)) < k + 1 := by
        have := e1
        unfold zclr
        rw [if_pos e1]
        have : 0 < 2 ^ zlow (k + 1) := Nat.two_pow_pos _
        omega
      obtain ⟨B1, B1'⟩ := zbo1 (F := F) h6 hs (by omega) hkk
      have B2 := zbo2 (F := F) h6 hs (by omega) hkk
      have bnd : ∀ j, zmi F (zlow (k + 1)) (k + 1) (fun t => zmp F kk (zlow (k + 1) + 1) t) (zmp F kk (zlow (k + 1) + 1) (k + 1)) j ≤ kk + 1 := zmi_b (by have := zmp_b F kk (zlow (k + 1) + 1) (k + 1); omega) (fun t => zmp_b F kk (zlow (k + 1) + 1) t)
      have inn : ∃ y, H_X12_fillsPaired_58 d (nI (k + 1)) (nI (zlow (k + 1))) (nI (zclr (k + 1) (zlow (k + 1)))) (nI (zlow (k + 1) + 1 + 0)) (mz_wr x 276 (k + 1) (nI (zmp F kk (zlow (k + 1) + 1) (k + 1)))) = H_X12_fillsPaired_13 d (nI (k + 1 + 1)) y ∧ zFr zPd m y ∧ (∀ t, t < k + 1 → mz_rd y 276 t = nI (zmp F (tN T) 0 t)) ∧ mz_rd y 276 (k + 1) = nI (zmi F (zlow (k + 1)) (k + 1) (fun t => zmp F kk (zlow (k + 1) + 1) t) (zmp F kk (zlow (k + 1) + 1) (k + 1)) (5 - zlow (k + 1))) := by
        have go : ∀ (i j : Nat) (z : MzM), 5 - zlow (k + 1) - j = i → j ≤ 5 - zlow (k + 1) → zFr zPd m z → (∀ t, t < k + 1 → mz_rd z 276 t = nI (zmp F (tN T) 0 t)) → mz_rd z 276 (k + 1) = nI (zmi F (zlow (k + 1)) (k + 1) (fun t => zmp F kk (zlow (k + 1) + 1) t) (zmp F kk (zlow (k + 1) + 1) (k + 1)) j) → ∃ y, H_X12_fillsPaired_58 d (nI (k + 1)) (nI (zlow (k + 1))) (nI (zclr (k + 1) (zlow (k + 1)))) (nI (zlow (k + 1) + 1 + j)) z = H_X12_fillsPaired_13 d (nI (k + 1 + 1)) y ∧ zFr zPd m y ∧ (∀ t, t < k + 1 → mz_rd y 276 t = nI (zmp F (tN T) 0 t)) ∧ mz_rd y 276 (k + 1) = nI (zmi F (zlow (k + 1)) (k + 1) (fun t => zmp F kk (zlow (k + 1) + 1) t) (zmp F kk (zlow (k + 1) + 1) (k + 1)) (5 - zlow (k + 1))) := by
          intro i
          induction i with
          | zero =>
            intro j z q1 q2 Fz P1 P2
            have : j = 5 - zlow (k + 1) := by omega
            subst this
            rw [H_X12_fillsPaired_58_eq, if_pos (show (6 : Int32) ≤ nI (zlow (k + 1) + 1 + (5 - zlow (k + 1))) from nI_le (a := 6) (by omega) (by omega)), nI_1]
            exact ⟨z, rfl, Fz, P1, P2⟩
          | succ i ih =>
            intro j z q1 q2 Fz P1 P2
            have b6 : zlow (k + 1) + 1 + j < 6 := by omega
            have cl2 := zclr_l (zclr (k + 1) (zlow (k + 1))) (zlow (k + 1) + 1 + j)
            have al : zclr (k + 1) (zlow (k + 1)) &&& F (zlow (k + 1)) ≤ zclr (k + 1) (zlow (k + 1)) := Nat.and_le_left
            have B3 := zbo3 (F := F) h6 hs (by omega) hkk (b := zlow (k + 1) + 1 + j) (by omega) b6
            have bj := bnd j
            have bg := zmp_b F kk (zlow (k + 1) + 1) (zclr (k + 1) (zlow (k + 1) + 1 + j))
            have hFz : mz_rd z 275 (zlow (k + 1)) = nI (F (zlow (k + 1))) := (Fz.1 275 _ (by unfold zPd; omega)).trans (hF _ ln)
            have tb : (zclr (k + 1) (zlow (k + 1)) &&& F (zlow (k + 1))).testBit (zlow (k + 1) + 1 + j) = ((F (zlow (k + 1))).testBit (zlow (k + 1) + 1 + j) && (k + 1).testBit (zlow (k + 1) + 1 + j)) := by
              rw [Nat.testBit_and, zclr_t (by omega) e2 b6, decide_eq_false (by omega), Bool.not_false, Bool.and_true, Bool.and_comm]
            have uf : zmi F (zlow (k + 1)) (k + 1) (fun t => zmp F kk (zlow (k + 1) + 1) t) (zmp F kk (zlow (k + 1) + 1) (k + 1)) (j + 1) = if ((F (zlow (k + 1))).testBit (zlow (k + 1) + 1 + j) && (k + 1).testBit (zlow (k + 1) + 1 + j)) = true then (if zmi F (zlow (k + 1)) (k + 1) (fun t => zmp F kk (zlow (k + 1) + 1) t) (zmp F kk (zlow (k + 1) + 1) (k + 1)) j < 1 + zmp F kk (zlow (k + 1) + 1) (zclr (k + 1) (zlow (k + 1) + 1 + j)) then 1 + zmp F kk (zlow (k + 1) + 1) (zclr (k + 1) (zlow (k + 1) + 1 + j)) else zmi F (zlow (k + 1)) (k + 1) (fun t => zmp F kk (zlow (k + 1) + 1) t) (zmp F kk (zlow (k + 1) + 1) (k + 1)) j) else zmi F (zlow (k + 1)) (k + 1) (fun t => zmp F kk (zlow (k + 1) + 1) t) (zmp F kk (zlow (k + 1) + 1) (k + 1)) j := rfl
            have a1 : (1 : Int32) + nI (zmp F kk (zlow (k + 1) + 1) (zclr (k + 1) (zlow (k + 1) + 1 + j))) = nI (1 + zmp F kk (zlow (k + 1) + 1) (zclr (k + 1) (zlow (k + 1) + 1 + j))) := nI_add 1 _
            rw [H_X12_fillsPaired_58_eq, if_neg (show ¬ (6 : Int32) ≤ nI (zlow (k + 1) + 1 + j) from nI_ge (b := 6) b6 (by omega)), n_ok (show zlow (k + 1) < 2 ^ 31 by omega), n_gd (show zlow (k + 1) < 6 by omega), nI_clamp (show zlow (k + 1) < 2 ^ 31 by omega), hFz, z_and, z_an2 (by omega) b6, tb, zclr_i (show zclr (k + 1) (zlow (k + 1)) < 64 by omega) b6, n_ok (show zclr (zclr (k + 1) (zlow (k + 1))) (zlow (k + 1) + 1 + j) < 2 ^ 31 by omega), n_gd (show zclr (zclr (k + 1) (zlow (k + 1))) (zlow (k + 1) + 1 + j) < 64 by omega), nI_clamp (show zclr (zclr (k + 1) (zlow (k + 1))) (zlow (k + 1) + 1 + j) < 2 ^ 31 by omega), n_ok (show k + 1 < 2 ^ 31 by omega), n_gd (show k + 1 < 64 by omega), nI_clamp (show k + 1 < 2 ^ 31 by omega), P1 _ (show zclr (zclr (k + 1) (zlow (k + 1))) (zlow (k + 1) + 1 + j) < k + 1 by omega), B3, P2, a1, n_gd (show zclr (zclr (k + 1) (zlow (k + 1))) (zlow (k + 1) + 1 + j) < 64 by omega), n_gd (show k + 1 < 64 by omega), nI_1]
            by_cases c : ((F (zlow (k + 1))).testBit (zlow (k + 1) + 1 + j) && (k + 1).testBit (zlow (k + 1) + 1 + j)) = true
            · rw [if_pos c] at uf ⊢
              by_cases q : zmi F (zlow (k + 1)) (k + 1) (fun t => zmp F kk (zlow (k + 1) + 1) t) (zmp F kk (zlow (k + 1) + 1) (k + 1)) j < 1 + zmp F kk (zlow (k + 1) + 1) (zclr (k + 1) (zlow (k + 1) + 1 + j))
              · rw [if_neg (nI_ge q (by omega))]
                rw [if_pos q] at uf
                exact ih (j + 1) _ (by omega) (by omega) (zFr_w2 Fz rfl) (fun t ht => by rw [m_ni (by omega)]; exact P1 t ht) (by rw [m_eq, uf])
              · rw [if_pos (nI_le (by omega) (by omega))]
                rw [if_neg q] at uf
                exact ih (j + 1) _ (by omega) (by omega) Fz P1 (by rw [P2, uf])
            · rw [if_neg c] at uf ⊢
              exact ih (j + 1) _ (by omega) (by omega) Fz P1 (by rw [P2, uf])
        exact go _ 0 _ rfl (by omega) (zFr_w2 Fx rfl) (fun t ht => by rw [m_ni (by omega)]; exact P t ht) m_eq
      obtain ⟨y, i1, i2, i3, i4⟩ := inn
      refine ⟨y, ⟨i2, fun t ht => ?_⟩, ?_⟩
      · by_cases c : t = k + 1
        · subst c
          rw [i4, B1, B1', zmi_ext (k := kk) (5 - zlow (k + 1)) (by omega) (fun i a b => zbit_np hs (by omega))]
        · exact i3 t (by omega)
      · show H_X12_fillsPaired_13 d (nI (k + 1)) x = H_X12_fillsPaired_13 d (nI (k + 1 + 1)) y
        rw [H_X12_fillsPaired_13_eq, l3, n_ok (by omega), n_gd l2, nI_clamp (by omega), l4, z_shl (by omega), if_neg (nI_ge hs (by omega)), r_low (by omega) (by omega), Option.bind_some]
        dsimp only
        rw [zclr_i (by omega) e2, n_ok (show zclr (k + 1) (zlow (k + 1)) < 2 ^ 31 by omega), n_gd (show zclr (k + 1) (zlow (k + 1)) < 64 by omega), nI_clamp (show zclr (k + 1) (zlow (k + 1)) < 2 ^ 31 by omega), n_ok (show k + 1 < 2 ^ 31 by omega), n_gd (show k + 1 < 64 by omega), nI_clamp (show k + 1 < 2 ^ 31 by omega), P _ clt, B2, nI_1]
        exact i1
    · rintro x ⟨Fx, P⟩
      have Tx : zTR T lv x := zTR_f h2 (fun a i z => Fx.1 a i (by unfold zPd; unfold zRx at z; omega))
      obtain ⟨-, l2, l3, l4, -⟩ := id Tx
      show ∃ r, H_X12_fillsPaired_13 d (nI (2 ^ tN T - 1 + 1)) x = some r ∧ _
      rw [H_X12_fillsPaired_13_eq, l3, n_ok (by omega), n_gd l2, nI_clamp (by omega), l4, z_shl (by omega), if_pos (nI_le (by omega) (by omega))]
      exact ⟨_, rfl, Fx, fun t ht => P t (by omega)⟩
    · rw [show t = 0 by omega, m_eq, z0]
      rfl
  exact key
theorem r_pOf (h6 : tN T ≤ 6) (hF : ∀ a, a < tN T → mz_rd m 275 a = nI (F a)) (hF2 : ∀ a, F a < 64) (hB : ∀ t, t < 2 ^ tN T → mz_rd m 276 t = nI (zmp F (tN T) 0 t)) {s k : Nat} (hs : s < 2 ^ tN T) (h0 : s ≠ 0) (hk : zlow s + (k + 1) = tN T) : R_X12_pairedOf d (nI s) m = some (zfpI (zlow s) (zfp F k (zlow s) s), m) := by
  have p64 : 2 ^ tN T ≤ 2 ^ 6 := Nat.pow_le_pow_right (by omega) h6
  obtain ⟨e1, e2, e3⟩ := zlow_e (s := s) (by omega) h0
  have cl := zclr_l s (zlow s)
  obtain ⟨B1, -⟩ := zbo1 (F := F) h6 hs h0 hk
  have B2 := zbo2 (F := F) h6 hs h0 hk
  have b0 := zmp_b F k (zlow s + 1) s
  have b1 := zmp_b F (k + 1) (zlow s) s
  rw [R_X12_pairedOf_eq, r_low (by omega) h0, Option.bind_some]
  dsimp only
  rw [zclr_i (by omega) e2, n_ok (show zclr s (zlow s) < 2 ^ 31 by omega), n_gd (show zclr s (zlow s) < 64 by omega), nI_clamp (show zclr s (zlow s) < 2 ^ 31 by omega), n_ok (show s < 2 ^ 31 by omega), n_gd (show s < 64 by omega), nI_clamp (show s < 2 ^ 31 by omega), hB _ (show zclr s (zlow s) < 2 ^ tN T by omega), hB s hs, B1, B2, nI_1]
  unfold zfp
  by_cases c : zmp F k (zlow s + 1) s = zmp F (k + 1) (zlow s) s
  · rw [if_pos c, if_neg (fun z => z (by rw [c]))]
    rfl
  · rw [if_neg c, if_pos (fun z => c ((nI_eq (by omega) (by omega)).mp z))]
    obtain ⟨j0, hj0, hj1⟩ := zfp_some e1 c
    have hq0 := List.find?_some hj0
    have step : ∀ j, j < k → H_X12_pairedOf_36 d (nI s) (nI (zlow s)) (nI (zclr s (zlow s))) (nI (zlow s + 1 + j)) m = if zfpQ F k (zlow s) s j = true then some (nI (zlow s + 1 + j), m) else H_X12_pairedOf_36 d (nI s) (nI (zlow s)) (nI (zclr s (zlow s))) (nI (zlow s + 1 + (j + 1))) m := by
      intro j hj
      have b6 : zlow s + 1 + j < 6 := by omega
      have cl2 := zclr_l (zclr s (zlow s)) (zlow s + 1 + j)
      have al : zclr s (zlow s) &&& F (zlow s) ≤ zclr s (zlow s) := Nat.and_le_left
      have B3 := zbo3 (F := F) h6 hs h0 hk (b := zlow s + 1 + j) (by omega) b6
      have bg := zmp_b F k (zlow s + 1) (zclr s (zlow s + 1 + j))
      have tb : (zclr s (zlow s) &&& F (zlow s)).testBit (zlow s + 1 + j) = ((F (zlow s)).testBit (zlow s + 1 + j) && s.testBit (zlow s + 1 + j)) := by
        rw [Nat.testBit_and, zclr_t (by omega) e2 b6, decide_eq_false (by omega), Bool.not_false, Bool.and_true, Bool.and_comm]
      have a1 : (1 : Int32) + nI (zmp F k (zlow s + 1) (zclr s (zlow s + 1 + j))) = nI (1 + zmp F k (zlow s + 1) (zclr s (zlow s + 1 + j))) := nI_add 1 _
      rw [H_X12_pairedOf_36_eq, n_ok (show zlow s < 2 ^ 31 by omega), n_gd (show zlow s < 6 by omega), nI_clamp (show zlow s < 2 ^ 31 by omega), hF _ (by omega), z_and, z_an2 (by omega) b6, tb, zclr_i (show zclr s (zlow s) < 64 by omega) b6, n_ok (show zclr (zclr s (zlow s)) (zlow s + 1 + j) < 2 ^ 31 by omega), n_gd (show zclr (zclr s (zlow s)) (zlow s + 1 + j) < 64 by omega), nI_clamp (show zclr (zclr s (zlow s)) (zlow s + 1 + j) < 2 ^ 31 by omega), n_ok (show s < 2 ^ 31 by omega), n_gd (show s < 64 by omega), nI_clamp (show s < 2 ^ 31 by omega), hB _ (show zclr (zclr s (zlow s)) (zlow s + 1 + j) < 2 ^ tN T by omega), hB s hs, B1, B3, a1, nI_1]
      unfold zfpQ
      cases hc : ((F (zlow s)).testBit (zlow s + 1 + j) && s.testBit (zlow s + 1 + j)) with
      | false => rfl
      | true =>
        rw [if_pos rfl, Bool.true_and]
        by_cases q : 1 + zmp F k (zlow s + 1) (zclr s (zlow s + 1 + j)) = zmp F (k + 1) (zlow s) s
        · rw [decide_eq_true q, if_pos rfl, if_pos (by rw [q])]
        · rw [decide_eq_false q, if_neg (show ¬ nI (1 + zmp F k (zlow s + 1) (zclr s (zlow s + 1 + j))) = nI (zmp F (k + 1) (zlow s) s) from fun z => q ((nI_eq (by omega) (by omega)).mp z)), if_neg (show ¬ (false = true) by decide)]
          rfl
    have key := zlp (fun j (_ : Unit) => H_X12_pairedOf_36 d (nI s) (nI (zlow s)) (nI (zclr s (zlow s))) (nI (zlow s + 1 + j)) m) (fun r => r = (zfpI (zlow s) ((List.range k).find? (zfpQ F k (zlow s) s)), m)) (fun j _ => ((List.range k).take j).find? (zfpQ F k (zlow s) s) = none) j0 ?_ ?_ 0 () (Nat.zero_le _) rfl
    · obtain ⟨r, e, rfl⟩ := key
      exact e
    · intro j _ hj P
      show (∃ _y : Unit, ((List.range k).take (j + 1)).find? (zfpQ F k (zlow s) s) = none ∧ H_X12_pairedOf_36 d (nI s) (nI (zlow s)) (nI (zclr s (zlow s))) (nI (zlow s + 1 + j)) m = H_X12_pairedOf_36 d (nI s) (nI (zlow s)) (nI (zclr s (zlow s))) (nI (zlow s + 1 + (j + 1))) m) ∨ (∃ r, H_X12_pairedOf_36 d (nI s) (nI (zlow s)) (nI (zclr s (zlow s))) (nI (zlow s + 1 + j)) m = some r ∧ _)
      rw [step j (by omega)]
      have hg := zrange_get (show j < k by omega)
      cases hc : zfpQ F k (zlow s) s j with
      | false => exact Or.inl ⟨(), zfind_n hg P hc, rfl⟩
      | true =>
        refine Or.inr ⟨_, rfl, ?_⟩
        rw [zfind hg P hc]
        rfl
    · intro _ P
      show ∃ r, H_X12_pairedOf_36 d (nI s) (nI (zlow s)) (nI (zclr s (zlow s))) (nI (zlow s + 1 + j0)) m = some r ∧ _
      rw [step j0 hj1, hq0, if_pos rfl, hj0]
      exact ⟨_, rfl, rfl⟩
theorem r_pt (h6 : tN T ≤ 6) (hF : ∀ a, a < tN T → mz_rd m 275 a = nI (F a)) (hF2 : ∀ a, F a < 64) (hB : ∀ t, t < 2 ^ tN T → mz_rd m 276 t = nI (zmp F (tN T) 0 t)) {i : Nat} (hi : i < tN T) : ∀ k p s l, p + k = tN T → s < 64 → l < 2 ^ tN T → (∀ j, j < p → l.testBit j = false) → (∀ j, p ≤ j → j < 6 → l.testBit j = s.testBit j) → l.testBit i = true → H_X12_paired_45 d (nI i) (nI l) m = some (zpt F i k p s, m) := by
  have p64 : 2 ^ tN T ≤ 2 ^ 6 := Nat.pow_le_pow_right (by omega) h6
  intro k
  induction k with
  | zero =>
    intro p s l hp hs hl g1 g2 g3
    rw [g1 i (by omega)] at g3
    cases g3
  | succ k ih =>
    intro p s l hp hs hl g1 g2 g3
    have l0 : l ≠ 0 := fun z => by rw [z, Nat.zero_testBit] at g3; cases g3
    show _ = some ((if s.testBit p = true then (if p = i then zfpI p (zfp F k p s) else match zfp F k p s with
      | none => zpt F i k (p + 1) s
      | some j => if p + 1 + j = i then nI p else zpt F i k (p + 1) (zclr s (p + 1 + j))) else zpt F i k (p + 1) s), m)
    cases hb : s.testBit p with
    | false =>
      rw [if_neg (by decide)]
      exact ih (p + 1) s l (by omega) hs hl (fun j hj => by
        by_cases c : j = p
        · subst c; rw [g2 j (Nat.le_refl _) (by omega)]; exact hb
        · exact g1 j (by omega)) (fun j a b => g2 j (by omega) b) g3
    | true =>
      have lp : l.testBit p = true := by rw [g2 p (Nat.le_refl _) (by omega)]; exact hb
      obtain ⟨e1, e2, e3⟩ := zlow_e (s := l) (by omega) l0
      have zl : zlow l = p := by
        rcases Nat.lt_trichotomy (zlow l) p with q | q | q
        · rw [g1 _ q] at e1; cases e1
        · exact q
        · rw [e3 p q] at lp; cases lp
      have cl := zclr_l l p
      have po := r_pOf (d := d) h6 hF hF2 hB hl l0 (k := k) (by rw [zl]; exact hp)
      rw [zl, zfp_agree (t := s) (by omega) (by omega) hs g2] at po
      rw [H_X12_paired_45_eq, r_low (by omega) l0, zl, Option.bind_some]
      dsimp only
      rw [po, Option.bind_some, if_pos rfl]
      dsimp only
      by_cases c : p = i
      · rw [if_neg (fun z => z (by rw [c])), if_pos c]
      · rw [if_pos (fun z => c ((nI_eq (by omega) (by omega)).mp z)), if_neg c, zclr_i (show l < 64 by omega) (by omega)]
        have k1 : ∀ j, j < p + 1 → (zclr l p).testBit j = false := fun j hj => by
          rw [zclr_t (by omega) (by omega) (by omega)]
          by_cases q : j = p
          · rw [decide_eq_true q, Bool.not_true, Bool.and_false]
          · rw [g1 j (by omega), Bool.false_and]
        have k2 : ∀ j, p + 1 ≤ j → j < 6 → (zclr l p).testBit j = s.testBit j := fun j a b => by
          rw [zclr_t (by omega) (by omega) b, decide_eq_false (by omega), Bool.not_false, Bool.and_true]
          exact g2 j (by omega) b
        have k3 : (zclr l p).testBit i = true := by
          rw [zclr_t (by omega) (by omega) (by omega), decide_eq_false (fun z => c z.symm), g3]
          rfl
        cases e : zfp F k p s with
        | none =>
          have q0 : zfpI p none = -2 := rfl
          rw [q0, if_pos (fun z => z_ne2 (k := i) (by omega) z.symm), if_pos (by decide)]
          exact ih (p + 1) s (zclr l p) (by omega) hs (by omega) k1 k2 k3
        | some j =>
          have hj := zfp_lt e
          have q0 : zfpI p (some j) = nI (p + 1 + j) := rfl
          have cl2 := zclr_l (zclr l p) (p + 1 + j)
          have cl3 := zclr_l s (p + 1 + j)
          dsimp only
          rw [q0]
          by_cases c2 : p + 1 + j = i
          · rw [if_neg (fun z => z (by rw [c2])), if_pos c2]
          · rw [if_pos (fun z => c2 ((nI_eq (by omega) (by omega)).mp z)), if_neg (nI_pos (by omega)), if_neg c2, zclr_i (show zclr l p < 64 by omega) (by omega)]
            exact ih (p + 1) (zclr s (p + 1 + j)) (zclr (zclr l p) (p + 1 + j)) (by omega) (by omega) (by omega) (fun q hq => by
              rw [zclr_t (by omega) (by omega) (by omega), k1 q hq, Bool.false_and]) (fun q a b => by
              rw [zclr_t (by omega) (by omega) b, zclr_t hs (by omega) b, k2 q a b]) (by
              rw [zclr_t (by omega) (by omega) (by omega), k3, decide_eq_false (fun z => c2 z.symm)]
              rfl)
end ZPr
theorem zfP_64 (T : ZT) (v : Nat → Nat) (h6 : tN T ≤ 6) (a : Nat) : zmk (zfP T v a) (tN T) < 64 := by
  have := zmk_lt (zfP T v a) (tN T)
  have p64 : 2 ^ tN T ≤ 2 ^ 6 := Nat.pow_le_pow_right (by omega) h6
  omega
theorem o_paired : mz_o_paired zI := by
  intro n m a0 hn hI
  obtain ⟨T, lv, v, h⟩ := id hI
  obtain ⟨h1, h2, h3, h4, h5, -⟩ := h
  have h6 := h1.1.1
  have p64 : 2 ^ tN T ≤ 2 ^ 6 := Nat.pow_le_pow_right (by omega) h6
  have p1 : 0 < 2 ^ tN T := Nat.two_pow_pos _
  have F64 := zfP_64 T v h6
  have x1 := R_X11_paired_eq 8 a0 m
  have x2 := fun mm => R_X12_paired_eq 8 a0 mm
  obtain ⟨m1, e1, f1, t1, q1⟩ := c_foesAt (d := 8) h1 h3 h5
  have f1 := zFo_Q f1
  obtain ⟨m2, e2, f2, t2, -, q2⟩ := r_fillsFoes (d := 8) (zTR_q h2 f1) (zRA_q h4 f1) h5
  obtain ⟨m3, e3, f3, q3⟩ := r_tab (d := 8) (F := fun a => zmk (zfP T v a) (tN T)) t2 q2 F64
  have t3 : zTR T lv m3 := zTR_f t2 (fun a i z => f3.1 a i (by unfold zPd; unfold zRx at z; omega))
  have q4 : ∀ a, a < tN T → mz_rd m3 275 a = nI (zmk (zfP T v a) (tN T)) := fun a ha => (f3.1 275 a (by unfold zPd; omega)).trans (q2 a ha)
  have e4 : R_X12_fillsPaired 8 m1 = some m3 := by rw [R_X12_fillsPaired_eq, e2, Option.bind_some, e3]
  have F3 : zFr zRQ m1 m3 := zFr_t f2 (zFr_m f3 (fun a i z => by unfold zPd at z; unfold zRQ; omega))
  obtain ⟨-, l2, l3, l4, -⟩ := id t3
  by_cases ca : a0 = -1
  · subst ca
    have c0 : R_X0_mostPairs 8 m1 = some (nI (zmp (fun a => zmk (zfP T v a) (tN T)) (tN T) 0 (2 ^ tN T - 1)), m1) := by
      have y : R_X0_mostPairsFrom 8 0 (nI (2 ^ tN T - 1)) m1 = _ := c_mp (F := fun a => zmk (zfP T v a) (tN T)) t1 q1 F64 (tN T) 0 (2 ^ tN T - 1) 8 (by omega) (by omega) (by omega)
      rw [R_X0_mostPairs_eq, R_X0_everybody_eq, t1.2.1, z_all h6, Option.bind_some]
      dsimp only
      rw [y, Option.bind_some]
    rw [if_pos rfl, e1, Option.bind_some, if_neg (fun z => z rfl), c0, Option.bind_some] at x1
    have x3 := x2 m1
    rw [if_pos rfl, e4, Option.bind_some, l3, n_ok (by omega), n_gd l2, nI_clamp (by omega), l4, if_neg (fun z => z rfl), z_all h6, n_ok (by omega), n_gd (by omega), nI_clamp (by omega), q3 _ (by omega)] at x3
    exact ⟨_, _, _, x1, x3, zI_q hn hI f1 F3⟩
  · rw [if_neg ca] at x1
    cases cp : zIsP (tN T) a0 with
    | false =>
      rw [c_isP h1, cp, Option.bind_some] at x1
      have x3 := x2 m
      rw [if_neg ca, r_isP h2, cp, Option.bind_some] at x3
      exact ⟨_, _, _, x1, x3, zI_q hn hI zFr_r zFr_r⟩
    | true =>
      obtain ⟨i, hi, rfl⟩ := zIsP_t cp (by omega)
      rw [c_isP h1, cp, Option.bind_some] at x1
      dsimp only at x1
      have c0 : R_X0_partnerOf 8 (nI i) m1 = some (zpt (fun a => zmk (zfP T v a) (tN T)) i (tN T) 0 (2 ^ tN T - 1), m1) := by
        have y : H_X0_partnerOf_7 8 (nI i) (nI (2 ^ tN T - 1)) 0 m1 = _ := c_pt (F := fun a => zmk (zfP T v a) (tN T)) t1 q1 F64 hi (tN T) 0 (2 ^ tN T - 1) (by omega) (by omega)
        rw [R_X0_partnerOf_eq, R_X0_everybody_eq, t1.2.1, z_all h6, Option.bind_some]
        exact y
      rw [zb_t1, e1, Option.bind_some, if_pos ca, c0, Option.bind_some] at x1
      have x3 := x2 m1
      rw [if_neg ca, r_isP (zTR_q h2 f1), cp, Option.bind_some] at x3
      dsimp only at x3
      rw [zb_t1, e4, Option.bind_some, l3, n_ok (by omega), n_gd l2, nI_clamp (by omega), l4, if_pos ca, z_all h6, r_pt (F := fun a => zmk (zfP T v a) (tN T)) h6 q4 F64 q3 hi (tN T) 0 (2 ^ tN T - 1) (2 ^ tN T - 1) (by omega) (by omega) (by omega) (fun j hj => by omega) (fun _ _ _ => rfl) (by rw [Nat.testBit_two_pow_sub_one, decide_eq_true hi])] at x3
      exact ⟨_, _, _, x1, x3, zI_q hn hI f1 F3⟩
