/-! obligations: poorest, plates, crumbs -/
theorem o_poorest : mz_o_poorest zI := by
  intro n m a1 hn hI
  obtain ⟨T, lv, v, h⟩ := id hI
  obtain ⟨h1, h2, h3, h4, h5, -⟩ := h
  have h6 := h1.1.1
  have hb := zBn_3 hn
  have x1 := R_X11_poorest_eq 8 a1 m
  have x2 := R_X12_poorest_eq 8 a1 m
  rw [c_is01, Option.bind_some] at x1
  rw [r_in (n := 2) (by omega) (by decide), Option.bind_some] at x2
  dsimp only at x1 x2
  cases c2 : zIsP 2 a1 with
  | false =>
    rw [c2, zb_f1] at x1 x2
    exact ⟨_, _, _, x1, x2, zI_q hn hI zFr_r zFr_r⟩
  | true =>
    rw [c2, zb_t1] at x1 x2
    have bd : ∀ q, q < tN T → zof v q ≤ 4 * zBn n := fun q hq => by
      have b0 : v (4 * q) ≤ zBn n := zB_a h5 hq (t := 0) (by omega)
      have b1 := zB_a h5 hq (t := 1) (by omega)
      have b2 := zB_a h5 hq (t := 2) (by omega)
      have b3 := zB_a h5 hq (t := 3) (by omega)
      unfold zof
      omega
    have cl : ∃ r, H_X11_poorest_18 8 a1 (zo1 (zarg zltB (fun k => k) (zof v) 0)) (zo2 (zarg zltB (fun k => k) (zof v) 0)) (nI 0) m = some r ∧ r = (if ¬ a1 = 0 then zo2 (zarg zltB (fun k => k) (zof v) (tN T)) else zo1 (zarg zltB (fun k => k) (zof v) (tN T)), m) := by
      refine zlp (fun k (_ : Unit) => H_X11_poorest_18 8 a1 (zo1 (zarg zltB (fun k => k) (zof v) k)) (zo2 (zarg zltB (fun k => k) (zof v) k)) (nI k) m) (fun r => r = (if ¬ a1 = 0 then zo2 (zarg zltB (fun k => k) (zof v) (tN T)) else zo1 (zarg zltB (fun k => k) (zof v) (tN T)), m)) (fun _ _ => True) (tN T) ?_ ?_ 0 () (by omega) trivial
      · intro k _ hk _
        left
        refine ⟨(), trivial, ?_⟩
        show H_X11_poorest_18 8 a1 _ _ (nI k) m = H_X11_poorest_18 8 a1 _ _ (nI (k + 1)) m
        rw [H_X11_poorest_18_eq, h1.2.1, if_neg (nI_ge hk (by omega)), c_ofAll z_s29 h3 h6 hk, Option.bind_some]
        dsimp only
        rw [nI_1]
        exact zarg_c (fun u w => H_X11_poorest_18 8 a1 u w (nI (k + 1)) m) (c := fun k => k) (f := zof v) (k := k) (fun j hj => by show j ≤ _; omega) (fun j hj => by have := bd j (by omega); omega)
      · intro _ _
        show ∃ r, H_X11_poorest_18 8 a1 _ _ (nI (tN T)) m = some r ∧ _
        rw [H_X11_poorest_18_eq, h1.2.1, if_pos (nI_le (Nat.le_refl _) (by omega))]
        by_cases q : a1 = 0
        · rw [if_neg (fun z => z q), if_neg (fun z => z q)]; exact ⟨_, rfl, rfl⟩
        · rw [if_pos q, if_pos q]; exact ⟨_, rfl, rfl⟩
    obtain ⟨r1, e1, rfl⟩ := cl
    have e1' : H_X11_poorest_18 8 a1 (-2) (-2) 0 m = _ := e1
    rw [e1'] at x1
    obtain ⟨m2, e2, f2, g2, -, -⟩ := r_copies (d := 8) h2 h4
    have t2 := zTR_C h2 f2
    obtain ⟨-, l2, l3, l4, -⟩ := id t2
    have rl : ∃ r, H_X12_poorest_20 8 a1 (zo1 (zarg zltB (fun k => k) (zof v) 0)) (nI 0) m2 = some r ∧ r = (if ¬ a1 = 0 then zo2 (zarg zltB (fun k => k) (zof v) (tN T)) else zo1 (zarg zltB (fun k => k) (zof v) (tN T)), m2) := by
      refine zlp (fun k (_ : Unit) => H_X12_poorest_20 8 a1 (zo1 (zarg zltB (fun k => k) (zof v) k)) (nI k) m2) (fun r => r = (if ¬ a1 = 0 then zo2 (zarg zltB (fun k => k) (zof v) (tN T)) else zo1 (zarg zltB (fun k => k) (zof v) (tN T)), m2)) (fun _ _ => True) (tN T) ?_ ?_ 0 () (by omega) trivial
      · intro k _ hk _
        left
        refine ⟨(), trivial, ?_⟩
        show H_X12_poorest_20 8 a1 _ (nI k) m2 = H_X12_poorest_20 8 a1 (zo1 (match zarg zltB (fun k => k) (zof v) k with
          | none => some (k, zof v k)
          | some r => if zltB (zof v k) r.2 = true then some (k, zof v k) else some r)) (nI (k + 1)) m2
        rw [H_X12_poorest_20_eq, l3, n_ok (by omega), n_gd l2, nI_clamp (by omega), l4, if_neg (nI_ge hk (by omega))]
        cases e : zarg zltB (fun k => k) (zof v) k with
        | none =>
          rw [if_pos (show zo1 none < 0 by decide), nI_1]
          rfl
        | some r =>
          obtain ⟨r1, r2⟩ := zarg_v e
          have b1 := bd k hk
          have b2 := bd r.1 (by omega)
          have q0 : zo1 (some r) = nI r.1 := rfl
          rw [q0, if_neg (nI_pos (by omega)), r_of g2 h6 hk, Option.bind_some]
          dsimp only
          rw [r_of g2 h6 (show r.1 < tN T by omega), Option.bind_some]
          dsimp only
          rw [nI_1, ← r2]
          by_cases q : r.2 ≤ zof v k
          · rw [if_pos (nI_le q (by omega)), if_neg (by simp only [decide_eq_true_eq]; omega)]
            rfl
          · rw [if_neg (nI_ge (by omega) (by omega)), if_pos (by simp only [decide_eq_true_eq]; omega)]
            rfl
      · intro _ _
        show ∃ r, H_X12_poorest_20 8 a1 _ (nI (tN T)) m2 = some r ∧ _
        rw [H_X12_poorest_20_eq, l3, n_ok (by omega), n_gd l2, nI_clamp (by omega), l4, if_pos (nI_le (Nat.le_refl _) (by omega))]
        cases e : zarg zltB (fun k => k) (zof v) (tN T) with
        | none =>
          rw [if_pos (show zo1 none < 0 by decide)]
          refine ⟨_, rfl, ?_⟩
          by_cases q : a1 = 0
          · rw [if_neg (fun z => z q)]
          · rw [if_pos q]; rfl
        | some r =>
          obtain ⟨r1, r2⟩ := zarg_v e
          have q0 : zo1 (some r) = nI r.1 := rfl
          have q9 : zo2 (some r) = nI r.2 := rfl
          rw [q0, q9, if_neg (nI_pos (by omega)), r_of g2 h6 r1, Option.bind_some, ← r2]
          by_cases q : a1 = 0
          · rw [if_neg (fun z => z q), if_neg (fun z => z q)]; exact ⟨_, rfl, rfl⟩
          · rw [if_pos q, if_pos q]; exact ⟨_, rfl, rfl⟩
    obtain ⟨r2, e3, rfl⟩ := rl
    have e3' : H_X12_poorest_20 8 a1 (-2) 0 m2 = _ := e3
    rw [e2, Option.bind_some, e3'] at x2
    exact ⟨_, _, _, x1, x2, zI_q hn hI zFr_r (zRC_Q f2)⟩
/-- with another plate -/
def zpla (v : Nat → Nat) (f : Nat) : Nat → Nat := zUpd (zUpd v 34 f) 35 0
theorem zpla_B {np B f : Nat} {v : Nat → Nat} (h : zB np B v) (hn : np ≤ 6) : zB np B (zpla v f) := by
  refine ⟨fun t ht => ?_, ?_, ?_, h.2.2.2⟩
  · have e1 := h.1 t ht
    have e2 : (zSum np fun p => zpla v f (4 * p + t)) = zSum np fun p => v (4 * p + t) := zSum_e (fun p hp => by unfold zpla; rw [zUpd_n (by omega), zUpd_n (by omega)])
    unfold zTot at e1 ⊢
    rw [e2]
    unfold zpla
    rw [zUpd_n (by omega), zUpd_n (by omega)]
    exact e1
  · unfold zpla
    rw [zUpd_s]
    omega
  · unfold zpla
    rw [zUpd_n (by omega), zUpd_n (by omega)]
    exact h.2.2.1
theorem zsc_B {np B : Nat} {v : Nat → Nat} (h : zB np B v) : zsc v ≤ 4 * B := by
  have b0 : v 30 ≤ B := zB_s h (t := 0) (by omega)
  have b1 : v 31 ≤ B := zB_s h (t := 1) (by omega)
  have b2 : v 32 ≤ B := zB_s h (t := 2) (by omega)
  have b3 : v 33 ≤ B := zB_s h (t := 3) (by omega)
  unfold zsc
  omega
def zp1 (o : Option (Nat × Nat)) : Int32 := match o with
  | none => -1
  | some r => nI r.1
def zp2 (o : Option (Nat × Nat)) (x : Int32) : Int32 := match o with
  | none => x
  | some r => nI r.2
theorem o_plates : mz_o_plates zI := by
  intro n m a0 a1 a2 hn hI
  obtain ⟨T, lv, v, h⟩ := id hI
  obtain ⟨h1, h2, h3, h4, h5, -⟩ := h
  have h6 := h1.1.1
  have hb := zBn_3 hn
  have x1 := R_X11_plates_eq 8 a0 a1 a2 m
  have x2 := fun mm => R_X12_plates_eq 8 a0 a1 a2 mm
  cases c : zIs2 (tN T) a0 a1 with
  | false =>
    rw [c_is2 h1, c, Option.bind_some] at x1
    have x3 := x2 m
    rw [r_is2 h2, c, Option.bind_some] at x3
    exact ⟨_, _, _, x1, x3, zI_q hn hI zFr_r zFr_r⟩
  | true =>
    rw [c_is2 h1, c, Option.bind_some] at x1
    dsimp only at x1
    rw [zb_t0, c_is01, Option.bind_some] at x1
    dsimp only at x1
    obtain ⟨p, q, hp, hq, hpq, rfl, rfl⟩ := zIs2_t c (by omega)
    have x4 : ∀ mm, zTR T lv mm → R_X12_plates 8 (nI p) (nI q) a2 mm = if ¬ zb (zIsP 2 a2) = 0 then (H_X12_plates_29 8 (nI p) (nI q) a2 (-1) 0 1 mm) else (some ((-1), mm)) := fun mm hh => by
      rw [x2 mm, r_is2 hh, c, Option.bind_some]
      dsimp only
      rw [zb_t0, r_in (n := 2) (by omega) (by decide), Option.bind_some]
    cases c2 : zIsP 2 a2 with
    | false =>
      rw [c2, zb_f1] at x1
      have x3 := x4 m h2
      rw [c2, zb_f1] at x3
      exact ⟨_, _, _, x1, x3, zI_q hn hI zFr_r zFr_r⟩
    | true =>
      rw [c2, zb_t1] at x1
      have ff : ∀ k, k < 9 → zsc (zturn T (zpla v (k + 1)) p q) ≤ 4 * zBn n := fun k hk => zsc_B (zturn_B (zpla_B h5 h6) h6 hp hq hpq)
      have cl : ∃ r, H_X11_plates_27 8 (nI p) (nI q) a2 (zp1 (zarg zltB (fun k => k + 1) (fun k => zsc (zturn T (zpla v (k + 1)) p q)) 0)) (zp2 (zarg zltB (fun k => k + 1) (fun k => zsc (zturn T (zpla v (k + 1)) p q)) 0) (-1)) (nI (0 + 1)) m = some r ∧ r.1 = (if ¬ a2 = 0 then zp2 (zarg zltB (fun k => k + 1) (fun k => zsc (zturn T (zpla v (k + 1)) p q)) 9) 0 else zp1 (zarg zltB (fun k => k + 1) (fun k => zsc (zturn T (zpla v (k + 1)) p q)) 9)) ∧ zFr (zES 33) m r.2 := by
        refine zlp (fun k (x : MzM) => H_X11_plates_27 8 (nI p) (nI q) a2 (zp1 (zarg zltB (fun k => k + 1) (fun k => zsc (zturn T (zpla v (k + 1)) p q)) k)) (zp2 (zarg zltB (fun k => k + 1) (fun k => zsc (zturn T (zpla v (k + 1)) p q)) k) (-1)) (nI (k + 1)) x) (fun r => r.1 = (if ¬ a2 = 0 then zp2 (zarg zltB (fun k => k + 1) (fun k => zsc (zturn T (zpla v (k + 1)) p q)) 9) 0 else zp1 (zarg zltB (fun k => k + 1) (fun k => zsc (zturn T (zpla v (k + 1)) p q)) 9)) ∧ zFr (zES 33) m r.2) (fun k x => zFr (zES 33) m x) 9 ?_ ?_ 0 m (by omega) zFr_r
        · intro k x hk F
          left
          have Tx := zTC_S h1 z_s33 F
          obtain ⟨m1, e1, f1, g1⟩ := c_copy (d := 8) z_s33 z_s29 (by omega) (zSC_S h3 z_s29 z_s33 (by omega) F)
          have F1 := zFr_t F (zS_Q f1)
          have F2 : zFr (zES 33) m (mz_wr (mz_wr m1 33 5 (nI (k + 1))) 33 6 0) := zFr_w2 (zFr_w2 F1 (Or.inr (by omega))) (Or.inr (by omega))
          have g2 : zSC (tN T) (mz_wr (mz_wr m1 33 5 (nI (k + 1))) 33 6 0) 33 (zpla v (k + 1)) := zSC_u6 (zSC_u5 g1 (k + 1)) 0
          have b1 := zpla_B (f := k + 1) h5 h6
          obtain ⟨m3, e3, f3, g3⟩ := c_putThrough (d := 8) (zTC_S h1 z_s33 F2) z_s33 g2 b1 hp hq hpq
          refine ⟨m3, zFr_t F2 f3, ?_⟩
          show H_X11_plates_27 8 (nI p) (nI q) a2 _ _ (nI (k + 1)) x = H_X11_plates_27 8 (nI p) (nI q) a2 (zp1 (match zarg zltB (fun k => k + 1) (fun k => zsc (zturn T (zpla v (k + 1)) p q)) k with
            | none => some (k + 1, zsc (zturn T (zpla v (k + 1)) p q))
            | some r => if zltB (zsc (zturn T (zpla v (k + 1)) p q)) r.2 = true then some (k + 1, zsc (zturn T (zpla v (k + 1)) p q)) else some r)) (zp2 (match zarg zltB (fun k => k + 1) (fun k => zsc (zturn T (zpla v (k + 1)) p q)) k with
            | none => some (k + 1, zsc (zturn T (zpla v (k + 1)) p q))
            | some r => if zltB (zsc (zturn T (zpla v (k + 1)) p q)) r.2 = true then some (k + 1, zsc (zturn T (zpla v (k + 1)) p q)) else some r) (-1)) (nI (k + 1 + 1)) m3
          rw [H_X11_plates_27_eq, if_neg (show ¬ (9 : Int32) < nI (k + 1) from nI_nlt (a := 9) (by omega) (by omega)), e1, Option.bind_some, R_X6_changePlate_eq 8 33 _ m1 z_s33, Option.bind_some, e3, Option.bind_some, c_inScrew z_s33 g3, Option.bind_some]
          dsimp only
          rw [nI_1]
          have fk := ff k hk
          cases e : zarg zltB (fun k => k + 1) (fun k => zsc (zturn T (zpla v (k + 1)) p q)) k with
          | none =>
            rw [if_pos (show zp1 none = -1 from rfl)]
            rfl
          | some r =>
            have rb := zarg_b (lt := zltB) (C := 9) (F := 4 * zBn n) (k := k) (fun j hj => by show j + 1 ≤ 9; omega) (fun j hj => ff j (by omega)) r e
            have q0 : zp1 (some r) = nI r.1 := rfl
            have q9 : zp2 (some r) (-1) = nI r.2 := rfl
            rw [q0, q9, if_neg (z_ne1 (by omega))]
            by_cases q : r.2 ≤ zsc (zturn T (zpla v (k + 1)) p q)
            · rw [if_pos (nI_le q (by omega))]
              dsimp only
              rw [if_neg (by simp only [decide_eq_true_eq]; omega)]
              rfl
            · rw [if_neg (nI_ge (by omega) (by omega))]
              dsimp only
              rw [if_pos (by simp only [decide_eq_true_eq]; omega)]
              rfl
        · intro x F
          show ∃ r, H_X11_plates_27 8 (nI p) (nI q) a2 _ _ (nI (9 + 1)) x = some r ∧ _
          rw [H_X11_plates_27_eq, if_pos (by decide)]
          obtain ⟨r, e⟩ := zarg_some (lt := zltB) (c := fun k => k + 1) (f := fun k => zsc (zturn T (zpla v (k + 1)) p q)) (k := 9) (by omega)
          rw [e]
          by_cases q : a2 = 0
          · rw [if_neg (fun z => z q), if_neg (fun z => z q)]; exact ⟨_, rfl, rfl, F⟩
          · rw [if_pos q, if_pos q]; exact ⟨_, rfl, rfl, F⟩
      obtain ⟨⟨r1, m1⟩, e1, rfl, f1⟩ := cl
      have e1' : H_X11_plates_27 8 (nI p) (nI q) a2 (-1) (-1) 1 m = _ := e1
      rw [e1'] at x1
      have f1 := zT_Q f1
      have t1 := zTR_q h2 f1
      have rl : ∃ r, H_X12_plates_29 8 (nI p) (nI q) a2 (zp1 (zarg zltB (fun k => k + 1) (fun k => zsc (zturn T (zpla v (k + 1)) p q)) 0)) (zp2 (zarg zltB (fun k => k + 1) (fun k => zsc (zturn T (zpla v (k + 1)) p q)) 0) 0) (nI (0 + 1)) m1 = some r ∧ r.1 = (if ¬ a2 = 0 then zp2 (zarg zltB (fun k => k + 1) (fun k => zsc (zturn T (zpla v (k + 1)) p q)) 9) 0 else zp1 (zarg zltB (fun k => k + 1) (fun k => zsc (zturn T (zpla v (k + 1)) p q)) 9)) ∧ zFr zRQ m1 r.2 := by
        refine zlp (fun k (x : MzM) => H_X12_plates_29 8 (nI p) (nI q) a2 (zp1 (zarg zltB (fun k => k + 1) (fun k => zsc (zturn T (zpla v (k + 1)) p q)) k)) (zp2 (zarg zltB (fun k => k + 1) (fun k => zsc (zturn T (zpla v (k + 1)) p q)) k) 0) (nI (k + 1)) x) (fun r => r.1 = (if ¬ a2 = 0 then zp2 (zarg zltB (fun k => k + 1) (fun k => zsc (zturn T (zpla v (k + 1)) p q)) 9) 0 else zp1 (zarg zltB (fun k => k + 1) (fun k => zsc (zturn T (zpla v (k + 1)) p q)) 9)) ∧ zFr zRQ m1 r.2) (fun k x => zFr zRQ m1 x) 9 ?_ ?_ 0 m1 (by omega) zFr_r
        · intro k x hk F
          left
          have Tx := zTR_Q t1 F
          obtain ⟨m2, e2, f2, g2, -, -⟩ := r_copies (d := 8) Tx (zRA_Q (zRA_q h4 f1) F)
          have F2 : zFr zRC x (mz_wr (mz_wr m2 271 34 (nI (k + 1))) 271 35 0) := zFr_w2 (zFr_w2 f2 (Or.inl rfl)) (Or.inl rfl)
          have g3 : zRA (tN T) (mz_wr (mz_wr m2 271 34 (nI (k + 1))) 271 35 0) 271 (zpla v (k + 1)) := zRA_u (zRA_u g2 34 (k + 1)) 35 0
          have b1 := zpla_B (f := k + 1) h5 h6
          obtain ⟨m3, e3, f3, g4⟩ := r_turn (d := 8) (zTR_C Tx F2) g3 b1 hp hq hpq
          refine ⟨m3, zFr_t F (zFr_t (zRC_Q F2) (zR_Q f3)), ?_⟩
          show H_X12_plates_29 8 (nI p) (nI q) a2 _ _ (nI (k + 1)) x = H_X12_plates_29 8 (nI p) (nI q) a2 (zp1 (match zarg zltB (fun k => k + 1) (fun k => zsc (zturn T (zpla v (k + 1)) p q)) k with
            | none => some (k + 1, zsc (zturn T (zpla v (k + 1)) p q))
            | some r => if zltB (zsc (zturn T (zpla v (k + 1)) p q)) r.2 = true then some (k + 1, zsc (zturn T (zpla v (k + 1)) p q)) else some r)) (zp2 (match zarg zltB (fun k => k + 1) (fun k => zsc (zturn T (zpla v (k + 1)) p q)) k with
            | none => some (k + 1, zsc (zturn T (zpla v (k + 1)) p q))
            | some r => if zltB (zsc (zturn T (zpla v (k + 1)) p q)) r.2 = true then some (k + 1, zsc (zturn T (zpla v (k + 1)) p q)) else some r) 0) (nI (k + 1 + 1)) m3
          rw [H_X12_plates_29_eq, if_neg (show ¬ (9 : Int32) < nI (k + 1) from nI_nlt (a := 9) (by omega) (by omega)), e2, Option.bind_some, e3, Option.bind_some, r_sc g4, Option.bind_some]
          dsimp only
          rw [nI_1]
          have fk := ff k hk
          cases e : zarg zltB (fun k => k + 1) (fun k => zsc (zturn T (zpla v (k + 1)) p q)) k with
          | none =>
            rw [if_pos (show zp1 none < 0 by decide)]
            rfl
          | some r =>
            have rb := zarg_b (lt := zltB) (C := 9) (F := 4 * zBn n) (k := k) (fun j hj => by show j + 1 ≤ 9; omega) (fun j hj => ff j (by omega)) r e
            have q0 : zp1 (some r) = nI r.1 := rfl
            have q9 : zp2 (some r) 0 = nI r.2 := rfl
            rw [q0, q9, if_neg (nI_pos (by omega))]
            by_cases q : r.2 ≤ zsc (zturn T (zpla v (k + 1)) p q)
            · rw [if_neg (nI_nlt q (by omega))]
              dsimp only
              rw [if_neg (by simp only [decide_eq_true_eq]; omega)]
              rfl
            · rw [if_pos (nI_lt (by omega) (by omega))]
              dsimp only
              rw [if_pos (by simp only [decide_eq_true_eq]; omega)]
              rfl
        · intro x F
          show ∃ r, H_X12_plates_29 8 (nI p) (nI q) a2 _ _ (nI (9 + 1)) x = some r ∧ _
          rw [H_X12_plates_29_eq, if_pos (by decide)]
          by_cases q : a2 = 0
          · rw [if_neg (fun z => z q), if_neg (fun z => z q)]; exact ⟨_, rfl, rfl, F⟩
          · rw [if_pos q, if_pos q]; exact ⟨_, rfl, rfl, F⟩
      obtain ⟨⟨r2, m2⟩, e2, rfl, f2⟩ := rl
      have e2' : H_X12_plates_29 8 (nI p) (nI q) a2 (-1) 0 1 m1 = _ := e2
      have x3 := x4 m1 t1
      rw [c2, zb_t1, e2'] at x3
      exact ⟨_, _, _, x1, x3, zI_q hn hI f1 f2⟩
/-- crumbs: with k more of t in the screw -/
def zcr (T : ZT) (v : Nat → Nat) (a b t x : Nat) : Nat → Nat → Int32
  | 0, _ => -2
  | f + 1, k => if zhf T (zUpd v (30 + t) (v (30 + t) + k)) a b t < x then zcr T v a b t x f (k + 1) else nI k
theorem o_crumbs : mz_o_crumbs zI := by
  intro n m a0 a1 a2 a3 hn hI
  obtain ⟨T, lv, v, h⟩ := id hI
  obtain ⟨h1, h2, h3, h4, h5, -⟩ := h
  have h6 := h1.1.1
  have hb := zBn_3 hn
  have x1 := R_X11_crumbs_eq 8 a0 a1 a2 a3 m
  have x2 := fun mm => R_X12_crumbs_eq 8 a0 a1 a2 a3 mm
  cases c : zIs2 (tN T) a0 a1 with
  | false =>
    rw [c_is2 h1, c, Option.bind_some] at x1
    have x3 := x2 m
    rw [r_is2 h2, c, Option.bind_some] at x3
    exact ⟨_, _, _, x1, x3, zI_q hn hI zFr_r zFr_r⟩
  | true =>
    rw [c_is2 h1, c, Option.bind_some] at x1
    dsimp only at x1
    rw [zb_t0] at x1
    obtain ⟨p, q, hp, hq, hpq, rfl, rfl⟩ := zIs2_t c (by omega)
    cases c4 : zIsP 4 a2 with
    | false =>
      rw [c_isS, c4, Option.bind_some] at x1
      have x3 := x2 m
      rw [r_is2 h2, c, Option.bind_some] at x3
      dsimp only at x3
      rw [zb_t0, r_isS, c4, Option.bind_some] at x3
      exact ⟨_, _, _, x1, x3, zI_q hn hI zFr_r zFr_r⟩
    | true =>
      rw [c_isS, c4, Option.bind_some] at x1
      dsimp only at x1
      rw [zb_t0, c_isA, Option.bind_some] at x1
      dsimp only at x1
      obtain ⟨t, ht, rfl⟩ := zIsP_t c4 (by omega)
      have x4 : ∀ mm, zTR T lv mm → R_X12_crumbs 8 (nI p) (nI q) (nI t) a3 mm = if ¬ zb (zIsP 1000 a3) = 0 then (H_X12_crumbs_33 8 (nI p) (nI q) (nI t) a3 0 mm) else (some ((-1), mm)) := fun mm hh => by
        rw [x2 mm, r_is2 hh, c, Option.bind_some]
        dsimp only
        rw [zb_t0, r_isS, c4, Option.bind_some]
        dsimp only
        rw [zb_t0, r_in (n := 1000) (by omega) (by decide), Option.bind_some]
      cases c9 : zIsP 1000 a3 with
      | false =>
        rw [c9, zb_f1] at x1
        have x3 := x4 m h2
        rw [c9, zb_f1] at x3
        exact ⟨_, _, _, x1, x3, zI_q hn hI zFr_r zFr_r⟩
      | true =>
        obtain ⟨w, hw, rfl⟩ := zIsP_t c9 (by omega)
        have bk : ∀ k, k ≤ 99 → zB (tN T) (zBn n + k) (zUpd v (30 + t) (v (30 + t) + k)) := fun k hk => zB_in h5 h6 ht (by omega)
        have hl : ∀ k, k ≤ 99 → zhf T (zUpd v (30 + t) (v (30 + t) + k)) p q t ≤ zBn n + k := fun k hk => by
          have := zB_all (bk k hk) hp hq hpq ht
          unfold zhf
          omega
        have uf : ∀ k, k < 100 → zcr T v p q t w (100 - k) k = if zhf T (zUpd v (30 + t) (v (30 + t) + k)) p q t < w then zcr T v p q t w (100 - (k + 1)) (k + 1) else nI k := fun k hk => by
          rw [show 100 - k = (100 - (k + 1)) + 1 by omega]
          rfl
        obtain ⟨m0, e0, f0, g0⟩ := c_copy (d := 8) z_s33 z_s29 (by omega) h3
        have cl : ∃ r, H_X11_crumbs_40 8 (nI p) (nI q) (nI t) (nI w) (nI 0) m0 = some r ∧ r.1 = zcr T v p q t w 100 0 ∧ zFr (zES 33) m r.2 := by
          refine zlp (fun k x => H_X11_crumbs_40 8 (nI p) (nI q) (nI t) (nI w) (nI k) x) (fun r => r.1 = zcr T v p q t w 100 0 ∧ zFr (zES 33) m r.2) (fun k x => zcr T v p q t w 100 0 = zcr T v p q t w (100 - k) k ∧ zFr (zES 33) m x ∧ ∃ y, zSC (tN T) x 33 (zUpd v (30 + t) y)) 100 ?_ ?_ 0 m0 (by omega) ⟨rfl, zS_Q f0, v (30 + t), ?_⟩
          · rintro k x hk ⟨P, F, y, S⟩
            have Tx := zTC_S h1 z_s33 F
            have z1 : mz_rd x 31 t = nI (v (30 + t)) := zSC_w (zSC_S h3 z_s29 z_s33 (by omega) F) ht
            have F2 : zFr (zES 33) x (mz_wr x 35 t (nI (v (30 + t) + k))) := zFr_w (Or.inr (by omega))
            have S2 : zSC (tN T) (mz_wr x 35 t (nI (v (30 + t) + k))) 33 (zUpd v (30 + t) (v (30 + t) + k)) := by
              have := zSC_uw S (t := t) (v (30 + t) + k) ht
              have e : zUpd (zUpd v (30 + t) y) (30 + t) (v (30 + t) + k) = zUpd v (30 + t) (v (30 + t) + k) := by
                funext i
                unfold zUpd
                split <;> rfl
              rw [e] at this
              exact this
            obtain ⟨m1, e1, f1⟩ := c_share (d := 8) (zTC_S Tx z_s33 F2) z_s33 S2 (bk k (by omega)) hp hq hpq ht
            have hlk := hl k (by omega)
            show (∃ y, (zcr T v p q t w 100 0 = zcr T v p q t w (100 - (k + 1)) (k + 1) ∧ zFr (zES 33) m y ∧ ∃ z, zSC (tN T) y 33 (zUpd v (30 + t) z)) ∧ H_X11_crumbs_40 8 (nI p) (nI q) (nI t) (nI w) (nI k) x = H_X11_crumbs_40 8 (nI p) (nI q) (nI t) (nI w) (nI (k + 1)) y) ∨ (∃ r, H_X11_crumbs_40 8 (nI p) (nI q) (nI t) (nI w) (nI k) x = some r ∧ _)
            rw [H_X11_crumbs_40_eq, if_neg (show ¬ (99 : Int32) < nI k from nI_nlt (a := 99) (by omega) (by omega)), n_ok (by omega), n_gd ht, n_gd ht, nI_clamp (by omega), z1, nI_add, e1, Option.bind_some]
            dsimp only
            rw [P, uf k hk]
            by_cases cc : zhf T (zUpd v (30 + t) (v (30 + t) + k)) p q t < w
            · rw [if_pos (nI_lt cc (by omega)), if_pos cc, nI_1]
              exact Or.inl ⟨m1, ⟨rfl, zFr_t F (zFr_t F2 (zE_S f1)), _, zSC_E S2 z_s33 f1⟩, rfl⟩
            · rw [if_neg (nI_nlt (by omega) (by omega)), if_neg cc]
              exact Or.inr ⟨_, rfl, rfl, zFr_t F (zFr_t F2 (zE_S f1))⟩
          · rintro x ⟨P, F, -⟩
            show ∃ r, H_X11_crumbs_40 8 (nI p) (nI q) (nI t) (nI w) (nI 100) x = some r ∧ _
            rw [H_X11_crumbs_40_eq, if_pos (by decide), P]
            exact ⟨_, rfl, rfl, F⟩
          · have e : zUpd v (30 + t) (v (30 + t)) = v := by
              funext i
              unfold zUpd
              split
              · rename_i hh; rw [hh]
              · rfl
            rw [e]
            exact g0
        obtain ⟨⟨r1, m1⟩, e1, rfl, f1⟩ := cl
        have e1' : H_X11_crumbs_40 8 (nI p) (nI q) (nI t) (nI w) 0 m0 = _ := e1
        rw [c9, zb_t1, e0, Option.bind_some, e1'] at x1
        have f1 := zT_Q f1
        have t1 := zTR_q h2 f1
        have rl : ∃ r, H_X12_crumbs_33 8 (nI p) (nI q) (nI t) (nI w) (nI 0) m1 = some r ∧ r.1 = zcr T v p q t w 100 0 ∧ zFr zRQ m1 r.2 := by
          refine zlp (fun k x => H_X12_crumbs_33 8 (nI p) (nI q) (nI t) (nI w) (nI k) x) (fun r => r.1 = zcr T v p q t w 100 0 ∧ zFr zRQ m1 r.2) (fun k x => zcr T v p q t w 100 0 = zcr T v p q t w (100 - k) k ∧ zFr zRQ m1 x) 100 ?_ ?_ 0 m1 (by omega) ⟨rfl, zFr_r⟩
          · rintro k x hk ⟨P, F⟩
            have Tx := zTR_Q t1 F
            obtain ⟨m2, e2, f2, g2, -, -⟩ := r_copies (d := 8) Tx (zRA_Q (zRA_q h4 f1) F)
            have z1 := g2 (30 + t) (by omega) (by omega)
            have F2 : zFr zRC x (mz_wr m2 271 (30 + t) (nI (v (30 + t) + k))) := zFr_w2 f2 (Or.inl rfl)
            have g3 := zRA_u g2 (30 + t) (v (30 + t) + k)
            obtain ⟨m3, e3, f3, g4⟩ := r_turn (d := 8) (zTR_C Tx F2) g3 (bk k (by omega)) hp hq hpq
            have z2 := g4 (4 * p + t) (by omega) (by omega)
            rw [(zturn_a (by omega) (by omega) ht).1] at z2
            have hlk := hl k (by omega)
            have FF := zFr_t F (zFr_t (zRC_Q F2) (zR_Q f3))
            show (∃ y, (zcr T v p q t w 100 0 = zcr T v p q t w (100 - (k + 1)) (k + 1) ∧ zFr zRQ m1 y) ∧ H_X12_crumbs_33 8 (nI p) (nI q) (nI t) (nI w) (nI k) x = H_X12_crumbs_33 8 (nI p) (nI q) (nI t) (nI w) (nI (k + 1)) y) ∨ (∃ r, H_X12_crumbs_33 8 (nI p) (nI q) (nI t) (nI w) (nI k) x = some r ∧ _)
            rw [H_X12_crumbs_33_eq, if_neg (show ¬ (99 : Int32) < nI k from nI_nlt (a := 99) (by omega) (by omega)), e2, Option.bind_some, z_add30, n_ok (by omega), n_gd (by omega), n_gd (by omega), nI_clamp (by omega), z1, nI_add, e3, Option.bind_some, z_mul4, nI_add, n_ok (by omega), n_gd (by omega), nI_clamp (by omega), z2]
            rw [P, uf k hk]
            by_cases cc : zhf T (zUpd v (30 + t) (v (30 + t) + k)) p q t < w
            · rw [if_pos (nI_lt cc (by omega)), if_pos cc, nI_1]
              exact Or.inl ⟨m3, ⟨rfl, FF⟩, rfl⟩
            · rw [if_neg (nI_nlt (by omega) (by omega)), if_neg cc]
              exact Or.inr ⟨_, rfl, rfl, FF⟩
          · rintro x ⟨P, F⟩
            show ∃ r, H_X12_crumbs_33 8 (nI p) (nI q) (nI t) (nI w) (nI 100) x = some r ∧ _
            rw [H_X12_crumbs_33_eq, if_pos (by decide), P]
            exact ⟨_, rfl, rfl, F⟩
        obtain ⟨⟨r2, m2⟩, e2, rfl, f2⟩ := rl
        have e2' : H_X12_crumbs_33 8 (nI p) (nI q) (nI t) (nI w) 0 m1 = _ := e2
        have x3 := x4 m1 t1
        rw [c9, zb_t1, e2'] at x3
        exact ⟨_, _, _, x1, x3, zI_q hn hI f1 f2⟩
