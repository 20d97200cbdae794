/-! what is done by hand, and undone -/
def zRmF (x a i : Nat) : Prop := (a = 201 ∧ i = 4) ∨ a = 37 ∨ (39 + 4 * x ≤ a ∧ a ≤ 39 + 4 * x + 3)
theorem c_rem {np u x d : Nat} {m : MzM} {v : Nat → Nat} (hu : u ≤ 40) (hx : x < 40) (e2 : mz_rd m 37 2 = nI u) (e1 : mz_rd m 37 1 = nI x) (h : zSC np m 29 v) : ∃ m', R_X11_rememberNow d m = some m' ∧ zFr (zRmF x) m m' ∧ mz_rd m' 201 4 = 0 ∧ mz_rd m' 37 1 = nI ((x + 1) % 40) ∧ mz_rd m' 37 2 = nI (min (u + 1) 40) ∧ zSC np m' (39 + 4 * x) v := by
  have f0 : zFr (zRmF x) m (mz_wr m 201 4 0) := zFr_w (Or.inl ⟨rfl, rfl⟩)
  have h0 : zSC np (mz_wr m 201 4 0) 29 v := zSC_f h (fun a i p q => m_ne (by omega))
  obtain ⟨m1, c1, f1, g1⟩ := c_copy (d := d) (isS_ring x hx) z_s29 (by omega) h0
  have F1 : zFr (zRmF x) m m1 := zFr_t f0 (zFr_m f1 (fun a i z => Or.inr (Or.inr z)))
  have w1 : mz_rd m1 37 1 = nI x := by
    rw [f1.1 37 1 (by omega), m_ne (by omega), e1]
  have w2 : mz_rd m1 37 2 = nI u := by
    rw [f1.1 37 2 (by omega), m_ne (by omega), e2]
  have w4 : mz_rd m1 201 4 = 0 := by
    rw [f1.1 201 4 (by omega), m_eq]
  have r40 : nI (x + 1) - nI (x + 1) / 40 * 40 = nI ((x + 1) % 40) := pk_rem (d := 40) (by omega) (by omega) (by omega)
  have hm : (if (40 : Int32) < nI (u + 1) then 40 else nI (u + 1)) = nI (min (u + 1) 40) := by
    by_cases c : 40 < u + 1
    · rw [if_pos (show (40 : Int32) < nI (u + 1) from nI_lt (a := 40) c (by omega)), Nat.min_eq_right (by omega)]; rfl
    · rw [if_neg (show ¬ (40 : Int32) < nI (u + 1) from nI_nlt (a := 40) (by omega) (by omega)), Nat.min_eq_left (by omega)]
  have c1' : R_X6_copyFrom d (39 + 4 * x) 29 (mz_wr m 201 4 0) = some m1 := c1
  rw [R_X11_rememberNow_eq, R_X5_forgetFound_eq, Option.bind_some, R_X1_remember_eq d 29 _ z_s29, m_ne (show 37 ≠ 201 by omega), e1, n_ok (by omega), n_gd hx, nI_clamp (by omega), c1', Option.bind_some, w1, nI_1, r40, m_ni (show 2 ≠ 1 by omega), w2, nI_1, hm, Option.bind_some]
  refine ⟨_, rfl, zFr_w2 (zFr_w2 F1 (Or.inr (Or.inl rfl))) (Or.inr (Or.inl rfl)), ?_, ?_, m_eq, ?_⟩
  · rw [m_ne (by omega), m_ne (by omega)]; exact w4
  · rw [m_ni (by omega), m_eq]
  · exact zSC_f g1 (fun a i p q => by rw [m_ne (by omega), m_ne (by omega)])
theorem r_keeps {np d : Nat} {m : MzM} {w : Nat → Nat} (h : zRA np m 271 w) : ∃ m', R_X12_keepsRow d m = some m' ∧ zFr (fun a _ => a = 270) m m' ∧ zRA np m' 270 w := by
  rw [R_X12_keepsRow_eq]
  refine zlp (fun k x => H_X12_keepsRow_2 d (nI k) x) (fun m' => zFr (fun a _ => a = 270) m m' ∧ zRA np m' 270 w) (fun k x => zFr (fun a _ => a = 270) m x ∧ ∀ j, j < k → mz_rd x 270 j = mz_rd m 271 j) 39 ?_ ?_ 0 m (Nat.zero_le _) ⟨zFr_r, fun j hj => by omega⟩
  · rintro k x hk ⟨F, S⟩
    left
    show ∃ y, (zFr (fun a _ => a = 270) m y ∧ ∀ j, j < k + 1 → mz_rd y 270 j = mz_rd m 271 j) ∧ H_X12_keepsRow_2 d (nI k) x = H_X12_keepsRow_2 d (nI (k + 1)) y
    have g39 : ¬ (39 : Int32) ≤ nI k := nI_ge (b := 39) hk (by omega)
    rw [H_X12_keepsRow_2_eq, if_neg g39, n_ok (by omega), n_gd hk, n_gd hk, nI_clamp (by omega), nI_1]
    refine ⟨_, ⟨zFr_w2 F rfl, fun j hj => ?_⟩, rfl⟩
    by_cases c : j = k
    · subst c
      rw [m_eq, F.1 271 j (by omega)]
    · rw [m_ni c]
      exact S j (by omega)
  · rintro x ⟨F, S⟩
    have g39 : (39 : Int32) ≤ nI 39 := by decide
    show ∃ r, H_X12_keepsRow_2 d (nI 39) x = some r ∧ _
    rw [H_X12_keepsRow_2_eq, if_pos g39]
    exact ⟨_, rfl, F, fun k h1 h2 => (S k h1).trans (h k h1 h2)⟩
def zRcF (a i : Nat) : Prop := a = 270 ∨ a = 273 ∨ (a = 239 ∧ i = 52)
theorem z_mul39 (x : Nat) : (39 : Int32) * nI x = nI (39 * x) := pk_mul 39 x
/-- the last step of records: now goes behind what is recorded -/
theorem r_rec51 {np d u : Nat} {m : MzM} {v w : Nat → Nat} (hu : u < 40) (e : mz_rd m 239 52 = nI u) (hN : zRA np m 270 v) (hR : zRA np m 271 w) : ∃ m', H_X12_records_51 d (nI 0) m = some m' ∧ zFr zRcF m m' ∧ mz_rd m' 239 52 = nI (u + 1) ∧ zRA np m' 270 w ∧ zRO np m' 273 (39 * u) v ∧ (∀ i, i < 39 * u → mz_rd m' 273 i = mz_rd m 273 i) := by
  refine zlp (fun k x => H_X12_records_51 d (nI k) x) (fun m' => zFr zRcF m m' ∧ mz_rd m' 239 52 = nI (u + 1) ∧ zRA np m' 270 w ∧ zRO np m' 273 (39 * u) v ∧ (∀ i, i < 39 * u → mz_rd m' 273 i = mz_rd m 273 i)) (fun k x => zFr (fun a _ => a = 273) m x ∧ (∀ j, j < k → mz_rd x 273 (39 * u + j) = mz_rd m 270 j) ∧ (∀ i, i < 39 * u → mz_rd x 273 i = mz_rd m 273 i)) 39 ?_ ?_ 0 m (Nat.zero_le _) ⟨zFr_r, fun j hj => by omega, fun _ _ => rfl⟩
  · rintro k x hk ⟨F, S, P⟩
    left
    show ∃ y, (zFr (fun a _ => a = 273) m y ∧ (∀ j, j < k + 1 → mz_rd y 273 (39 * u + j) = mz_rd m 270 j) ∧ (∀ i, i < 39 * u → mz_rd y 273 i = mz_rd m 273 i)) ∧ H_X12_records_51 d (nI k) x = H_X12_records_51 d (nI (k + 1)) y
    have g39 : ¬ (39 : Int32) ≤ nI k := nI_ge (b := 39) hk (by omega)
    have x52 : mz_rd x 239 52 = nI u := (F.1 239 52 (by omega)).trans e
    rw [H_X12_records_51_eq, if_neg g39, x52, z_mul39, nI_add, n_ok (by omega), n_ok (by omega), n_gd hk, n_gd (by omega), nI_clamp (by omega), nI_clamp (by omega), nI_1]
    refine ⟨_, ⟨zFr_w2 F rfl, fun j hj => ?_, fun i hi => ?_⟩, rfl⟩
    · by_cases c : j = k
      · subst c
        rw [m_eq, F.1 270 j (by omega)]
      · rw [m_ni (by omega)]
        exact S j (by omega)
    · rw [m_ni (by omega)]
      exact P i hi
  · rintro x ⟨F, S, P⟩
    have g39 : (39 : Int32) ≤ nI 39 := by decide
    have x52 : mz_rd x 239 52 = nI u := (F.1 239 52 (by omega)).trans e
    show ∃ r, H_X12_records_51 d (nI 39) x = some r ∧ _
    have hR2 : zRA np (mz_wr x 239 52 (nI (u + 1))) 271 w := zRA_f hR (fun i => by rw [m_ne (by omega)]; exact F.1 271 i (by omega))
    obtain ⟨m2, e2, f2, g2⟩ := r_keeps (d := d) hR2
    rw [H_X12_records_51_eq, if_pos g39, x52, nI_1, e2, Option.bind_some]
    refine ⟨m2, rfl, ?_, ?_, g2, ?_, ?_⟩
    · exact zFr_t (zFr_w2 (zFr_m F (fun a i z => Or.inr (Or.inl z))) (Or.inr (Or.inr ⟨rfl, rfl⟩))) (zFr_m f2 (fun a i z => Or.inl z))
    · rw [f2.1 239 52 (by omega), m_eq]
    · intro k h1 h2
      rw [f2.1 273 _ (by omega), m_ne (by omega), S k h1]
      exact hN k h1 h2
    · intro i hi
      rw [f2.1 273 _ (by omega), m_ne (by omega)]
      exact P i hi
/-- records: 40 at most -/
theorem r_records {np d u : Nat} {m : MzM} {v w : Nat → Nat} (hu : u ≤ 40) (e : mz_rd m 239 52 = nI u) (hN : zRA np m 270 v) (hR : zRA np m 271 w) : ∃ m', R_X12_records d m = some m' ∧ zFr zRcF m m' ∧ mz_rd m' 239 52 = nI (min (u + 1) 40) ∧ zRA np m' 270 w ∧ zRO np m' 273 (39 * (min (u + 1) 40 - 1)) v ∧ (∀ j, j + 1 < min (u + 1) 40 → ∀ k, k < 39 → mz_rd m' 273 (39 * (min (u + 1) 40 - 1 - (j + 1)) + k) = mz_rd m 273 (39 * (u - 1 - j) + k)) := by
  by_cases c : u = 40
  · subst c
    have t40 : (40 : Int32) = nI 40 := rfl
    have lp : ∃ m1, H_X12_records_11 d (nI 0) m = H_X12_records_51 d 0 m1 ∧ zFr zRcF m m1 ∧ mz_rd m1 239 52 = nI 39 ∧ zRA np m1 270 v ∧ zRA np m1 271 w ∧ ∀ i, i < 1521 → mz_rd m1 273 i = mz_rd m 273 (i + 39) := by
      have key : ∀ (j k : Nat) (x : MzM), 1521 - k = j → k ≤ 1521 → zFr (fun a _ => a = 273) m x → (∀ i, i < k → mz_rd x 273 i = mz_rd m 273 (i + 39)) → (∀ i, k ≤ i → mz_rd x 273 i = mz_rd m 273 i) → ∃ m1, H_X12_records_11 d (nI k) x = H_X12_records_51 d 0 m1 ∧ zFr zRcF m m1 ∧ mz_rd m1 239 52 = nI 39 ∧ zRA np m1 270 v ∧ zRA np m1 271 w ∧ ∀ i, i < 1521 → mz_rd m1 273 i = mz_rd m 273 (i + 39) := by
        intro j
        induction j with
        | zero =>
          intro k x q1 q2 F S P
          have : k = 1521 := by omega
          subst this
          have x52 : mz_rd x 239 52 = nI 40 := (F.1 239 52 (by omega)).trans e
          have s40 : nI 40 - 1 = nI 39 := by decide
          rw [H_X12_records_11_eq, if_pos (by decide), x52, s40]
          refine ⟨_, rfl, zFr_w2 (zFr_m F (fun a i z => Or.inr (Or.inl z))) (Or.inr (Or.inr ⟨rfl, rfl⟩)), m_eq, zRA_f hN (fun i => by rw [m_ne (by omega)]; exact F.1 270 i (by omega)), zRA_f hR (fun i => by rw [m_ne (by omega)]; exact F.1 271 i (by omega)), fun i hi => ?_⟩
          rw [m_ne (by omega)]
          exact S i hi
        | succ j ih =>
          intro k x q1 q2 F S P
          have a39 : nI k + 39 = nI (k + 39) := nI_add k 39
          have hk : ¬ (1521 : Int32) ≤ nI k := nI_ge (b := 1521) (by omega) (by omega)
          rw [H_X12_records_11_eq, if_neg hk, a39, n_ok (by omega), n_ok (by omega), n_gd (by omega), n_gd (by omega), nI_clamp (by omega), nI_clamp (by omega), nI_1]
          refine ih (k + 1) _ (by omega) (by omega) (zFr_w2 F rfl) (fun i hi => ?_) (fun i hi => ?_)
          · by_cases c : i = k
            · subst c
              rw [m_eq]
              exact P _ (by omega)
            · rw [m_ni c]
              exact S i (by omega)
          · rw [m_ni (by omega)]
            exact P i (by omega)
      exact key _ 0 m rfl (by omega) zFr_r (fun i hi => by omega) (fun _ _ => rfl)
    obtain ⟨m1, e1, f1, u1, n1, r1, s1⟩ := lp
    obtain ⟨m2, e2, f2, u2, n2, o2, p2⟩ := r_rec51 (d := d) (u := 39) (by omega) u1 n1 r1
    have e1' : H_X12_records_11 d 0 m = H_X12_records_51 d 0 m1 := e1
    have e2' : H_X12_records_51 d 0 m1 = some m2 := e2
    rw [R_X12_records_eq, e, if_neg (fun z => z rfl), e1', e2']
    refine ⟨m2, rfl, zFr_t f1 f2, u2, n2, o2, ?_⟩
    intro j hj k hk
    have hj2 : j + 1 < 40 := hj
    show mz_rd m2 273 (39 * (40 - 1 - (j + 1)) + k) = _
    rw [p2 _ (by omega), s1 _ (by omega)]
    congr 1
    omega
  · have t40 : ¬ nI u = 40 := fun z => by have := (nI_eq (a := u) (b := 40) (by omega) (by omega)).mp z; omega
    obtain ⟨m2, e2, f2, u2, n2, o2, p2⟩ := r_rec51 (d := d) (u := u) (by omega) e hN hR
    have e2' : H_X12_records_51 d 0 m = some m2 := e2
    have hm : min (u + 1) 40 = u + 1 := Nat.min_eq_left (by omega)
    rw [R_X12_records_eq, e, if_pos t40, e2', hm]
    refine ⟨m2, rfl, f2, u2, n2, o2, ?_⟩
    intro j hj k hk
    rw [p2 _ (by omega)]
    congr 1
    omega
/-- behind a thing done: the class remembered v and has w now; so has the reference -/
theorem zI_mut {T : ZT} {lv n u x : Nat} {v w : Nat → Nat} {m m1 mc mr : MzM} (hn : n < 512) (h : zIv T lv v n m) (hu : u ≤ 40) (hx : x < 40) (f1 : zFr (zRmF x) m m1) (q1 : mz_rd m1 201 4 = 0) (q2 : mz_rd m1 37 1 = nI ((x + 1) % 40)) (q3 : mz_rd m1 37 2 = nI (min (u + 1) 40)) (q4 : zSC (tN T) m1 (39 + 4 * x) v)
    (fc : zFr (zES 29) m1 mc) (sc : zSC (tN T) mc 29 w) (hB : zB (tN T) (zBn (n + 1)) w) {mx : MzM} (fx : zFr zRQ mc mx) (fr : zFr zRcF mx mr) (r1 : mz_rd mr 239 52 = nI (min (u + 1) 40)) (r2 : zRA (tN T) mr 270 w) (r3 : zRO (tN T) mr 273 (39 * (min (u + 1) 40 - 1)) v) (r4 : ∀ j, j + 1 < min (u + 1) 40 → ∀ k, k < 39 → mz_rd mr 273 (39 * (min (u + 1) 40 - 1 - (j + 1)) + k) = mz_rd mx 273 (39 * (u - 1 - j) + k))
    (hist : ∀ j, j < u → ∃ w, zB (tN T) (zBn n) w ∧ zSC (tN T) m (39 + 4 * ((x + 39 - j) % 40)) w ∧ zRO (tN T) m 273 (39 * (u - 1 - j)) w) : zI (n + 1) mr := by
  obtain ⟨h1, h2, h3, h4, h5, h6, h7, h8, h9, h10, h11, h12⟩ := h
  have A : ∀ a i, ¬ zRmF x a i → ¬ zES 29 a i → ¬ zRQ a i → ¬ zRcF a i → mz_rd mr a i = mz_rd m a i := fun a i k1 k2 k3 k4 => (fr.1 a i k4).trans ((fx.1 a i k3).trans ((fc.1 a i k2).trans (f1.1 a i k1)))
  refine ⟨T, lv, w, zTC_f h1 (fun a i t => A a i ?_ ?_ ?_ ?_), zTR_f h2 (fun a i t => A a i ?_ ?_ ?_ ?_), zSC_f sc (fun a i p q => (fr.1 a i ?_).trans (fx.1 a i ?_)), r2, hB, zTape_f h6 (fun a i t => A a i ?_ ?_ ?_ ?_), ?_, ?_, zSl_f h9 (zBn_1 n) (zBn_2 hn) (fun a i t => A a i ?_ ?_ ?_ ?_), zTo_f h10 (fun a i t => A a i ?_ ?_ ?_ ?_), Or.inl ?_, ?_⟩
  · unfold zRmF; unfold zTx at t; omega
  · unfold zES zE; unfold zTx at t; omega
  · unfold zRQ; unfold zTx at t; omega
  · unfold zRcF; unfold zTx at t; omega
  · unfold zRmF; unfold zRx at t; omega
  · unfold zES zE; unfold zRx at t; omega
  · unfold zRQ; unfold zRx at t; omega
  · unfold zRcF; unfold zRx at t; omega
  · unfold zRcF; omega
  · unfold zRQ; omega
  · unfold zRmF; unfold zTapeG at t; omega
  · unfold zES zE; unfold zTapeG at t; omega
  · unfold zRQ; unfold zTapeG at t; omega
  · unfold zRcF; unfold zTapeG at t; omega
  · rw [A 1 13 (by unfold zRmF; omega) (by unfold zES zE; omega) (by unfold zRQ; omega) (by unfold zRcF; omega), A 239 17 (by unfold zRmF; omega) (by unfold zES zE; omega) (by unfold zRQ; omega) (by unfold zRcF; omega)]
    exact h7
  · refine ⟨min (u + 1) 40, (x + 1) % 40, by omega, Nat.mod_lt _ (by omega), ?_, ?_, r1, ?_⟩
    · rw [fr.1 37 2 (by unfold zRcF; omega), fx.1 37 2 (by unfold zRQ; omega), fc.1 37 2 (by unfold zES zE; omega)]
      exact q3
    · rw [fr.1 37 1 (by unfold zRcF; omega), fx.1 37 1 (by unfold zRQ; omega), fc.1 37 1 (by unfold zES zE; omega)]
      exact q2
    · intro j hj
      cases j with
      | zero =>
        refine ⟨v, zB_mono h5 (zBn_1 n) (zBn_2 hn), ?_, r3⟩
        have ex : ((x + 1) % 40 + 39 - 0) % 40 = x := by omega
        rw [ex]
        exact zSC_f q4 (fun a i p q => by rw [fr.1 a i (by unfold zRcF; omega), fx.1 a i (by unfold zRQ; omega), fc.1 a i (by unfold zES zE; omega)])
      | succ j =>
        obtain ⟨w', y1, y2, y3⟩ := hist j (by omega)
        have ex : ((x + 1) % 40 + 39 - (j + 1)) % 40 = (x + 39 - j) % 40 := by omega
        have ne : (x + 39 - j) % 40 ≠ x := by omega
        have lt := Nat.mod_lt (x + 39 - j) (show 40 > 0 by omega)
        refine ⟨w', zB_mono y1 (zBn_1 n) (zBn_2 hn), ?_, ?_⟩
        · rw [ex]
          exact zSC_f y2 (fun a i p q => A a i (by unfold zRmF; omega) (by unfold zES zE; omega) (by unfold zRQ; omega) (by unfold zRcF; omega))
        · intro k k1 k2
          rw [r4 j hj k k1, fx.1 273 _ (by unfold zRQ; omega), fc.1 273 _ (by unfold zES zE; omega), f1.1 273 _ (by unfold zRmF; omega)]
          exact y3 k k1 k2
  · unfold zRmF; unfold zSlG at t; omega
  · unfold zES zE; unfold zSlG at t; omega
  · unfold zRQ; unfold zSlG at t; omega
  · unfold zRcF; unfold zSlG at t; omega
  · unfold zRmF; unfold zToG at t; omega
  · unfold zES zE; unfold zToG at t; omega
  · unfold zRQ; unfold zToG at t; omega
  · unfold zRcF; unfold zToG at t; omega
  · rw [fr.1 201 4 (by unfold zRcF; omega), fx.1 201 4 (by unfold zRQ; omega), fc.1 201 4 (by unfold zES zE; omega)]
    exact q1
  · unfold zKy
    rw [fr.2, fx.2, fc.2, f1.2]
    exact h12
