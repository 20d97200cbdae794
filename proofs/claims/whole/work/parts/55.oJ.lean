/-! obligations: forget, tell, foes -/
theorem zIv_to {T : ZT} {lv n : Nat} {v : Nat → Nat} {m m' : MzM} (hn : n < 512) (h : zIv T lv v n m) (f : zFr zToG m m') (ht : zTo (tN T) m') : zIv T lv v (n + 1) m' := by
  obtain ⟨h1, h2, h3, h4, h5, h6, h7, h8, h9, h10, h11, h12⟩ := h
  refine ⟨zTC_f h1 (fun a i t => f.1 a i ?_), zTR_f h2 (fun a i t => f.1 a i ?_), zSC_f h3 (fun a i p q => f.1 a i ?_), zRA_f h4 (fun i => f.1 _ i ?_), zB_mono h5 (zBn_1 n) (zBn_2 hn), zTape_f h6 (fun a i t => f.1 a i ?_), ?_, zHi_f h8 (zBn_1 n) (zBn_2 hn) (fun a i t => f.1 a i ?_), zSl_f h9 (zBn_1 n) (zBn_2 hn) (fun a i t => f.1 a i ?_), ht, zRo_f h11 (fun a i t => f.1 a i ?_), ?_⟩
  · unfold zToG; unfold zTx at t; omega
  · unfold zToG; unfold zRx at t; omega
  · unfold zToG; omega
  · unfold zToG; omega
  · unfold zToG; unfold zTapeG at t; omega
  · rw [f.1 1 13 (by unfold zToG; omega), f.1 239 17 (by unfold zToG; omega)]
    exact h7
  · unfold zToG; unfold zHiG at t; omega
  · unfold zToG; unfold zSlG at t; omega
  · unfold zToG; unfold zRoG at t; omega
  · unfold zKy
    rw [f.2]
    exact h12
theorem o_forget : mz_o_forget zI := by
  intro n m hn hI
  obtain ⟨T, lv, v, h⟩ := id hI
  obtain ⟨u, u1, u2, u3, u4⟩ := h.2.2.2.2.2.2.2.2.2.1
  have x1 := R_X11_forget_eq 8 m
  rw [R_X10_clear_eq, Option.bind_some, u2] at x1
  have x2 := R_X12_forget_eq 8 (mz_wr m 222 6 0)
  rw [m_ne (show 239 ≠ 222 by omega), u3] at x2
  refine ⟨_, _, _, x1, x2, T, lv, v, zIv_to hn h (zFr_w2 (zFr_w (by unfold zToG; omega)) (by unfold zToG; omega)) ⟨0, by omega, ?_, m_eq, fun j hj => by omega⟩⟩
  rw [m_ne (by omega), m_eq]
  rfl
theorem o_tell : mz_o_tell zI := by
  intro n m a0 a1 a2 a3 hn hI hso
  obtain ⟨T, lv, v, h⟩ := id hI
  obtain ⟨h1, h2, -⟩ := id h
  have h6 := h1.1.1
  obtain ⟨u, u1, u2, u3, u4⟩ := h.2.2.2.2.2.2.2.2.2.1
  have x1 := R_X11_tell_eq 8 a0 a1 a2 a3 m
  have x2 := fun mm => R_X12_tell_eq 8 a0 a1 a2 a3 mm
  have bad : R_X11_tell 8 a0 a1 a2 a3 m = some (-1, m) → R_X12_tell 8 a0 a1 a2 a3 m = some (-1, m) → ∃ v m1 m2, R_X11_tell 8 a0 a1 a2 a3 m = some (v, m1) ∧ R_X12_tell 8 a0 a1 a2 a3 m1 = some (v, m2) ∧ zI (n + 1) m2 := fun e1 e2 => ⟨_, _, _, e1, e2, zI_q hn hI zFr_r zFr_r⟩
  by_cases c20 : u = 20
  · have r2 : R_X12_tell 8 a0 a1 a2 a3 m = some (-1, m) := by
      rw [x2, u3, c20, if_pos (by decide)]
    refine bad ?_ r2
    rw [x1, c_isP h1, Option.bind_some]
    dsimp only
    rw [c_isS, Option.bind_some]
    dsimp only
    rw [c_isA, Option.bind_some]
    dsimp only
    have add20 : R_X10_add 8 a0 a1 a2 a3 m = some (-1, m) := by rw [R_X10_add_eq, u2, c20, if_neg (by decide)]
    rw [add20, Option.bind_some]
    cases zIsP (tN T) a0 with
    | false => rfl
    | true =>
      cases zIsP 4 a1 with
      | false => rfl
      | true => cases zIsP 1000 a2 <;> rfl
  · have n20 : ¬ nI u = 20 := fun z => c20 ((nI_eq (a := u) (b := 20) (by omega) (by omega)).mp z)
    have l20 : nI u < (20 : Int32) := nI_lt (b := 20) (by omega) (by omega)
    have r2 : ∀ mm, mz_rd mm 239 62 = nI u → zTR T lv mm → _ := fun mm (q1 : mz_rd mm 239 62 = nI u) (q2 : zTR T lv mm) => by
      have y := x2 mm
      rw [q1, if_neg n20, r_isP q2, Option.bind_some] at y
      dsimp only at y
      rw [r_isS, Option.bind_some] at y
      dsimp only at y
      rw [r_in (n := 1000) (by omega) (by decide), Option.bind_some] at y
      exact y
    have r1 := x1
    rw [c_isP h1, Option.bind_some] at r1
    dsimp only at r1
    rw [c_isS, Option.bind_some] at r1
    dsimp only at r1
    rw [c_isA, Option.bind_some] at r1
    cases cp : zIsP (tN T) a0 with
    | false =>
      have q := r2 m u3 h2
      rw [cp] at r1 q
      exact bad r1 q
    | true =>
      cases cs : zIsP 4 a1 with
      | false =>
        have q := r2 m u3 h2
        rw [cp, cs] at r1 q
        exact bad r1 q
      | true =>
        cases ca : zIsP 1000 a2 with
        | false =>
          have q := r2 m u3 h2
          rw [cp, cs, ca] at r1 q
          exact bad r1 q
        | true =>
          obtain ⟨p, hp, rfl⟩ := zIsP_t cp (by omega)
          obtain ⟨t, ht, rfl⟩ := zIsP_t cs (by omega)
          obtain ⟨w, hw, rfl⟩ := zIsP_t ca (by omega)
          obtain ⟨so, hso2⟩ : ∃ so, vp_nar .boolean a3 = zb so := by
            rcases hso with rfl | rfl
            · exact ⟨false, by decide⟩
            · exact ⟨true, by decide⟩
          have k1 : ∀ (m : MzM) (i : Nat) (x : Int32), mz_rd (mz_wr m 223 i x) 222 6 = mz_rd m 222 6 := fun _ _ _ => m_ne (by omega)
          have k2 : ∀ (m : MzM) (i : Nat) (x : Int32), mz_rd (mz_wr m 224 i x) 222 6 = mz_rd m 222 6 := fun _ _ _ => m_ne (by omega)
          have k3 : ∀ (m : MzM) (i : Nat) (x : Int32), mz_rd (mz_wr m 225 i x) 222 6 = mz_rd m 222 6 := fun _ _ _ => m_ne (by omega)
          have k4 : ∀ (m : MzM) (i : Nat) (x : Int32), mz_rd (mz_wr m 226 i x) 222 6 = mz_rd m 222 6 := fun _ _ _ => m_ne (by omega)
          have g1 : ∀ (m : MzM) (i : Nat) (x : Int32), mz_rd (mz_wr m 277 i x) 239 62 = mz_rd m 239 62 := fun _ _ _ => m_ne (by omega)
          have g2 : ∀ (m : MzM) (i : Nat) (x : Int32), mz_rd (mz_wr m 278 i x) 239 62 = mz_rd m 239 62 := fun _ _ _ => m_ne (by omega)
          have g3 : ∀ (m : MzM) (i : Nat) (x : Int32), mz_rd (mz_wr m 279 i x) 239 62 = mz_rd m 239 62 := fun _ _ _ => m_ne (by omega)
          have ok : mz_ok (nI u) 20 = true := by rw [n_ok (by omega)]; exact decide_eq_true (by omega)
          have M1 : MzM := m
          rw [cp, cs, ca, zb_t0] at r1
          dsimp only at r1
          rw [zb_t0, zb_t1, R_X10_add_eq] at r1
          simp only [k1, k2, k3, k4, u2, ok, n_g, if_pos l20, m_eq, nI_clamp (show u < 2 ^ 31 by omega), nI_1, nI_pred, hso2, Option.bind_some] at r1
          have q := r2 (mz_wr (mz_wr (mz_wr (mz_wr (mz_wr m 223 u (nI p)) 224 u (nI t)) 225 u (nI w)) 226 u (zb so)) 222 6 (nI (u + 1))) (by rw [m_ne (by omega), m_ne (by omega), m_ne (by omega), m_ne (by omega), m_ne (by omega)]; exact u3) (zTR_f h2 (fun a i z => by unfold zRx at z; rw [m_ne (by omega), m_ne (by omega), m_ne (by omega), m_ne (by omega), m_ne (by omega)]))
          rw [cp, cs, ca, zb_t0] at q
          dsimp only at q
          rw [zb_t0, zb_t1] at q
          have y3 : mz_rd (mz_wr (mz_wr (mz_wr (mz_wr (mz_wr m 223 u (nI p)) 224 u (nI t)) 225 u (nI w)) 226 u (zb so)) 222 6 (nI (u + 1))) 239 62 = nI u := by rw [m_ne (by omega), m_ne (by omega), m_ne (by omega), m_ne (by omega), m_ne (by omega)]; exact u3
          simp only [g1, g2, g3, y3, ok, n_g, m_eq, nI_clamp (show u < 2 ^ 31 by omega), nI_1, nI_pred, hso2, z_mul4, nI_add] at q
          refine ⟨_, _, _, r1, q, T, lv, v, zIv_to hn h ?_ ?_⟩
          · refine zFr_w2 (zFr_w2 (zFr_w2 (zFr_w2 (zFr_w2 (zFr_w2 (zFr_w2 (zFr_w2 (zFr_w ?_) ?_) ?_) ?_) ?_) ?_) ?_) ?_) ?_ <;> (unfold zToG; omega)
          · refine ⟨u + 1, by omega, ?_, m_eq, ?_⟩
            · rw [m_ne (by omega), m_ne (by omega), m_ne (by omega), m_ne (by omega), m_eq]
            · intro j hj
              by_cases cj : j = u
              · subst cj
                refine ⟨p, t, w, so, hp, ht, by omega, ?_, ?_, ?_, ?_, ?_, ?_, ?_⟩
                · rw [m_ne (by omega), m_ne (by omega), m_ne (by omega), m_ne (by omega), m_ne (by omega), m_ne (by omega), m_ne (by omega), m_ne (by omega), m_eq]
                · rw [m_ne (by omega), m_ne (by omega), m_ne (by omega), m_ne (by omega), m_ne (by omega), m_ne (by omega), m_ne (by omega), m_eq]
                · rw [m_ne (by omega), m_ne (by omega), m_ne (by omega), m_ne (by omega), m_ne (by omega), m_ne (by omega), m_eq]
                · rw [m_ne (by omega), m_ne (by omega), m_ne (by omega), m_ne (by omega), m_ne (by omega), m_eq]
                · rw [m_ne (by omega), m_ne (by omega), m_ne (by omega), m_eq]
                · rw [m_ne (by omega), m_ne (by omega), m_eq]
                · rw [m_ne (by omega), m_eq]
              · obtain ⟨p', t', x', so', y⟩ := u4 j (by omega)
                have K : ∀ a, a = 223 ∨ a = 224 ∨ a = 225 ∨ a = 226 ∨ a = 277 ∨ a = 278 ∨ a = 279 → mz_rd (mz_wr (mz_wr (mz_wr (mz_wr (mz_wr (mz_wr (mz_wr (mz_wr (mz_wr m 223 u (nI p)) 224 u (nI t)) 225 u (nI w)) 226 u (zb so)) 222 6 (nI (u + 1))) 277 u (nI (4 * p + t))) 278 u (nI w)) 279 u (zb so)) 239 62 (nI (u + 1))) a j = mz_rd m a j := fun a ha => by
                  rw [m_ne (by omega), m_ni cj, m_ni cj, m_ni cj, m_ne (by omega), m_ni cj, m_ni cj, m_ni cj, m_ni cj]
                obtain ⟨q1, q2, q3, q4, q5, q6, q7, q8, q9, q10⟩ := y
                exact ⟨p', t', x', so', q1, q2, q3, (K _ (by omega)).trans q4, (K _ (by omega)).trans q5, (K _ (by omega)).trans q6, (K _ (by omega)).trans q7, (K _ (by omega)).trans q8, (K _ (by omega)).trans q9, (K _ (by omega)).trans q10⟩
