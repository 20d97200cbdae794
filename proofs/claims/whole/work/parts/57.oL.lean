/-! obligation: count -/
section ZCt
variable {T : ZT} {lv d B : Nat} {v : Nat → Nat} {m : MzM}
theorem c_allP (h1 : zTC T m) (h3 : zSC (tN T) m 29 v) : R_X11_ofAllPeople d m = some (nI (zSum (tN T) (zof v)), m) := by
  have h6 := h1.1.1
  have key := zlp (fun k (x : Nat) => H_X11_ofAllPeople_4 d (nI x) (nI k) m) (fun r => r = (nI (zSum (tN T) (zof v)), m)) (fun k x => x = zSum k (zof v)) (tN T) ?_ ?_ 0 0 (Nat.zero_le _) rfl
  · obtain ⟨r, e, rfl⟩ := key
    rw [R_X11_ofAllPeople_eq]
    exact e
  · rintro k x hk rfl
    left
    refine ⟨_, rfl, ?_⟩
    show H_X11_ofAllPeople_4 d (nI (zSum k (zof v))) (nI k) m = H_X11_ofAllPeople_4 d (nI (zSum k (zof v) + zof v k)) (nI (k + 1)) m
    rw [H_X11_ofAllPeople_4_eq, h1.2.1, if_neg (nI_ge hk (by omega)), c_ofAll z_s29 h3 h6 hk, Option.bind_some]
    dsimp only
    rw [nI_add, nI_1]
  · rintro x rfl
    show ∃ r, H_X11_ofAllPeople_4 d _ (nI (tN T)) m = some r ∧ _
    rw [H_X11_ofAllPeople_4_eq, h1.2.1, if_pos (nI_le (Nat.le_refl _) (by omega))]
    exact ⟨_, rfl, rfl⟩
theorem r_allP (h2 : zTR T lv m) (g : zRA (tN T) m 271 v) : H_X12_count_230 d 0 0 m = some (nI (zSum (tN T) (zof v)), m) := by
  have h6 := h2.1.1
  obtain ⟨-, l2, l3, l4, -⟩ := id h2
  have key := zlp (fun k (x : Nat) => H_X12_count_230 d (nI x) (nI k) m) (fun r => r = (nI (zSum (tN T) (zof v)), m)) (fun k x => x = zSum k (zof v)) (tN T) ?_ ?_ 0 0 (Nat.zero_le _) rfl
  · obtain ⟨r, e, rfl⟩ := key
    exact e
  · rintro k x hk rfl
    left
    refine ⟨_, rfl, ?_⟩
    show H_X12_count_230 d (nI (zSum k (zof v))) (nI k) m = H_X12_count_230 d (nI (zSum k (zof v) + zof v k)) (nI (k + 1)) m
    rw [H_X12_count_230_eq, l3, n_ok (by omega), n_gd l2, nI_clamp (by omega), l4, if_neg (nI_ge hk (by omega)), r_of g h6 hk, Option.bind_some]
    dsimp only
    rw [nI_add, nI_1]
  · rintro x rfl
    show ∃ r, H_X12_count_230 d _ (nI (tN T)) m = some r ∧ _
    rw [H_X12_count_230_eq, l3, n_ok (by omega), n_gd l2, nI_clamp (by omega), l4, if_pos (nI_le (Nat.le_refl _) (by omega))]
    exact ⟨_, rfl, rfl⟩
theorem r_who (h2 : zTR T lv m) (g : zRA (tN T) m 271 v) (hB : zB (tN T) B v) : ∃ m', H_X12_count_263 d 0 0 m = some (nI (zwho T v (tN T) (tN T)), m') ∧ zFr zRE m m' := by
  have h6 := h2.1.1
  rw [zwho_e]
  have key := zlp (fun k (x : Nat × MzM) => H_X12_count_263 d (nI x.1) (nI k) x.2) (fun r => r.1 = nI (zmk (fun a => !decide (zmk (zfP T v a) (tN T) = 0)) (tN T)) ∧ zFr zRE m r.2) (fun k x => x.1 = zmk (fun a => !decide (zmk (zfP T v a) (tN T) = 0)) k ∧ zFr zRE m x.2) (tN T) ?_ ?_ 0 (0, m) (Nat.zero_le _) ⟨rfl, zFr_r⟩
  · obtain ⟨⟨r1, r2⟩, e, rfl, f⟩ := key
    exact ⟨r2, e, f⟩
  · rintro k ⟨y, x⟩ hk ⟨rfl, F⟩
    left
    have Tx := zTR_E h2 F
    obtain ⟨-, l2, l3, l4, -⟩ := id Tx
    obtain ⟨m1, e1, f1⟩ := r_foesOf (d := d) Tx (zRA_E g F) hB hk
    have ml := zmk_lt (zfP T v k) (tN T)
    have ml2 : 2 ^ tN T ≤ 2 ^ 6 := Nat.pow_le_pow_right (by omega) h6
    show ∃ z : Nat × MzM, (z.1 = zmk (fun a => !decide (zmk (zfP T v a) (tN T) = 0)) (k + 1) ∧ zFr zRE m z.2) ∧ H_X12_count_263 d (nI (zmk (fun a => !decide (zmk (zfP T v a) (tN T) = 0)) k)) (nI k) x = H_X12_count_263 d (nI z.1) (nI (k + 1)) z.2
    rw [H_X12_count_263_eq, l3, n_ok (by omega), n_gd l2, nI_clamp (by omega), l4, if_neg (nI_ge hk (by omega)), e1, Option.bind_some]
    dsimp only
    rw [zfo_e T v k _ h6, nI_1]
    by_cases c : zmk (zfP T v k) (tN T) = 0
    · rw [if_pos (show nI (zmk (zfP T v k) (tN T)) = 0 by rw [c]; rfl), zmk_f (P := fun a => !decide (zmk (zfP T v a) (tN T) = 0)) (by simp [c])]
      exact ⟨(_, m1), ⟨rfl, zFr_t F f1⟩, rfl⟩
    · rw [if_neg (nI_ne0 (by omega) (by omega)), zmk_t (P := fun a => !decide (zmk (zfP T v a) (tN T) = 0)) (by omega) (by simp [c])]
      exact ⟨(_, m1), ⟨rfl, zFr_t F f1⟩, rfl⟩
  · rintro ⟨y, x⟩ ⟨rfl, F⟩
    obtain ⟨-, l2, l3, l4, -⟩ := zTR_E h2 F
    show ∃ r, H_X12_count_263 d _ (nI (tN T)) x = some r ∧ _
    rw [H_X12_count_263_eq, l3, n_ok (by omega), n_gd l2, nI_clamp (by omega), l4, if_pos (nI_le (Nat.le_refl _) (by omega))]
    exact ⟨_, rfl, rfl, F⟩
theorem c_scr (h3 : zSC (tN T) m 29 v) (hB : zB (tN T) B v) : R_X11_stuffsInScrew d m = some (nI (zmk (fun s => !decide (v (30 + s) = 0)) 4), m) := by
  have hB2 := hB.2.2.2
  have st : ∀ t, t < 4 → H_X11_stuffsInScrew_4 d (nI (zmk (fun s => !decide (v (30 + s) = 0)) t)) (nI t) m = H_X11_stuffsInScrew_4 d (nI (zmk (fun s => !decide (v (30 + s) = 0)) (t + 1))) (nI (t + 1)) m := by
    intro t ht
    have b := zB_s hB ht
    have z : mz_rd m 31 t = nI (v (30 + t)) := zSC_w h3 ht
    rw [H_X11_stuffsInScrew_4_eq, if_neg (n_le4 ht), n_ok (by omega), n_gd ht, nI_clamp (by omega), z, nI_1, Int32.or_zero]
    by_cases c : v (30 + t) = 0
    · rw [if_pos (show nI (v (30 + t)) ≤ 0 by rw [c]; decide), zmk_f (P := fun s => !decide (v (30 + s) = 0)) (by simp [c])]
    · rw [if_neg (nI_nle (by omega) (by omega)), zmk_t (P := fun s => !decide (v (30 + s) = 0)) (by omega) (by simp [c])]
  rw [R_X11_stuffsInScrew_eq]
  show H_X11_stuffsInScrew_4 d (nI (zmk (fun s => !decide (v (30 + s) = 0)) 0)) (nI 0) m = _
  rw [st 0 (by omega), st 1 (by omega), st 2 (by omega), st 3 (by omega), H_X11_stuffsInScrew_4_eq]
  exact if_pos n_4le
theorem r_scr (g : zRA (tN T) m 271 v) (hB : zB (tN T) B v) : H_X12_count_300 d 0 0 m = some (nI (zmk (fun s => !decide (v (30 + s) = 0)) 4), m) := by
  have hB2 := hB.2.2.2
  have st : ∀ t, t < 4 → H_X12_count_300 d (nI (zmk (fun s => !decide (v (30 + s) = 0)) t)) (nI t) m = H_X12_count_300 d (nI (zmk (fun s => !decide (v (30 + s) = 0)) (t + 1))) (nI (t + 1)) m := by
    intro t ht
    have b := zB_s hB ht
    rw [H_X12_count_300_eq, if_neg (n_le4 ht), z_add30, n_ok (by omega), n_gd (by omega), nI_clamp (by omega), g (30 + t) (by omega) (by omega), nI_1]
    by_cases c : v (30 + t) = 0
    · rw [if_pos (show nI (v (30 + t)) ≤ 0 by rw [c]; decide), zmk_f (P := fun s => !decide (v (30 + s) = 0)) (by simp [c])]
    · rw [if_neg (nI_nle (by omega) (by omega)), zmk_t (P := fun s => !decide (v (30 + s) = 0)) (by omega) (by simp [c])]
  show H_X12_count_300 d (nI (zmk (fun s => !decide (v (30 + s) = 0)) 0)) (nI 0) m = _
  rw [st 0 (by omega), st 1 (by omega), st 2 (by omega), st 3 (by omega), H_X12_count_300_eq]
  exact if_pos n_4le
theorem c_dues (h1 : zTC T m) (h3 : zSC (tN T) m 29 v) (hd : v 37 < 2 ^ 30) : R_X11_suitsDue d m = some (nI (zmk (fun i => zdue T i (v 37)) (tS T)), m) := by
  have h8 := h1.1.2.1
  have z : mz_rd m 29 3 = nI (v 37) := zSC_3 h3
  have key := zlp (fun k (x : Nat) => H_X11_suitsDue_4 d (nI x) (nI k) m) (fun r => r = (nI (zmk (fun i => zdue T i (v 37)) (tS T)), m)) (fun k x => x = zmk (fun i => zdue T i (v 37)) k) (tS T) ?_ ?_ 0 0 (Nat.zero_le _) rfl
  · obtain ⟨r, e, rfl⟩ := key
    rw [R_X11_suitsDue_eq]
    exact e
  · rintro k x hk rfl
    left
    refine ⟨_, rfl, ?_⟩
    show H_X11_suitsDue_4 d (nI (zmk (fun i => zdue T i (v 37)) k)) (nI k) m = H_X11_suitsDue_4 d (nI (zmk (fun i => zdue T i (v 37)) (k + 1))) (nI (k + 1)) m
    rw [H_X11_suitsDue_4_eq, h1.2.2.1, if_neg (nI_ge hk (by omega)), z, c_isDue h1 hk hd, Option.bind_some]
    dsimp only
    rw [nI_1, Int32.or_zero]
    cases c : zdue T k (v 37) with
    | false => rw [zb_f0, zmk_f (P := fun i => zdue T i (v 37)) c]
    | true => rw [zb_t0, zmk_t (P := fun i => zdue T i (v 37)) (by omega) c]
  · rintro x rfl
    show ∃ r, H_X11_suitsDue_4 d _ (nI (tS T)) m = some r ∧ _
    rw [H_X11_suitsDue_4_eq, h1.2.2.1, if_pos (nI_le (Nat.le_refl _) (by omega))]
    exact ⟨_, rfl, rfl⟩
theorem r_dues (h2 : zTR T lv m) (g : zRA (tN T) m 271 v) (hd : v 37 < 2 ^ 30) : H_X12_count_333 d 0 0 m = some (nI (zmk (fun i => zdue T i (v 37)) (tS T)), m) := by
  have h8 := h2.1.2.1
  obtain ⟨-, l2, l3, -, l5, -⟩ := id h2
  have z := g 37 (by omega) (by omega)
  have key := zlp (fun k (x : Nat) => H_X12_count_333 d (nI x) (nI k) m) (fun r => r = (nI (zmk (fun i => zdue T i (v 37)) (tS T)), m)) (fun k x => x = zmk (fun i => zdue T i (v 37)) k) (tS T) ?_ ?_ 0 0 (Nat.zero_le _) rfl
  · obtain ⟨r, e, rfl⟩ := key
    exact e
  · rintro k x hk rfl
    left
    refine ⟨_, rfl, ?_⟩
    show H_X12_count_333 d (nI (zmk (fun i => zdue T i (v 37)) k)) (nI k) m = H_X12_count_333 d (nI (zmk (fun i => zdue T i (v 37)) (k + 1))) (nI (k + 1)) m
    rw [H_X12_count_333_eq, l3, n_ok (by omega), n_gd l2, nI_clamp (by omega), l5, if_neg (nI_ge hk (by omega)), z, r_isDue h2 hk hd, Option.bind_some]
    dsimp only
    rw [nI_1]
    cases c : zdue T k (v 37) with
    | false => rw [zb_f0, zmk_f (P := fun i => zdue T i (v 37)) c]
    | true => rw [zb_t0, zmk_t (P := fun i => zdue T i (v 37)) (by omega) c]
  · rintro x rfl
    show ∃ r, H_X12_count_333 d _ (nI (tS T)) m = some r ∧ _
    rw [H_X12_count_333_eq, l3, n_ok (by omega), n_gd l2, nI_clamp (by omega), l5, if_pos (nI_le (Nat.le_refl _) (by omega))]
    exact ⟨_, rfl, rfl⟩
theorem c_held {b0 b1 b2 : Bool} (e0 : mz_rd m 200 0 = zb b0) (e1 : mz_rd m 200 1 = zb b1) (e2 : mz_rd m 200 2 = zb b2) : R_X11_heldSlots d m = some (zb b0 + zb b1 + zb b2, m) := by
  have st : ∀ (acc : Int32) (t : Nat) (b : Bool), t < 3 → mz_rd m 200 t = zb b → H_X11_heldSlots_4 d acc (nI t) m = H_X11_heldSlots_4 d (acc + zb b) (nI (t + 1)) m := by
    intro acc t b ht e
    rw [H_X11_heldSlots_4_eq, if_neg (show ¬ (3 : Int32) ≤ nI t from nI_ge (b := 3) ht (by omega)), n_ok (by omega), n_gd ht, nI_clamp (by omega), e, nI_1]
    cases b with
    | false => rw [zb_f0]; rfl
    | true => rw [zb_t0]; rfl
  rw [R_X11_heldSlots_eq]
  show H_X11_heldSlots_4 d 0 (nI 0) m = _
  rw [st 0 0 b0 (by omega) e0, st _ 1 b1 (by omega) e1, st _ 2 b2 (by omega) e2, H_X11_heldSlots_4_eq, Int32.zero_add]
  exact if_pos (show (3 : Int32) ≤ nI 3 by decide)
end ZCt
theorem o_count : mz_o_count zI := by
  intro n m a0 hn hI
  obtain ⟨T, lv, v, h⟩ := id hI
  obtain ⟨h1, h2, h3, h4, h5, ⟨z, z1, z2, z3, -⟩, -, ⟨u, x, u1, u2, u3, u4, u5, -⟩, h9, ⟨w, w1, w2, w3, -⟩, -⟩ := h
  have hd : v 37 < 2 ^ 30 := by have := h5.2.2.1; have := h5.2.2.2; omega
  obtain ⟨b0, s0, s0', -⟩ := h9 0 (by omega)
  obtain ⟨b1, s1, s1', -⟩ := h9 1 (by omega)
  obtain ⟨b2, s2, s2', -⟩ := h9 2 (by omega)
  obtain ⟨m2, e2, f2, g2, q49, -⟩ := r_copies (d := 8) h2 h4
  have t2 := zTR_C h2 f2
  obtain ⟨-, l2, l3, l4, l5, -⟩ := id t2
  cases c : zIsP 17 a0 with
  | false =>
    have x1 := R_X11_count_eq 8 a0 m
    have x2 := R_X12_count_eq 8 a0 m
    have ne : ∀ j, j < 17 → ¬ a0 = nI j := fun j hj z => by rw [z, zIsP_n (by omega) hj] at c; cases c
    rw [if_neg (show ¬ a0 = 0 from ne 0 (by omega)), if_neg (show ¬ a0 = 1 from ne 1 (by omega)), if_neg (show ¬ a0 = 2 from ne 2 (by omega)), if_neg (show ¬ a0 = 3 from ne 3 (by omega)), if_neg (show ¬ a0 = 4 from ne 4 (by omega)), if_neg (show ¬ a0 = 5 from ne 5 (by omega)), if_neg (show ¬ a0 = 6 from ne 6 (by omega)), if_neg (show ¬ a0 = 7 from ne 7 (by omega)), if_neg (show ¬ a0 = 8 from ne 8 (by omega)), if_neg (show ¬ a0 = 9 from ne 9 (by omega)), if_neg (show ¬ a0 = 10 from ne 10 (by omega)), if_neg (show ¬ a0 = 11 from ne 11 (by omega)), if_neg (show ¬ a0 = 12 from ne 12 (by omega)), if_neg (show ¬ a0 = 13 from ne 13 (by omega)), if_neg (show ¬ a0 = 14 from ne 14 (by omega)), if_neg (show ¬ a0 = 15 from ne 15 (by omega)), if_neg (show ¬ a0 = 16 from ne 16 (by omega))] at x1
    rw [e2, Option.bind_some, if_neg (show ¬ a0 = 0 from ne 0 (by omega)), if_neg (show ¬ a0 = 1 from ne 1 (by omega)), if_neg (show ¬ a0 = 2 from ne 2 (by omega)), if_neg (show ¬ a0 = 3 from ne 3 (by omega)), if_neg (show ¬ a0 = 4 from ne 4 (by omega)), if_neg (show ¬ a0 = 5 from ne 5 (by omega)), if_neg (show ¬ a0 = 6 from ne 6 (by omega)), if_neg (show ¬ a0 = 7 from ne 7 (by omega)), if_neg (show ¬ a0 = 8 from ne 8 (by omega)), if_neg (show ¬ a0 = 9 from ne 9 (by omega)), if_neg (show ¬ a0 = 10 from ne 10 (by omega)), if_neg (show ¬ a0 = 11 from ne 11 (by omega)), if_neg (show ¬ a0 = 12 from ne 12 (by omega)), if_neg (show ¬ a0 = 13 from ne 13 (by omega)), if_neg (show ¬ a0 = 14 from ne 14 (by omega)), if_neg (show ¬ a0 = 15 from ne 15 (by omega)), if_neg (show ¬ a0 = 16 from ne 16 (by omega))] at x2
    exact ⟨_, _, _, x1, x2, zI_q hn hI zFr_r (zRC_Q f2)⟩
  | true =>
    obtain ⟨j, hj, rfl⟩ := zIsP_t c (by omega)
    rcases (show j = 0 ∨ j = 1 ∨ j = 2 ∨ j = 3 ∨ j = 4 ∨ j = 5 ∨ j = 6 ∨ j = 7 ∨ j = 8 ∨ j = 9 ∨ j = 10 ∨ j = 11 ∨ j = 12 ∨ j = 13 ∨ j = 14 ∨ j = 15 ∨ j = 16 by omega) with rfl | rfl | rfl | rfl | rfl | rfl | rfl | rfl | rfl | rfl | rfl | rfl | rfl | rfl | rfl | rfl | rfl
    · have x1 := R_X11_count_eq 8 (nI 0) m
      have x2 := R_X12_count_eq 8 (nI 0) m
      rw [if_pos (by decide), h1.2.1] at x1
      rw [e2, Option.bind_some, if_pos (by decide), l3, n_ok (by omega), n_gd l2, nI_clamp (by omega), l4] at x2
      exact ⟨_, _, _, x1, x2, zI_q hn hI zFr_r (zRC_Q f2)⟩
    · have x1 := R_X11_count_eq 8 (nI 1) m
      have x2 := R_X12_count_eq 8 (nI 1) m
      rw [if_neg (by decide), if_pos (by decide), h1.2.2.1] at x1
      rw [e2, Option.bind_some, if_neg (by decide), if_pos (by decide), l3, n_ok (by omega), n_gd l2, nI_clamp (by omega), l5] at x2
      exact ⟨_, _, _, x1, x2, zI_q hn hI zFr_r (zRC_Q f2)⟩
    · have x1 := R_X11_count_eq 8 (nI 2) m
      have x2 := R_X12_count_eq 8 (nI 2) m
      rw [if_neg (by decide), if_neg (by decide), if_pos (by decide), show mz_rd m 29 3 = nI (v 37) from zSC_3 h3] at x1
      rw [e2, Option.bind_some, if_neg (by decide), if_neg (by decide), if_pos (by decide), g2 37 (by omega) (by omega)] at x2
      exact ⟨_, _, _, x1, x2, zI_q hn hI zFr_r (zRC_Q f2)⟩
    · have x1 := R_X11_count_eq 8 (nI 3) m
      have x2 := R_X12_count_eq 8 (nI 3) m
      rw [if_neg (by decide), if_neg (by decide), if_neg (by decide), if_pos (by decide), show mz_rd m 29 4 = nI (v 36) from zSC_4 h3] at x1
      rw [e2, Option.bind_some, if_neg (by decide), if_neg (by decide), if_neg (by decide), if_pos (by decide), g2 36 (by omega) (by omega)] at x2
      exact ⟨_, _, _, x1, x2, zI_q hn hI zFr_r (zRC_Q f2)⟩
    · have x1 := R_X11_count_eq 8 (nI 4) m
      have x2 := R_X12_count_eq 8 (nI 4) m
      rw [if_neg (by decide), if_neg (by decide), if_neg (by decide), if_neg (by decide), if_pos (by decide), show mz_rd m 29 5 = nI (v 34) from zSC_5 h3] at x1
      rw [e2, Option.bind_some, if_neg (by decide), if_neg (by decide), if_neg (by decide), if_neg (by decide), if_pos (by decide), g2 34 (by omega) (by omega)] at x2
      exact ⟨_, _, _, x1, x2, zI_q hn hI zFr_r (zRC_Q f2)⟩
    · have x1 := R_X11_count_eq 8 (nI 5) m
      have x2 := R_X12_count_eq 8 (nI 5) m
      rw [if_neg (by decide), if_neg (by decide), if_neg (by decide), if_neg (by decide), if_neg (by decide), if_pos (by decide), show mz_rd m 29 6 = nI (v 35) from zSC_6 h3] at x1
      rw [e2, Option.bind_some, if_neg (by decide), if_neg (by decide), if_neg (by decide), if_neg (by decide), if_neg (by decide), if_pos (by decide), g2 35 (by omega) (by omega)] at x2
      exact ⟨_, _, _, x1, x2, zI_q hn hI zFr_r (zRC_Q f2)⟩
    · have x1 := R_X11_count_eq 8 (nI 6) m
      have x2 := R_X12_count_eq 8 (nI 6) m
      rw [if_neg (by decide), if_neg (by decide), if_neg (by decide), if_neg (by decide), if_neg (by decide), if_neg (by decide), if_pos (by decide), c_inScrew z_s29 h3, Option.bind_some] at x1
      rw [e2, Option.bind_some, if_neg (by decide), if_neg (by decide), if_neg (by decide), if_neg (by decide), if_neg (by decide), if_neg (by decide), if_pos (by decide), r_sc g2, Option.bind_some] at x2
      exact ⟨_, _, _, x1, x2, zI_q hn hI zFr_r (zRC_Q f2)⟩
    · have x1 := R_X11_count_eq 8 (nI 7) m
      have x2 := R_X12_count_eq 8 (nI 7) m
      rw [if_neg (by decide), if_neg (by decide), if_neg (by decide), if_neg (by decide), if_neg (by decide), if_neg (by decide), if_neg (by decide), if_pos (by decide), show mz_rd m 29 7 = nI (v 38) from zSC_7 h3] at x1
      rw [e2, Option.bind_some, if_neg (by decide), if_neg (by decide), if_neg (by decide), if_neg (by decide), if_neg (by decide), if_neg (by decide), if_neg (by decide), if_pos (by decide), g2 38 (by omega) (by omega)] at x2
      exact ⟨_, _, _, x1, x2, zI_q hn hI zFr_r (zRC_Q f2)⟩
    · have x1 := R_X11_count_eq 8 (nI 8) m
      have x2 := R_X12_count_eq 8 (nI 8) m
      rw [if_neg (by decide), if_neg (by decide), if_neg (by decide), if_neg (by decide), if_neg (by decide), if_neg (by decide), if_neg (by decide), if_neg (by decide), if_pos (by decide), z2] at x1
      rw [e2, Option.bind_some, if_neg (by decide), if_neg (by decide), if_neg (by decide), if_neg (by decide), if_neg (by decide), if_neg (by decide), if_neg (by decide), if_neg (by decide), if_pos (by decide), f2.1 239 2 (by unfold zRC; omega), z3] at x2
      exact ⟨_, _, _, x1, x2, zI_q hn hI zFr_r (zRC_Q f2)⟩
    · have x1 := R_X11_count_eq 8 (nI 9) m
      have x2 := R_X12_count_eq 8 (nI 9) m
      rw [if_neg (by decide), if_neg (by decide), if_neg (by decide), if_neg (by decide), if_neg (by decide), if_neg (by decide), if_neg (by decide), if_neg (by decide), if_neg (by decide), if_pos (by decide), u3] at x1
      rw [e2, Option.bind_some, if_neg (by decide), if_neg (by decide), if_neg (by decide), if_neg (by decide), if_neg (by decide), if_neg (by decide), if_neg (by decide), if_neg (by decide), if_neg (by decide), if_pos (by decide), f2.1 239 52 (by unfold zRC; omega), u5] at x2
      exact ⟨_, _, _, x1, x2, zI_q hn hI zFr_r (zRC_Q f2)⟩
    · have x1 := R_X11_count_eq 8 (nI 10) m
      have x2 := R_X12_count_eq 8 (nI 10) m
      rw [if_neg (by decide), if_neg (by decide), if_neg (by decide), if_neg (by decide), if_neg (by decide), if_neg (by decide), if_neg (by decide), if_neg (by decide), if_neg (by decide), if_neg (by decide), if_pos (by decide), w2] at x1
      rw [e2, Option.bind_some, if_neg (by decide), if_neg (by decide), if_neg (by decide), if_neg (by decide), if_neg (by decide), if_neg (by decide), if_neg (by decide), if_neg (by decide), if_neg (by decide), if_neg (by decide), if_pos (by decide), f2.1 239 62 (by unfold zRC; omega), w3] at x2
      exact ⟨_, _, _, x1, x2, zI_q hn hI zFr_r (zRC_Q f2)⟩
    · have x1 := R_X11_count_eq 8 (nI 11) m
      have x2 := R_X12_count_eq 8 (nI 11) m
      rw [if_neg (by decide), if_neg (by decide), if_neg (by decide), if_neg (by decide), if_neg (by decide), if_neg (by decide), if_neg (by decide), if_neg (by decide), if_neg (by decide), if_neg (by decide), if_neg (by decide), if_pos (by decide), c_held s0 s1 s2, Option.bind_some] at x1
      rw [e2, Option.bind_some, if_neg (by decide), if_neg (by decide), if_neg (by decide), if_neg (by decide), if_neg (by decide), if_neg (by decide), if_neg (by decide), if_neg (by decide), if_neg (by decide), if_neg (by decide), if_neg (by decide), if_pos (by decide), f2.1 282 0 (by unfold zRC; omega), s0', f2.1 282 1 (by unfold zRC; omega), s1', f2.1 282 2 (by unfold zRC; omega), s2'] at x2
      have x3 : R_X12_count 8 (nI 11) m = some (zb b0 + zb b1 + zb b2, m2) := by
        rw [x2]
        cases b0 <;> cases b1 <;> cases b2 <;> rfl
      exact ⟨_, _, _, x1, x3, zI_q hn hI zFr_r (zRC_Q f2)⟩
    · have x1 := R_X11_count_eq 8 (nI 12) m
      have x2 := R_X12_count_eq 8 (nI 12) m
      rw [if_neg (by decide), if_neg (by decide), if_neg (by decide), if_neg (by decide), if_neg (by decide), if_neg (by decide), if_neg (by decide), if_neg (by decide), if_neg (by decide), if_neg (by decide), if_neg (by decide), if_neg (by decide), if_pos (by decide), h1.2.2.2.2.2.1, show mz_rd m 29 3 = nI (v 37) from zSC_3 h3, c_isThumb h1, Option.bind_some] at x1
      rw [e2, Option.bind_some, if_neg (by decide), if_neg (by decide), if_neg (by decide), if_neg (by decide), if_neg (by decide), if_neg (by decide), if_neg (by decide), if_neg (by decide), if_neg (by decide), if_neg (by decide), if_neg (by decide), if_neg (by decide), if_pos (by decide), r_isThumb t2 (g2 37 (by omega) (by omega)) q49, Option.bind_some] at x2
      dsimp only at x1 x2
      rw [zb_iv] at x1 x2
      exact ⟨_, _, _, x1, x2, zI_q hn hI zFr_r (zRC_Q f2)⟩
    · have x1 := R_X11_count_eq 8 (nI 13) m
      have x2 := R_X12_count_eq 8 (nI 13) m
      rw [if_neg (by decide), if_neg (by decide), if_neg (by decide), if_neg (by decide), if_neg (by decide), if_neg (by decide), if_neg (by decide), if_neg (by decide), if_neg (by decide), if_neg (by decide), if_neg (by decide), if_neg (by decide), if_neg (by decide), if_pos (by decide), c_allP h1 h3, Option.bind_some] at x1
      rw [e2, Option.bind_some, if_neg (by decide), if_neg (by decide), if_neg (by decide), if_neg (by decide), if_neg (by decide), if_neg (by decide), if_neg (by decide), if_neg (by decide), if_neg (by decide), if_neg (by decide), if_neg (by decide), if_neg (by decide), if_neg (by decide), if_pos (by decide), r_allP t2 g2] at x2
      exact ⟨_, _, _, x1, x2, zI_q hn hI zFr_r (zRC_Q f2)⟩
    · have x1 := R_X11_count_eq 8 (nI 14) m
      obtain ⟨m1, e1, f1⟩ := c_who (d := 8) h1 z_s29 h3 h5
      have f1 := zE_Q f1
      obtain ⟨m3, e3, f3, g3, -, -⟩ := r_copies (d := 8) (zTR_q h2 f1) (zRA_q h4 f1)
      obtain ⟨m4, e4, f4⟩ := r_who (d := 8) (zTR_C (zTR_q h2 f1) f3) g3 h5
      have x2 := R_X12_count_eq 8 (nI 14) m1
      rw [if_neg (by decide), if_neg (by decide), if_neg (by decide), if_neg (by decide), if_neg (by decide), if_neg (by decide), if_neg (by decide), if_neg (by decide), if_neg (by decide), if_neg (by decide), if_neg (by decide), if_neg (by decide), if_neg (by decide), if_neg (by decide), if_pos (by decide), e1, Option.bind_some] at x1
      rw [e3, Option.bind_some, if_neg (by decide), if_neg (by decide), if_neg (by decide), if_neg (by decide), if_neg (by decide), if_neg (by decide), if_neg (by decide), if_neg (by decide), if_neg (by decide), if_neg (by decide), if_neg (by decide), if_neg (by decide), if_neg (by decide), if_neg (by decide), if_pos (by decide), e4] at x2
      exact ⟨_, _, _, x1, x2, zI_q hn hI f1 (zFr_t (zRC_Q f3) (zR_QE f4))⟩
    · have x1 := R_X11_count_eq 8 (nI 15) m
      have x2 := R_X12_count_eq 8 (nI 15) m
      rw [if_neg (by decide), if_neg (by decide), if_neg (by decide), if_neg (by decide), if_neg (by decide), if_neg (by decide), if_neg (by decide), if_neg (by decide), if_neg (by decide), if_neg (by decide), if_neg (by decide), if_neg (by decide), if_neg (by decide), if_neg (by decide), if_neg (by decide), if_pos (by decide), c_scr h3 h5, Option.bind_some] at x1
      rw [e2, Option.bind_some, if_neg (by decide), if_neg (by decide), if_neg (by decide), if_neg (by decide), if_neg (by decide), if_neg (by decide), if_neg (by decide), if_neg (by decide), if_neg (by decide), if_neg (by decide), if_neg (by decide), if_neg (by decide), if_neg (by decide), if_neg (by decide), if_neg (by decide), if_pos (by decide), r_scr g2 h5] at x2
      exact ⟨_, _, _, x1, x2, zI_q hn hI zFr_r (zRC_Q f2)⟩
    · have x1 := R_X11_count_eq 8 (nI 16) m
      have x2 := R_X12_count_eq 8 (nI 16) m
      rw [if_neg (by decide), if_neg (by decide), if_neg (by decide), if_neg (by decide), if_neg (by decide), if_neg (by decide), if_neg (by decide), if_neg (by decide), if_neg (by decide), if_neg (by decide), if_neg (by decide), if_neg (by decide), if_neg (by decide), if_neg (by decide), if_neg (by decide), if_neg (by decide), if_pos (by decide), c_dues h1 h3 hd, Option.bind_some] at x1
      rw [e2, Option.bind_some, if_neg (by decide), if_neg (by decide), if_neg (by decide), if_neg (by decide), if_neg (by decide), if_neg (by decide), if_neg (by decide), if_neg (by decide), if_neg (by decide), if_neg (by decide), if_neg (by decide), if_neg (by decide), if_neg (by decide), if_neg (by decide), if_neg (by decide), if_neg (by decide), if_pos (by decide), r_dues t2 g2 hd] at x2
      exact ⟨_, _, _, x1, x2, zI_q hn hI zFr_r (zRC_Q f2)⟩
