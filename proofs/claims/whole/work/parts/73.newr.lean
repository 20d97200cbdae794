/-! a text is taken: the reference's side -/
def zBG (a i : Nat) : Prop := a = 271 ∨ (a = 239 ∧ (i = 49 ∨ i = 50))
theorem r_begins2 {d lv np : Nat} {m : MzM} (hl : lv < 2) (h18 : mz_rd m 239 18 = nI lv) (h248 : mz_rd m 248 lv = nI np) (hn : np ≤ 6) (y : MzM) (F0 : zFr zBG m y) (Z0 : ∀ j, j < 39 → mz_rd y 271 j = 0) : ∃ m', H_X12_begins_23 d 0 y = some m' ∧ zFr zBG m m' ∧ ∀ k, k < 39 → mz_rd m' 271 k = if k < 4 * np then mz_rd m 249 (24 * lv + k) else if k = 34 then mz_rd m 255 lv else 0 := by
  refine zlp (fun k x => H_X12_begins_23 d (nI k) x) (fun m' => zFr zBG m m' ∧ ∀ k, k < 39 → mz_rd m' 271 k = if k < 4 * np then mz_rd m 249 (24 * lv + k) else if k = 34 then mz_rd m 255 lv else 0) (fun k x => zFr zBG m x ∧ ∀ j, j < 39 → mz_rd x 271 j = if j < k then mz_rd m 249 (24 * lv + j) else 0) (4 * np) ?_ ?_ 0 y (Nat.zero_le _) ⟨F0, fun j hj => by rw [if_neg (by omega)]; exact Z0 j hj⟩
  · rintro k x hk ⟨F, S⟩
    left
    show ∃ y, (zFr zBG m y ∧ ∀ j, j < 39 → mz_rd y 271 j = if j < k + 1 then mz_rd m 249 (24 * lv + j) else 0) ∧ H_X12_begins_23 d (nI k) x = H_X12_begins_23 d (nI (k + 1)) y
    have g18 : mz_rd x 239 18 = nI lv := (F.1 _ _ (by unfold zBG; omega)).trans h18
    have g248 : mz_rd x 248 lv = nI np := (F.1 _ _ (by unfold zBG; omega)).trans h248
    have g249 : mz_rd x 249 (24 * lv + k) = mz_rd m 249 (24 * lv + k) := F.1 _ _ (by unfold zBG; omega)
    rw [H_X12_begins_23_eq, g18, n_ok (show lv < 2 ^ 31 by omega), n_gd hl, nI_clamp (show lv < 2 ^ 31 by omega), g248, z_mul4, if_neg (nI_ge hk (by omega)), z_mul24, nI_add, n_ok (show 24 * lv + k < 2 ^ 31 by omega), n_gd (show 24 * lv + k < 48 by omega), n_ok (show k < 2 ^ 31 by omega), n_gd (show k < 39 by omega), nI_clamp (show k < 2 ^ 31 by omega), nI_clamp (show 24 * lv + k < 2 ^ 31 by omega), g249, nI_1]
    refine ⟨_, ⟨zFr_w2 F (Or.inl rfl), fun j hj => ?_⟩, rfl⟩
    by_cases c : j = k
    · subst c
      rw [m_eq, if_pos (by omega)]
    · rw [m_ni c, S j hj]
      by_cases c2 : j < k
      · rw [if_pos c2, if_pos (by omega)]
      · rw [if_neg c2, if_neg (by omega)]
  · rintro x ⟨F, S⟩
    show ∃ r, H_X12_begins_23 d (nI (4 * np)) x = some r ∧ _
    have g18 : mz_rd x 239 18 = nI lv := (F.1 _ _ (by unfold zBG; omega)).trans h18
    have g248 : mz_rd x 248 lv = nI np := (F.1 _ _ (by unfold zBG; omega)).trans h248
    have g255 : mz_rd x 255 lv = mz_rd m 255 lv := F.1 _ _ (by unfold zBG; omega)
    rw [H_X12_begins_23_eq, m_ne (show 239 ≠ 271 by omega), g18, n_ok (show lv < 2 ^ 31 by omega), n_gd hl, nI_clamp (show lv < 2 ^ 31 by omega), g248, z_mul4, if_pos (nI_le (by omega) (by omega)), n_gd hl, n_gd hl, g255]
    refine ⟨_, rfl, zFr_w2 (zFr_w2 (zFr_w2 F (Or.inl rfl)) (Or.inr ⟨rfl, Or.inl rfl⟩)) (Or.inr ⟨rfl, Or.inr rfl⟩), fun k hk => ?_⟩
    rw [m_ne (by omega), m_ne (by omega)]
    by_cases c : k = 34
    · subst c
      rw [m_eq, if_neg (by omega), if_pos rfl]
    · rw [m_ni c, S k hk, if_neg c]
theorem r_begins {d lv np : Nat} {m : MzM} (hl : lv < 2) (h18 : mz_rd m 239 18 = nI lv) (h248 : mz_rd m 248 lv = nI np) (hn : np ≤ 6) : ∃ m', R_X12_begins d m = some m' ∧ zFr zBG m m' ∧ ∀ k, k < 39 → mz_rd m' 271 k = if k < 4 * np then mz_rd m 249 (24 * lv + k) else if k = 34 then mz_rd m 255 lv else 0 := by
  rw [R_X12_begins_eq]
  refine zlp (fun k x => H_X12_begins_2 d (nI k) x) (fun m' => zFr zBG m m' ∧ ∀ k, k < 39 → mz_rd m' 271 k = if k < 4 * np then mz_rd m 249 (24 * lv + k) else if k = 34 then mz_rd m 255 lv else 0) (fun k x => zFr zBG m x ∧ ∀ j, j < k → mz_rd x 271 j = 0) 39 ?_ ?_ 0 m (Nat.zero_le _) ⟨zFr_r, fun j hj => by omega⟩
  · rintro k x hk ⟨F, S⟩
    left
    show ∃ y, (zFr zBG m y ∧ ∀ j, j < k + 1 → mz_rd y 271 j = 0) ∧ H_X12_begins_2 d (nI k) x = H_X12_begins_2 d (nI (k + 1)) y
    rw [H_X12_begins_2_eq, if_neg (show ¬ (39 : Int32) ≤ nI k from nI_ge (b := 39) hk (by omega)), n_ok (by omega), n_gd hk, nI_clamp (by omega), nI_1]
    refine ⟨_, ⟨zFr_w2 F (Or.inl rfl), fun j hj => ?_⟩, rfl⟩
    by_cases c : j = k
    · subst c
      rw [m_eq]
    · rw [m_ni c]
      exact S j (by omega)
  · rintro x ⟨F, S⟩
    show ∃ r, H_X12_begins_2 d (nI 39) x = some r ∧ _
    rw [H_X12_begins_2_eq, if_pos (show (39 : Int32) ≤ nI 39 by decide)]
    exact r_begins2 hl h18 h248 hn x F S
theorem r_keepsA {d : Nat} {m : MzM} : ∃ m', R_X12_keepsRow d m = some m' ∧ zFr (fun a _ => a = 270) m m' ∧ ∀ k, k < 39 → mz_rd m' 270 k = mz_rd m 271 k := by
  rw [R_X12_keepsRow_eq]
  refine zlp (fun k x => H_X12_keepsRow_2 d (nI k) x) (fun m' => zFr (fun a _ => a = 270) m m' ∧ ∀ k, k < 39 → mz_rd m' 270 k = mz_rd m 271 k) (fun k x => zFr (fun a _ => a = 270) m x ∧ ∀ j, j < k → mz_rd x 270 j = mz_rd m 271 j) 39 ?_ ?_ 0 m (Nat.zero_le _) ⟨zFr_r, fun j hj => by omega⟩
  · rintro k x hk ⟨F, S⟩
    left
    show ∃ y, (zFr (fun a _ => a = 270) m y ∧ ∀ j, j < k + 1 → mz_rd y 270 j = mz_rd m 271 j) ∧ H_X12_keepsRow_2 d (nI k) x = H_X12_keepsRow_2 d (nI (k + 1)) y
    rw [H_X12_keepsRow_2_eq, if_neg (show ¬ (39 : Int32) ≤ nI k from nI_ge (b := 39) hk (by omega)), n_ok (by omega), n_gd hk, n_gd hk, nI_clamp (by omega), nI_1]
    refine ⟨_, ⟨zFr_w2 F rfl, fun j hj => ?_⟩, rfl⟩
    by_cases c : j = k
    · subst c
      rw [m_eq]
      exact F.1 271 j (by omega)
    · rw [m_ni c]
      exact S j (by omega)
  · rintro x ⟨F, S⟩
    show ∃ r, H_X12_keepsRow_2 d (nI 39) x = some r ∧ _
    rw [H_X12_keepsRow_2_eq, if_pos (show (39 : Int32) ≤ nI 39 by decide)]
    exact ⟨x, rfl, F, S⟩
theorem r_unheld {d : Nat} {m : MzM} : ∃ m', H_X12_read_214 d 0 m = some (0, m') ∧ zFr (fun a _ => a = 282) m m' ∧ ∀ j, j < 3 → mz_rd m' 282 j = 0 := by
  have sl : ∀ (t : Nat) (x : MzM), t < 3 → H_X12_read_214 d (nI t) x = H_X12_read_214 d (nI (t + 1)) (mz_wr x 282 t 0) := by
    intro t x ht
    rw [H_X12_read_214_eq, if_neg (show ¬ (3 : Int32) ≤ nI t from nI_ge (b := 3) ht (by omega)), n_ok (by omega), n_gd ht, nI_clamp (by omega), nI_1]
    rfl
  rw [show ∀ x, (H_X12_read_214 d 0 x) = _ from fun x => sl 0 x (by omega), sl 1 _ (by omega), sl 2 _ (by omega), H_X12_read_214_eq, if_pos (show (3 : Int32) ≤ nI (2 + 1) by decide)]
  refine ⟨_, rfl, zFr_w2 (zFr_w2 (zFr_w rfl) rfl) rfl, fun j hj => ?_⟩
  rcases (show j = 0 ∨ j = 1 ∨ j = 2 by omega) with rfl | rfl | rfl <;> simp [m_rw]
