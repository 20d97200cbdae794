/-! a text is taken: the class's side -/
theorem z_w17 : mz_isW 17 = true := by decide +kernel
theorem z_t13 : mz_isT 13 = true := by decide +kernel
def zNT (a : Nat) (_ : Nat) : Prop := 4 ≤ a ∧ a ≤ 11
theorem c_copyT (d : Nat) (m : MzM) : ∃ m', R_X8_copyFrom d 4 13 m = some m' ∧ zFr zNT m m' ∧ (∀ i, 4 ≤ i → i ≤ 8 → mz_rd m' 4 i = mz_rd m 13 i) ∧ (∀ i, i < 24 → mz_rd m' 6 i = mz_rd m 15 i) ∧ (∀ i, i < 32 → mz_rd m' 7 i = mz_rd m 16 i) ∧ (∀ i, i < 404 → mz_rd m' 9 i = mz_rd m 18 i) ∧ (∀ i, i < 56 → mz_rd m' 10 i = mz_rd m 19 i) ∧ (∀ i, i < 4 → mz_rd m' 11 i = mz_rd m 20 i) := by
  rw [R_X8_copyFrom_eq d 4 13 m z_t4 z_t13, R_X2_copyFrom_eq d (4 + 4) (13 + 4) _ z_w8 z_w17, Option.bind_some]
  refine ⟨_, rfl, ?_, ?_, ?_, ?_, ?_, ?_, ?_⟩
  · refine zFr_w2 (zFr_w2 (zFr_w2 (zFr_w2 (zFr_w2 (zFr_w2 (zFr_c2 (zFr_c2 (zFr_c2 (zFr_c2 (zFr_c ?_) ?_) ?_) ?_) ?_) ?_) ?_) ?_) ?_) ?_) ?_
    all_goals (try intro _ _ _)
    all_goals (unfold zNT; omega)
  · intro i h1 h2
    rcases (show i = 4 ∨ i = 5 ∨ i = 6 ∨ i = 7 ∨ i = 8 by omega) with rfl | rfl | rfl | rfl | rfl <;> simp [m_rw, m_rc]
  · intro i hi
    simp [m_rw, m_rc, hi]
  · intro i hi
    simp [m_rw, m_rc, hi]
  · intro i hi
    simp [m_rw, m_rc, hi]
  · intro i hi
    simp [m_rw, m_rc, hi]
  · intro i hi
    simp [m_rw, m_rc, hi]
def zSA (a i : Nat) : Prop := (29 ≤ a ∧ a ≤ 32) ∨ (a = 37 ∧ i = 2) ∨ (a = 222 ∧ i = 6) ∨ (a = 201 ∧ i = 4) ∨ a = 200
theorem c_startAnew (d : Nat) (m : MzM) : ∃ m', R_X11_startAnew d m = some m' ∧ zFr zSA m m' ∧ (∀ i, i < 24 → mz_rd m' 30 i = mz_rd m 6 i) ∧ (∀ k, 24 ≤ k → k < 39 → mz_rd m' (zstA 29 k).1 (zstA 29 k).2 = if k = 34 then mz_rd m 4 6 else 0) ∧ mz_rd m' 37 2 = 0 ∧ mz_rd m' 222 6 = 0 ∧ mz_rd m' 201 4 = 0 ∧ ∀ j, j < 3 → mz_rd m' 200 j = 0 := by
  have st : ∀ (t : Nat) (x : MzM), t < 6 → H_X6_startFrom_20 d 29 4 (nI t) x = H_X6_startFrom_20 d 29 4 (nI (t + 1)) (mz_wr x 32 t 0) := by
    intro t x ht
    rw [H_X6_startFrom_20_eq d 29 4 _ _ z_s29 z_t4, if_neg (show ¬ (6 : Int32) ≤ nI t from nI_ge (b := 6) ht (by omega)), n_ok (by omega), n_gd ht, nI_clamp (by omega), nI_1]
  have sl : ∀ (t : Nat) (x : MzM), t < 3 → H_X11_startAnew_34 d (nI t) x = H_X11_startAnew_34 d (nI (t + 1)) (mz_wr x 200 t 0) := by
    intro t x ht
    rw [H_X11_startAnew_34_eq, if_neg (show ¬ (3 : Int32) ≤ nI t from nI_ge (b := 3) ht (by omega)), n_ok (by omega), n_gd ht, nI_clamp (by omega), nI_1]
    rfl
  rw [R_X11_startAnew_eq, R_X6_startFrom_eq d 29 4 m z_s29 z_t4]
  rw [show (H_X6_startFrom_20 d 29 4 0 (mz_cp m (4 + 2) 0 (29 + 1) 0 24)) = _ from st 0 _ (by omega), st 1 _ (by omega), st 2 _ (by omega), st 3 _ (by omega), st 4 _ (by omega), st 5 _ (by omega), H_X6_startFrom_20_eq d 29 4 _ _ z_s29 z_t4, if_pos (show (6 : Int32) ≤ nI (5 + 1) by decide), s_emptyScrew d 29 _ z_s29, Option.bind_some, R_X6_changePlate_eq d 29 _ _ z_s29, Option.bind_some, Option.bind_some, R_X1_clear_eq, Option.bind_some, R_X10_clear_eq, Option.bind_some, R_X5_forgetFound_eq, Option.bind_some]
  rw [show ∀ x, (H_X11_startAnew_34 d 0 x) = _ from fun x => sl 0 x (by omega), sl 1 _ (by omega), sl 2 _ (by omega), H_X11_startAnew_34_eq, if_pos (show (3 : Int32) ≤ nI (2 + 1) by decide)]
  refine ⟨_, rfl, ?_, ?_, ?_, ?_, ?_, ?_, ?_⟩
  · repeat' refine zFr_w2 ?_ ?_
    all_goals (try (unfold zSA; omega))
    exact zFr_c (fun _ _ _ => by unfold zSA; omega)
  · intro i hi
    simp [m_rw, m_rc, hi]
  · intro k h1 h2
    rcases (show k = 24 ∨ k = 25 ∨ k = 26 ∨ k = 27 ∨ k = 28 ∨ k = 29 ∨ k = 30 ∨ k = 31 ∨ k = 32 ∨ k = 33 ∨ k = 34 ∨ k = 35 ∨ k = 36 ∨ k = 37 ∨ k = 38 by omega) with rfl | rfl | rfl | rfl | rfl | rfl | rfl | rfl | rfl | rfl | rfl | rfl | rfl | rfl | rfl <;> simp [zstA, m_rw, m_rc]
  · simp [m_rw, m_rc]
  · simp [m_rw, m_rc]
  · simp [m_rw, m_rc]
  · intro j hj
    rcases (show j = 0 ∨ j = 1 ∨ j = 2 by omega) with rfl | rfl | rfl <;> simp [m_rw, m_rc]
