/-! the draft's laws while they are read -/
theorem c_addCell {d u : Nat} {m : MzM} {x : Int32} (h : mz_rd m 17 4 = nI u) (hu : u < 404) : R_X2_addCell d 17 x m = some (mz_wr (mz_wr m 18 u x) 17 4 (nI (u + 1))) := by
  rw [R_X2_addCell_eq d 17 x m z_w17, m_ne (show 17 ≠ 17 + 1 by omega), h, if_neg (show ¬ (404 : Int32) ≤ nI u from nI_ge (b := 404) hu (by omega)), n_ok (by omega), n_gd hu, nI_clamp (by omega), nI_1]
theorem c_addCellF {d : Nat} {m : MzM} {x : Int32} (h : mz_rd m 17 4 = nI 404) : R_X2_addCell d 17 x m = some m := by
  rw [R_X2_addCell_eq d 17 x m z_w17, h, if_pos (show (404 : Int32) ≤ nI 404 by decide)]
theorem c_addInt {d u x : Nat} {m : MzM} (h : mz_rd m 17 4 = nI u) (hu : u < 404) : R_X2_addInt d 17 (nI x) m = some (mz_wr (mz_wr m 18 u (nI (zenc (0, x)))) 17 4 (nI (u + 1))) := by
  rw [R_X2_addInt_eq d 17 _ m z_w17, c_addCell h hu, Option.bind_some]
  rfl
theorem c_addVar {d u x : Nat} {m : MzM} (h : mz_rd m 17 4 = nI u) (hu : u < 404) : R_X2_addVar d 17 (nI x) m = some (mz_wr (mz_wr m 18 u (nI (zenc (1, x)))) 17 4 (nI (u + 1))) := by
  have e : (10000 : Int32) + nI x = nI (zenc (1, x)) := nI_add 10000 x
  rw [R_X2_addVar_eq d 17 _ m z_w17, e, c_addCell h hu, Option.bind_some]
theorem c_addSign {d u k x : Nat} {m : MzM} (h : mz_rd m 17 4 = nI u) (hu : u < 404) (h2 : 2 ≤ k) (h5 : k ≤ 5) : R_X2_addSign d 17 (nI (k + 4)) m = some (mz_wr (mz_wr m 18 u (nI (zenc (k, x)))) 17 4 (nI (u + 1))) := by
  have e : (10009 : Int32) + nI (k + 4) = nI (zenc (k, x)) := by
    have e1 : (10009 : Int32) + nI (k + 4) = nI (10009 + (k + 4)) := nI_add 10009 (k + 4)
    rw [e1]
    rcases (show k = 2 ∨ k = 3 ∨ k = 4 ∨ k = 5 by omega) with rfl | rfl | rfl | rfl <;> rfl
  rw [R_X2_addSign_eq d 17 _ m z_w17, e, c_addCell h hu, Option.bind_some]
theorem c_begin {d k u : Nat} {m : MzM} (hk : k < 4) (h : mz_rd m 17 4 = nI u) : R_X2_begin d 17 (nI k) m = some (mz_wr (mz_wr m 20 k 0) 19 (14 * k) (nI u)) := by
  have t14 : nI k * 14 = nI (14 * k) := by
    have : nI k * 14 = nI (k * 14) := pk_mul k 14
    rw [this, Nat.mul_comm]
  rw [R_X2_begin_eq d 17 _ m z_w17, t14, n_ok (by omega), n_gd hk, n_ok (by omega), n_gd (by omega), nI_clamp (by omega), nI_clamp (by omega), m_ne (show 17 ≠ 17 + 3 by omega), h]
theorem c_endPart {d k u p : Nat} {m : MzM} (hk : k < 4) (h : mz_rd m 17 4 = nI u) (hp : mz_rd m 20 k = nI p) (hp2 : p < 13) : R_X2_endPart d 17 (nI k) m = some (mz_wr (mz_wr m 20 k (nI (p + 1))) 19 (14 * k + (p + 1)) (nI u)) := by
  have t14 : nI k * 14 = nI (14 * k) := by
    have : nI k * 14 = nI (k * 14) := pk_mul k 14
    rw [this, Nat.mul_comm]
  have hp' : mz_rd m (17 + 3) k = nI p := hp
  rw [R_X2_endPart_eq d 17 _ m z_w17, n_ok (show k < 2 ^ 31 by omega), n_gd hk, n_gd hk, nI_clamp (show k < 2 ^ 31 by omega), hp', if_neg (show ¬ (13 : Int32) ≤ nI p from nI_ge (b := 13) hp2 (by omega)), n_gd hk, n_gd hk, nI_1, m_eq, t14, nI_add, n_ok (by omega), n_gd (by omega), nI_clamp (by omega), m_ne (show 17 ≠ 17 + 3 by omega), h]
