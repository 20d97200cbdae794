/-! the class's State: its methods over the numbers -/
theorem n_le4 {t : Nat} (h : t < 4) : ¬ (4 : Int32) ≤ nI t := by rw [n_4, nI_leI (by omega) (by omega)]; omega
theorem n_4le : (4 : Int32) ≤ nI 4 := by decide
theorem s_setAmount (d s p t : Nat) (v : Int32) (m : MzM) (hs : mz_isS s = true) (hp : p < 6) (ht : t < 4) : R_X6_setAmount d s (nI p) (nI t) v m = some (mz_wr m (s + 1) (4 * p + t) v) := by
  rw [R_X6_setAmount_eq d s _ _ _ m hs, n_4, n_mul, nI_add, n_ok (by omega), n_gd (by omega), nI_clamp (by omega), Nat.mul_comm]
/-- all of a person's stuffs, added -/
def s_sum4 (m : MzM) (a i : Nat) : Int32 := 0 + mz_rd m a i + mz_rd m a (i + 1) + mz_rd m a (i + 2) + mz_rd m a (i + 3)
theorem s_ofAll (d s p : Nat) (m : MzM) (hs : mz_isS s = true) (hp : p < 6) : R_X6_ofAll d s (nI p) m = some (s_sum4 m (s + 1) (4 * p), m) := by
  have st : ∀ (acc : Int32) (t : Nat), t < 4 → H_X6_ofAll_4 d s (nI p) acc (nI t) m = H_X6_ofAll_4 d s (nI p) (acc + mz_rd m (s + 1) (4 * p + t)) (nI (t + 1)) m := by
    intro acc t ht
    rw [H_X6_ofAll_4_eq d s _ _ _ m hs, if_neg (n_le4 ht), s_amount d s p t m hs hp ht, Option.bind_some, nI_1]
  have en : ∀ acc : Int32, H_X6_ofAll_4 d s (nI p) acc (nI 4) m = some (acc, m) := by
    intro acc
    rw [H_X6_ofAll_4_eq d s _ _ _ m hs, if_pos n_4le]
  rw [R_X6_ofAll_eq d s _ m hs]
  show H_X6_ofAll_4 d s (nI p) 0 (nI 0) m = _
  rw [st _ 0 (by omega), st _ 1 (by omega), st _ 2 (by omega), st _ 3 (by omega), en]
  rfl
theorem s_inScrew (d s : Nat) (m : MzM) (hs : mz_isS s = true) : R_X6_inScrew d s m = some (s_sum4 m (s + 2) 0, m) := by
  have st : ∀ (acc : Int32) (t : Nat), t < 4 → H_X6_inScrew_4 d s acc (nI t) m = H_X6_inScrew_4 d s (acc + mz_rd m (s + 2) t) (nI (t + 1)) m := by
    intro acc t ht
    rw [H_X6_inScrew_4_eq d s _ _ m hs, if_neg (n_le4 ht), n_ok (by omega), n_gd (by omega), nI_clamp (by omega), nI_1]
  have en : ∀ acc : Int32, H_X6_inScrew_4 d s acc (nI 4) m = some (acc, m) := by
    intro acc
    rw [H_X6_inScrew_4_eq d s _ _ m hs, if_pos n_4le]
  rw [R_X6_inScrew_eq d s m hs]
  show H_X6_inScrew_4 d s 0 (nI 0) m = _
  rw [st _ 0 (by omega), st _ 1 (by omega), st _ 2 (by omega), st _ 3 (by omega), en]
  rfl
def s_abs (x : Int32) : Int32 := if (0 : Int32) ≤ x then x else 0 - x
/-- how much two cases differ, added -/
def s_apart (m : MzM) (a p o : Nat) : Int32 := 0 + s_abs (mz_rd m a (4 * p) - mz_rd m a (4 * o)) + s_abs (mz_rd m a (4 * p + 1) - mz_rd m a (4 * o + 1)) + s_abs (mz_rd m a (4 * p + 2) - mz_rd m a (4 * o + 2)) + s_abs (mz_rd m a (4 * p + 3) - mz_rd m a (4 * o + 3))
theorem s_apartOf (d s p o : Nat) (m : MzM) (hs : mz_isS s = true) (hp : p < 6) (ho : o < 6) : R_X6_apart d s (nI p) (nI o) m = some (s_apart m (s + 1) p o, m) := by
  have st : ∀ (acc : Int32) (t : Nat), t < 4 → H_X6_apart_5 d s (nI p) (nI o) acc (nI t) m = H_X6_apart_5 d s (nI p) (nI o) (acc + s_abs (mz_rd m (s + 1) (4 * p + t) - mz_rd m (s + 1) (4 * o + t))) (nI (t + 1)) m := by
    intro acc t ht
    rw [H_X6_apart_5_eq d s _ _ _ _ m hs, if_neg (n_le4 ht), s_amount d s p t m hs hp ht, Option.bind_some]
    dsimp only
    rw [s_amount d s o t m hs ho ht, Option.bind_some, nI_1]
    rfl
  have en : ∀ acc : Int32, H_X6_apart_5 d s (nI p) (nI o) acc (nI 4) m = some (acc, m) := by
    intro acc
    rw [H_X6_apart_5_eq d s _ _ _ _ m hs, if_pos n_4le]
  rw [R_X6_apart_eq d s _ _ m hs]
  show H_X6_apart_5 d s (nI p) (nI o) 0 (nI 0) m = _
  rw [st _ 0 (by omega), st _ 1 (by omega), st _ 2 (by omega), st _ 3 (by omega), en]
  rfl
theorem s_emptyScrew (d s : Nat) (m : MzM) (hs : mz_isS s = true) : R_X6_emptyScrew d s m = some (mz_wr (mz_wr (mz_wr (mz_wr m (s + 2) 0 0) (s + 2) 1 0) (s + 2) 2 0) (s + 2) 3 0) := by
  have st : ∀ (m : MzM) (t : Nat), t < 4 → H_X6_emptyScrew_2 d s (nI t) m = H_X6_emptyScrew_2 d s (nI (t + 1)) (mz_wr m (s + 2) t 0) := by
    intro m t ht
    rw [H_X6_emptyScrew_2_eq d s _ m hs, if_neg (n_le4 ht), n_ok (by omega), n_gd (by omega), nI_clamp (by omega), nI_1]
  have en : ∀ m : MzM, H_X6_emptyScrew_2 d s (nI 4) m = some m := by
    intro m
    rw [H_X6_emptyScrew_2_eq d s _ m hs, if_pos n_4le]
  rw [R_X6_emptyScrew_eq d s m hs]
  show H_X6_emptyScrew_2 d s (nI 0) m = _
  rw [st _ 0 (by omega), st _ 1 (by omega), st _ 2 (by omega), st _ 3 (by omega), en]
