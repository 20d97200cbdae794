/-! numbers and memory, small rows -/
theorem n_ok {k n : Nat} (h : k < 2 ^ 31) : mz_ok (nI k) n = decide (k < n) := by
  unfold mz_ok
  rw [nI_clamp h]
  simp [nI_pos h]
theorem n_mul (a b : Nat) : nI a * nI b = nI (a * b) := (Int32.ofNat_mul a b).symm
theorem n_4 : (4 : Int32) = nI 4 := by decide
theorem n_0 : (0 : Int32) = nI 0 := by decide
theorem n_g {γ : Type} (r : Option γ) : mz_g true r = r := rfl
theorem n_gd {γ : Type} {p : Prop} {hp : Decidable p} (h : p) (r : Option γ) : mz_g (decide p) r = r := by rw [decide_eq_true h]; rfl
theorem m_rw (m : MzM) (a i : Nat) (v : Int32) (b j : Nat) : mz_rd (mz_wr m a i v) b j = if b = a ∧ j = i then v else mz_rd m b j := rfl
theorem m_rwl (m : MzM) (a i : Nat) (v : Int64) (b j : Nat) : mz_rd (mz_wl m a i v) b j = mz_rd m b j := rfl
theorem m_lw (m : MzM) (a i : Nat) (v : Int32) (b j : Nat) : mz_rl (mz_wr m a i v) b j = mz_rl m b j := rfl
theorem m_lwl (m : MzM) (a i : Nat) (v : Int64) (b j : Nat) : mz_rl (mz_wl m a i v) b j = if b = a ∧ j = i then v else mz_rl m b j := rfl
theorem m_rc (m : MzM) (a s b d n c j : Nat) : mz_rd (mz_cp m a s b d n) c j = if c = b ∧ d ≤ j ∧ j < d + n then mz_rd m a (s + (j - d)) else mz_rd m c j := rfl
theorem m_lc (m : MzM) (a s b d n c j : Nat) : mz_rl (mz_cp m a s b d n) c j = mz_rl m c j := rfl
theorem m_ne {m : MzM} {a i b j : Nat} {v : Int32} (h : b ≠ a) : mz_rd (mz_wr m a i v) b j = mz_rd m b j := by rw [m_rw, if_neg (fun z => h z.1)]
theorem m_ni {m : MzM} {a i b j : Nat} {v : Int32} (h : j ≠ i) : mz_rd (mz_wr m a i v) b j = mz_rd m b j := by rw [m_rw, if_neg (fun z => h z.2)]
theorem m_eq {m : MzM} {a i : Nat} {v : Int32} : mz_rd (mz_wr m a i v) a i = v := by rw [m_rw, if_pos ⟨rfl, rfl⟩]
/-- amount of a person's stuff in a state -/
theorem s_amount (d s p t : Nat) (m : MzM) (hs : mz_isS s = true) (hp : p < 6) (ht : t < 4) : R_X6_amount d s (nI p) (nI t) m = some (mz_rd m (s + 1) (4 * p + t), m) := by
  rw [R_X6_amount_eq d s _ _ m hs, n_4, n_mul, nI_add, n_ok (by omega), n_gd (by omega), nI_clamp (by omega), Nat.mul_comm]
