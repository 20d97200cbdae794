/-! the invariant at the beginning -/
def zck (m : MzM) (l : List (Nat × Nat × Nat)) : Bool := l.all fun q => decide (mz_rd m q.1 q.2.1 = nI q.2.2)
theorem zck_g {m : MzM} {l : List (Nat × Nat × Nat)} {a i x : Nat} (h : zck m l = true) (hm : (a, i, x) ∈ l) : mz_rd m a i = nI x := of_decide_eq_true (List.all_eq_true.mp h _ hm)
def zv0 (k : Nat) : Nat := if k = 34 then 1 else 0
def zb0 : List (Nat × Nat × Nat) := [(4, 4, 0), (4, 5, 0), (4, 7, 0), (4, 8, 0), (2, 1, 0), (239, 2, 0), (37, 2, 0), (37, 1, 0), (239, 52, 0), (200, 0, 0), (200, 1, 0), (200, 2, 0), (282, 0, 0), (282, 1, 0), (282, 2, 0), (222, 6, 0), (239, 62, 0), (201, 4, 0), (239, 18, 0), (248, 0, 0), (250, 0, 0), (256, 0, 0), (257, 0, 0), (258, 0, 0), (258, 1, 0), (258, 2, 0), (258, 3, 0), (259, 0, 0), (259, 1, 0), (259, 2, 0), (259, 3, 0)]
def zb1 : List (Nat × Nat × Nat) := [(11, 0, 1), (11, 1, 1), (11, 2, 1), (11, 3, 1), (10, 0, 0), (10, 1, 1), (10, 14, 1), (10, 15, 2), (10, 28, 2), (10, 29, 3), (10, 42, 3), (10, 43, 4), (9, 0, 0), (9, 1, 10005), (9, 2, 0), (9, 3, 1)]
def zb2 : List (Nat × Nat × Nat) := (List.range 39).map fun k => ((zstA 29 k).1, (zstA 29 k).2, zv0 k)
def zb3 : List (Nat × Nat × Nat) := (List.range 39).map fun k => (270, k, zv0 k)
theorem zb_ok : zck mz_h2.2 (zb0 ++ zb1 ++ zb2 ++ zb3) = true := by decide +kernel
theorem zb5_ok : decide (mz_rd mz_h2.2 1 13 = mz_rd mz_h2.2 239 17) = true := by decide +kernel
theorem zb_m0 : zck mz_m0 (zb0 ++ zb1 ++ zb2 ++ zb3) = true := by
  have := zb_ok
  rw [← mz_m0_eq] at this
  exact this
theorem zb5_m0 : mz_rd mz_m0 1 13 = mz_rd mz_m0 239 17 := by
  have := zb5_ok
  rw [← mz_m0_eq] at this
  exact of_decide_eq_true this
theorem zb0_g {a i x : Nat} (h : (a, i, x) ∈ zb0) : mz_rd mz_m0 a i = nI x := zck_g zb_m0 (List.mem_append_left _ (List.mem_append_left _ (List.mem_append_left _ h)))
theorem zb1_g {a i x : Nat} (h : (a, i, x) ∈ zb1) : mz_rd mz_m0 a i = nI x := zck_g zb_m0 (List.mem_append_left _ (List.mem_append_left _ (List.mem_append_right _ h)))
theorem zb2_g {k : Nat} (h : k < 39) : mz_rd mz_m0 (zstA 29 k).1 (zstA 29 k).2 = nI (zv0 k) := zck_g zb_m0 (List.mem_append_left _ (List.mem_append_right _ (List.mem_map.mpr ⟨k, List.mem_range.mpr h, rfl⟩)))
theorem zb3_g {k : Nat} (h : k < 39) : mz_rd mz_m0 270 k = nI (zv0 k) := zck_g zb_m0 (List.mem_append_right _ (List.mem_map.mpr ⟨k, List.mem_range.mpr h, rfl⟩))
