/-! the invariant at the beginning -/
def zT0 : ZT := (0, 0, (fun _ _ => 0), (fun k f => zlw f (zdf0 k) [] false), 0, 0)
theorem zPart_1 {m : MzM} {e fr : Nat} {c : Nat × Nat} (h1 : mz_rd m 10 e = nI fr) (h2 : mz_rd m 10 (e + 1) = nI (fr + 1)) (h3 : mz_rd m 9 fr = nI (zenc c)) (hf : fr < 404) (ok : zcs 0 [c] 1) : zPart m e [c] := by
  refine ⟨fr, h1, h2, hf, fun i c' hi => ?_, ok⟩
  match i with
  | 0 =>
    have : c = c' := Option.some.inj hi
    rw [← this]
    exact h3
  | i + 1 => exact absurd hi (by simp)
theorem zCL_0 {m : MzM} {k fr : Nat} {c : Nat × Nat} (hp : mz_rd m 11 k = nI 1) (h1 : mz_rd m 10 (14 * k) = nI fr) (h2 : mz_rd m 10 (14 * k + 1) = nI (fr + 1)) (h3 : mz_rd m 9 fr = nI (zenc c)) (hf : fr < 404) (ok : zcs 0 [c] 1) : zCL m k [] [c] := by
  refine ⟨by show 0 ≤ 4; omega, hp, fun j P hj => ?_⟩
  match j with
  | 0 =>
    have : [c] = P := Option.some.inj hj
    rw [← this]
    exact zPart_1 h1 h2 h3 hf ok
  | j + 1 => exact absurd hj (by simp [zpls])
theorem zcs_i {x : Nat} (h : x < 10000) : zcs 0 [(0, x)] 1 := ⟨Or.inl ⟨rfl, h, by omega⟩, rfl⟩
theorem zcs_v {x : Nat} (h : x < 9) : zcs 0 [(1, x)] 1 := ⟨Or.inr (Or.inl ⟨rfl, h, by omega⟩), rfl⟩
theorem zI_0 : zI 0 mz_m0 := by
  have tw : zTW zT0 := ⟨by show 0 ≤ 6; omega, by show 0 ≤ 8; omega, fun i hi => absurd hi (by show ¬ i < 0; omega), by show 0 ≤ 100; omega, by show 0 ≤ 9999; omega⟩
  refine ⟨zT0, 0, zv0, ⟨tw, zb0_g (by decide), zb0_g (by decide), fun i j hi => absurd hi (by show ¬ i < 0; omega), zb0_g (by decide), zb0_g (by decide), ?_⟩, ⟨tw, by omega, zb0_g (by decide), zb0_g (by decide), zb0_g (by decide), fun i hi => absurd hi (by show ¬ i < 0; omega), zb0_g (by decide), zb0_g (by decide), ?_⟩, ?_, ?_, ?_, ⟨0, by omega, zb0_g (by decide), zb0_g (by decide), fun i hi => absurd hi (by omega)⟩, ?_, ⟨0, 0, by omega, by omega, zb0_g (by decide), zb0_g (by decide), zb0_g (by decide), fun j hj => absurd hj (by omega)⟩, ?_, ⟨0, by omega, zb0_g (by decide), zb0_g (by decide), fun j hj => absurd hj (by omega)⟩, Or.inl (zb0_g (by decide)), rfl⟩
  · refine zLC_of (ts := fun _ => []) (last := zdf0) (fun k hk => ?_)
    rcases (show k = 0 ∨ k = 1 ∨ k = 2 ∨ k = 3 by omega) with rfl | rfl | rfl | rfl
    · exact zCL_0 (c := (0, 0)) (fr := 0) (zb1_g (by decide)) (zb1_g (by decide)) (zb1_g (by decide)) (zb1_g (by decide)) (by omega) (zcs_i (by omega))
    · exact zCL_0 (c := (1, 5)) (fr := 1) (zb1_g (by decide)) (zb1_g (by decide)) (zb1_g (by decide)) (zb1_g (by decide)) (by omega) (zcs_v (by omega))
    · exact zCL_0 (c := (0, 0)) (fr := 2) (zb1_g (by decide)) (zb1_g (by decide)) (zb1_g (by decide)) (zb1_g (by decide)) (by omega) (zcs_i (by omega))
    · exact zCL_0 (c := (0, 1)) (fr := 3) (zb1_g (by decide)) (zb1_g (by decide)) (zb1_g (by decide)) (zb1_g (by decide)) (by omega) (zcs_i (by omega))
  · refine zLR_of (lv := 0) (ts := fun _ => []) (last := zdf0) (by omega) (zb0_g (by decide)) (fun k hk => Or.inl ⟨rfl, rfl, ?_⟩)
    rcases (show k = 0 ∨ k = 1 ∨ k = 2 ∨ k = 3 by omega) with rfl | rfl | rfl | rfl
    · exact (zb0_g (x := 0) (by decide)).trans (zb0_g (x := 0) (by decide)).symm
    · exact (zb0_g (x := 0) (by decide)).trans (zb0_g (x := 0) (by decide)).symm
    · exact (zb0_g (x := 0) (by decide)).trans (zb0_g (x := 0) (by decide)).symm
    · exact (zb0_g (x := 0) (by decide)).trans (zb0_g (x := 0) (by decide)).symm
  · exact fun k hk _ => zb2_g hk
  · exact fun k hk _ => zb3_g hk
  · refine ⟨fun t ht => ?_, by decide, by decide, by decide⟩
    rcases (show t = 0 ∨ t = 1 ∨ t = 2 ∨ t = 3 by omega) with rfl | rfl | rfl | rfl <;> decide
  · exact zb5_m0
  · intro j hj
    rcases (show j = 0 ∨ j = 1 ∨ j = 2 by omega) with rfl | rfl | rfl
    · exact ⟨false, zb0_g (x := 0) (by decide), zb0_g (x := 0) (by decide), fun z => absurd z (by decide)⟩
    · exact ⟨false, zb0_g (x := 0) (by decide), zb0_g (x := 0) (by decide), fun z => absurd z (by decide)⟩
    · exact ⟨false, zb0_g (x := 0) (by decide), zb0_g (x := 0) (by decide), fun z => absurd z (by decide)⟩
