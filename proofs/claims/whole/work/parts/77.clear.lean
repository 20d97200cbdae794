/-! the draft cleared -/
def zOne (m : MzM) (k u : Nat) (c : Nat × Nat) : MzM := mz_wr (mz_wr (mz_wr (mz_wr (mz_wr (mz_wr m 20 k 0) 19 (14 * k) (nI u)) 18 u (nI (zenc c))) 17 4 (nI (u + 1))) 20 k (nI (0 + 1))) 19 (14 * k + (0 + 1)) (nI (u + 1))
theorem c_oneI {d k u x : Nat} {m : MzM} {β : Type} (G : MzM → Option β) (hk : k < 4) (hu : u < 404) (h : mz_rd m 17 4 = nI u) : (R_X2_begin d 17 (nI k) m).bind (fun m1 => (R_X2_addInt d 17 (nI x) m1).bind (fun m4 => (R_X2_endPart d 17 (nI k) m4).bind G)) = G (zOne m k u (0, x)) := by
  rw [c_begin hk h, Option.bind_some, c_addInt (u := u) (by rw [m_ne (by omega), m_ne (by omega)]; exact h) hu, Option.bind_some, c_endPart (u := u + 1) (p := 0) hk m_eq (by rw [m_ne (by omega), m_ne (by omega), m_ne (by omega), m_eq]; rfl) (by omega), Option.bind_some]
  rfl
theorem c_oneV {d k u x : Nat} {m : MzM} {β : Type} (G : MzM → Option β) (hk : k < 4) (hu : u < 404) (h : mz_rd m 17 4 = nI u) : (R_X2_begin d 17 (nI k) m).bind (fun m1 => (R_X2_addVar d 17 (nI x) m1).bind (fun m4 => (R_X2_endPart d 17 (nI k) m4).bind G)) = G (zOne m k u (1, x)) := by
  rw [c_begin hk h, Option.bind_some, c_addVar (u := u) (by rw [m_ne (by omega), m_ne (by omega)]; exact h) hu, Option.bind_some, c_endPart (u := u + 1) (p := 0) hk m_eq (by rw [m_ne (by omega), m_ne (by omega), m_ne (by omega), m_eq]; rfl) (by omega), Option.bind_some]
  rfl
theorem zOne_u {m : MzM} {k u : Nat} {c : Nat × Nat} : mz_rd (zOne m k u c) 17 4 = nI (u + 1) := by
  unfold zOne
  rw [m_ne (by omega), m_ne (by omega), m_eq]
theorem c_clearW {d : Nat} {m : MzM} : R_X2_clear d 17 m = some (zOne (zOne (zOne (zOne (mz_wr m 17 4 0) 0 0 (0, 0)) 1 1 (1, 5)) 2 2 (0, 0)) 3 3 (0, 1)) := by
  rw [R_X2_clear_eq d 17 m z_w17]
  have a0 := c_oneI (d := d) (k := 0) (u := 0) (x := 0) (m := mz_wr m 17 4 0) (fun m7 => (R_X2_begin d 17 (nI 1) m7).bind (fun m10 => (R_X2_addVar d 17 (nI 5) m10).bind (fun m13 => (R_X2_endPart d 17 (nI 1) m13).bind (fun m16 => (R_X2_begin d 17 (nI 2) m16).bind (fun m19 => (R_X2_addInt d 17 (nI 0) m19).bind (fun m22 => (R_X2_endPart d 17 (nI 2) m22).bind (fun m25 => (R_X2_begin d 17 (nI 3) m25).bind (fun m28 => (R_X2_addInt d 17 (nI 1) m28).bind (fun m31 => (R_X2_endPart d 17 (nI 3) m31).bind (fun m34 => some m34)))))))))) (by omega) (by omega) m_eq
  refine Eq.trans (show _ = _ from a0) ?_
  rw [c_oneV (k := 1) (u := 1) (x := 5) _ (by omega) (by omega) zOne_u, c_oneI (k := 2) (u := 2) (x := 0) _ (by omega) (by omega) zOne_u, c_oneI (k := 3) (u := 3) (x := 1) _ (by omega) (by omega) zOne_u]
