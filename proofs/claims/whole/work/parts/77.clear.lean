/-! the draft cleared -/
def zOne (m : MzM) (k u : Nat) (c : Nat × Nat) : MzM := mz_wr (mz_wr (mz_wr (mz_wr (mz_wr (mz_wr m 20 k 0) 19 (14 * k) (nI u)) 18 u (nI (zenc c))) 17 4 (nI (u + 1))) 20 k (nI (0 + 1))) 19 (14 * k + (0 + 1)) (nI (u + 1))
theorem c_oneI {d k u x : Nat} {m : MzM} {β : Type} (G : MzM → Option β) (hk : k < 4) (hu : u < 404) (h : mz_rd m 17 4 = nI u) : (R_X2_begin d 17 (nI k) m).bind (fun m1 => (R_X2_addInt d 17 (nI x) m1).bind (fun m4 => (R_X2_endPart d 17 (nI k) m4).bind G)) = G (zOne m k u (0, x)) := by
  rw [c_begin hk h, Option.bind_some, c_addInt (u := u) (by rw [m_ne (by omega), m_ne (by omega)]; exact h) hu, Option.bind_some, c_endPart (u := u + 1) (p := 0) hk m_eq (by rw [m_ne (by omega), m_ne (by omega), m_ne (by omega), m_eq]; rfl) (by omega), Option.bind_some]
  rfl
theorem c_oneV {d k u x : Nat} {m : MzM} {β : Type} (G : MzM → Option β) (hk : k < 4) (hu : u < 404) (h : mz_rd m 17 4 = nI u) : (R_X2_begin d 17 (nI k) m).bind (fun m1 => (R_X2_addVar d 17 (nI x) m1).bind (fun m4 => (R_X2_endPart d 17 (nI k) m4).bind G)) = G (zOne m k u (1, x)) := by
  rw [c_begin hk h, Option.bind_some, c_addVar (u := u) (by rw [m_ne (by omega), m_ne (by omega)]; exact h) hu, Option.bind_some, c_endPart (u := u + 1) (p := 0) hk m_eq (by rw [m_ne (by omega), m_ne (by omega), m_ne (by omega), m_eq]; rfl) (by omega), Option.bind_some]
  rfl
theorem zOne_u {m : MzM} {k u : Nat} {c : Nat × Nat} : mz_rd (zOne m k u c) 17 4 = nI (u + 1) := by
  unfold zOne
  rw [m_ne (by omega), m_ne (by omega), m_eq]
