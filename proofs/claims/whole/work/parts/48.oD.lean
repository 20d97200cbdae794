/-! obligations: fair, most, poorest, plates, crumbs -/
theorem z_ne2 {k : Nat} (h : k < 2 ^ 31) : ¬ nI k = -2 := fun z => absurd (nI_pos' h) (by rw [z]; decide)
theorem z_ne1 {k : Nat} (h : k < 2 ^ 31) : ¬ nI k = -1 := fun z => absurd (nI_pos' h) (by rw [z]; decide)
/-- the first of the best: c k has f k -/
def zarg (lt : Nat → Nat → Bool) (c f : Nat → Nat) : Nat → Option (Nat × Nat)
  | 0 => none
  | k + 1 => match zarg lt c f k with
    | none => some (c k, f k)
    | some r => if lt (f k) r.2 = true then some (c k, f k) else some r
def zo1 (o : Option (Nat × Nat)) : Int32 := match o with
  | none => -2
  | some r => nI r.1
def zo2 (o : Option (Nat × Nat)) : Int32 := match o with
  | none => -2
  | some r => nI r.2
theorem zarg_b {lt : Nat → Nat → Bool} {c f : Nat → Nat} {C F : Nat} : ∀ {k : Nat}, (∀ j, j < k → c j ≤ C) → (∀ j, j < k → f j ≤ F) → ∀ r, zarg lt c f k = some r → r.1 ≤ C ∧ r.2 ≤ F := by
  intro k
  induction k with
  | zero => intro _ _ r h; cases h
  | succ k ih =>
    intro h1 h2 r h
    have i := ih (fun j hj => h1 j (by omega)) (fun j hj => h2 j (by omega))
    unfold zarg at h
    cases e : zarg lt c f k with
    | none =>
      rw [e] at h
      cases h
      exact ⟨h1 k (by omega), h2 k (by omega)⟩
    | some q =>
      rw [e] at h
      dsimp only at h
      split at h
      · cases h
        exact ⟨h1 k (by omega), h2 k (by omega)⟩
      · rw [← Option.some.inj h]
        exact i q e
theorem zarg_some {lt : Nat → Nat → Bool} {c f : Nat → Nat} {k : Nat} (h : 0 < k) : ∃ r, zarg lt c f k = some r := by
  cases k with
  | zero => omega
  | succ k =>
    unfold zarg
    cases zarg lt c f k with
    | none => exact ⟨_, rfl⟩
    | some q =>
      dsimp only
      split
      · exact ⟨_, rfl⟩
      · exact ⟨_, rfl⟩
/-- the value is that of who -/
theorem zarg_v {lt : Nat → Nat → Bool} {f : Nat → Nat} : ∀ {k : Nat} {r : Nat × Nat}, zarg lt (fun k => k) f k = some r → r.1 < k ∧ r.2 = f r.1 := by
  intro k
  induction k with
  | zero => intro r h; cases h
  | succ k ih =>
    intro r h
    unfold zarg at h
    cases e : zarg lt (fun k => k) f k with
    | none =>
      rw [e] at h
      cases h
      exact ⟨by show k < k + 1; omega, rfl⟩
    | some q =>
      rw [e] at h
      dsimp only at h
      split at h
      · cases h
        exact ⟨by show k < k + 1; omega, rfl⟩
      · cases h
        have := ih e
        exact ⟨by omega, this.2⟩
abbrev zltB (x y : Nat) : Bool := decide (x < y)
abbrev zgtB (x y : Nat) : Bool := decide (y < x)
/-- the class's step: less is better -/
theorem zarg_c {β : Type} (A : Int32 → Int32 → β) {c f : Nat → Nat} {k : Nat} (h1 : ∀ j, j < k + 1 → c j ≤ 2 ^ 30) (h2 : ∀ j, j < k + 1 → f j ≤ 2 ^ 30) : (if zo1 (zarg zltB c f k) = -2 then A (nI (c k)) (nI (f k)) else (if zo2 (zarg zltB c f k) ≤ nI (f k) then A (zo1 (zarg zltB c f k)) (zo2 (zarg zltB c f k)) else A (nI (c k)) (nI (f k)))) = A (zo1 (zarg zltB c f (k + 1))) (zo2 (zarg zltB c f (k + 1))) := by
  have hb := zarg_b (lt := zltB) (k := k) (fun j hj => h1 j (by omega)) (fun j hj => h2 j (by omega))
  have hk := h2 k (by omega)
  show _ = A (zo1 (match zarg zltB c f k with
    | none => some (c k, f k)
    | some r => if zltB (f k) r.2 = true then some (c k, f k) else some r)) (zo2 (match zarg zltB c f k with
    | none => some (c k, f k)
    | some r => if zltB (f k) r.2 = true then some (c k, f k) else some r))
  cases e : zarg zltB c f k with
  | none => rfl
  | some r =>
    have := hb r e
    show (if nI r.1 = -2 then A (nI (c k)) (nI (f k)) else (if nI r.2 ≤ nI (f k) then A (nI r.1) (nI r.2) else A (nI (c k)) (nI (f k)))) = _
    rw [if_neg (z_ne2 (by omega))]
    by_cases q : r.2 ≤ f k
    · rw [if_pos (nI_le q (by omega))]
      dsimp only
      rw [if_neg (by simp only [decide_eq_true_eq]; omega)]
      rfl
    · rw [if_neg (nI_ge (by omega) (by omega))]
      dsimp only
      rw [if_pos (by simp only [decide_eq_true_eq]; omega)]
      rfl
/-- the class's step: more is better -/
theorem zarg_cg {β : Type} (A : Int32 → Int32 → β) {c f : Nat → Nat} {k : Nat} (h1 : ∀ j, j < k + 1 → c j ≤ 2 ^ 30) (h2 : ∀ j, j < k + 1 → f j ≤ 2 ^ 30) : (if zo1 (zarg zgtB c f k) = -2 then A (nI (c k)) (nI (f k)) else (if nI (f k) ≤ zo2 (zarg zgtB c f k) then A (zo1 (zarg zgtB c f k)) (zo2 (zarg zgtB c f k)) else A (nI (c k)) (nI (f k)))) = A (zo1 (zarg zgtB c f (k + 1))) (zo2 (zarg zgtB c f (k + 1))) := by
  have hb := zarg_b (lt := zgtB) (k := k) (fun j hj => h1 j (by omega)) (fun j hj => h2 j (by omega))
  have hk := h2 k (by omega)
  show _ = A (zo1 (match zarg zgtB c f k with
    | none => some (c k, f k)
    | some r => if zgtB (f k) r.2 = true then some (c k, f k) else some r)) (zo2 (match zarg zgtB c f k with
    | none => some (c k, f k)
    | some r => if zgtB (f k) r.2 = true then some (c k, f k) else some r))
  cases e : zarg zgtB c f k with
  | none => rfl
  | some r =>
    have := hb r e
    show (if nI r.1 = -2 then A (nI (c k)) (nI (f k)) else (if nI (f k) ≤ nI r.2 then A (nI r.1) (nI r.2) else A (nI (c k)) (nI (f k)))) = _
    rw [if_neg (z_ne2 (by omega))]
    by_cases q : f k ≤ r.2
    · rw [if_pos (nI_le q (by omega))]
      dsimp only
      rw [if_neg (by simp only [decide_eq_true_eq]; omega)]
      rfl
    · rw [if_neg (nI_ge (by omega) (by omega))]
      dsimp only
      rw [if_pos (by simp only [decide_eq_true_eq]; omega)]
      rfl
/-- the reference's step: less is better -/
theorem zarg_r {β : Type} (A : Int32 → Int32 → β) {c f : Nat → Nat} {k : Nat} (h1 : ∀ j, j < k + 1 → c j ≤ 2 ^ 30) (h2 : ∀ j, j < k + 1 → f j ≤ 2 ^ 30) : (if zo1 (zarg zltB c f k) < 0 then A (nI (c k)) (nI (f k)) else (if nI (f k) < zo2 (zarg zltB c f k) then A (nI (c k)) (nI (f k)) else A (zo1 (zarg zltB c f k)) (zo2 (zarg zltB c f k)))) = A (zo1 (zarg zltB c f (k + 1))) (zo2 (zarg zltB c f (k + 1))) := by
  have hb := zarg_b (lt := zltB) (k := k) (fun j hj => h1 j (by omega)) (fun j hj => h2 j (by omega))
  have hk := h2 k (by omega)
  rw [← zarg_c A h1 h2]
  cases e : zarg zltB c f k with
  | none => rfl
  | some r =>
    have := hb r e
    show (if nI r.1 < 0 then A (nI (c k)) (nI (f k)) else (if nI (f k) < nI r.2 then A (nI (c k)) (nI (f k)) else A (nI r.1) (nI r.2))) = (if nI r.1 = -2 then A (nI (c k)) (nI (f k)) else (if nI r.2 ≤ nI (f k) then A (nI r.1) (nI r.2) else A (nI (c k)) (nI (f k))))
    rw [if_neg (nI_pos (by omega)), if_neg (z_ne2 (by omega))]
    by_cases q : r.2 ≤ f k
    · rw [if_neg (nI_nlt q (by omega)), if_pos (nI_le q (by omega))]
    · rw [if_pos (nI_lt (by omega) (by omega)), if_neg (nI_ge (by omega) (by omega))]
def zfr (v : Nat → Nat) (t : Nat) : Nat → Nat × Nat
  | 0 => (v t, v t)
  | p + 1 => (if v (4 * (p + 1) + t) < (zfr v t p).1 then v (4 * (p + 1) + t) else (zfr v t p).1, if (zfr v t p).2 < v (4 * (p + 1) + t) then v (4 * (p + 1) + t) else (zfr v t p).2)
theorem zfr_b {v : Nat → Nat} {t B : Nat} : ∀ {p : Nat}, (∀ q, q ≤ p → v (4 * q + t) ≤ B) → (zfr v t p).1 ≤ B ∧ (zfr v t p).2 ≤ B := by
  intro p
  induction p with
  | zero =>
    intro h
    have := h 0 (Nat.le_refl _)
    rw [show 4 * 0 + t = t by omega] at this
    exact ⟨this, this⟩
  | succ p ih =>
    intro h
    obtain ⟨i1, i2⟩ := ih (fun q hq => h q (by omega))
    have := h (p + 1) (Nat.le_refl _)
    unfold zfr
    dsimp only
    constructor
    · split <;> omega
    · split <;> omega
theorem o_fair : mz_o_fair zI := by
  intro n m a0 hn hI
  obtain ⟨T, lv, v, h⟩ := id hI
  obtain ⟨h1, h2, h3, h4, h5, -⟩ := h
  have h6 := h1.1.1
  have hb := zBn_3 hn
  have x1 := R_X11_fair_eq 8 a0 m
  have x2 := R_X12_fair_eq 8 a0 m
  obtain ⟨-, l2, l3, l4, -⟩ := id h2
  cases c : zIsP 4 a0 with
  | false =>
    rw [c_isS, c, Option.bind_some] at x1
    rw [r_isS, c, Option.bind_some] at x2
    exact ⟨_, _, _, x1, x2, zI_q hn hI zFr_r zFr_r⟩
  | true =>
    obtain ⟨t, ht, rfl⟩ := zIsP_t c (by omega)
    rw [c_isS, c, Option.bind_some] at x1
    rw [r_isS, c, Option.bind_some] at x2
    dsimp only at x1 x2
    rw [zb_t1, h1.2.1] at x1
    rw [zb_t1, l3, n_ok (by omega), n_gd l2, nI_clamp (by omega), l4] at x2
    by_cases z : tN T = 0
    · rw [z] at x1 x2
      rw [if_neg (by simp [nI_0])] at x1 x2
      exact ⟨_, _, _, x1, x2, zI_q hn hI zFr_r zFr_r⟩
    · have nz : ¬ nI (tN T) = 0 := nI_ne0 (by omega) (by omega)
      have bd : ∀ q, q < tN T → v (4 * q + t) ≤ zBn n := fun q hq => zB_a h5 hq ht
      have e0 : R_X6_amount 8 29 0 (nI t) m = some (nI (v t), m) := by
        have := c_amount (d := 8) z_s29 h3 h6 (p := 0) (t := t) (by omega) ht
        rw [show 4 * 0 + t = t by omega] at this
        exact this
      have r0 : mz_rd m 270 t = nI (v t) := h4 t (by omega) (by omega)
      rw [if_pos nz, e0, Option.bind_some] at x1
      dsimp only at x1
      rw [if_pos nz, n_ok (by omega), n_gd (by omega), n_gd (by omega), nI_clamp (by omega), r0] at x2
      have stc : ∀ p, p + 1 < tN T → H_X11_fair_36 8 (nI t) (nI (zfr v t p).1) (nI (zfr v t p).2) (nI (p + 1)) m = H_X11_fair_36 8 (nI t) (nI (zfr v t (p + 1)).1) (nI (zfr v t (p + 1)).2) (nI (p + 1 + 1)) m := by
        intro p hp
        obtain ⟨b1, b2⟩ := zfr_b (v := v) (t := t) (B := zBn n) (p := p) (fun q hq => bd q (by omega))
        have b3 := bd (p + 1) hp
        rw [H_X11_fair_36_eq, h1.2.1, if_neg (nI_ge hp (by omega)), c_amount z_s29 h3 h6 hp ht, Option.bind_some]
        dsimp only
        rw [nI_1]
        have y1 : (if nI (v (4 * (p + 1) + t)) < nI (zfr v t p).1 then nI (v (4 * (p + 1) + t)) else nI (zfr v t p).1) = nI (zfr v t (p + 1)).1 := by
          show _ = nI (if v (4 * (p + 1) + t) < (zfr v t p).1 then v (4 * (p + 1) + t) else (zfr v t p).1)
          by_cases q : v (4 * (p + 1) + t) < (zfr v t p).1
          · rw [if_pos q, if_pos (nI_lt q (by omega))]
          · rw [if_neg q, if_neg (nI_nlt (by omega) (by omega))]
        have y2 : (if nI (zfr v t p).2 < nI (v (4 * (p + 1) + t)) then nI (v (4 * (p + 1) + t)) else nI (zfr v t p).2) = nI (zfr v t (p + 1)).2 := by
          show _ = nI (if (zfr v t p).2 < v (4 * (p + 1) + t) then v (4 * (p + 1) + t) else (zfr v t p).2)
          by_cases q : (zfr v t p).2 < v (4 * (p + 1) + t)
          · rw [if_pos q, if_pos (nI_lt q (by omega))]
          · rw [if_neg q, if_neg (nI_nlt (by omega) (by omega))]
        rw [y1, y2]
      have str : ∀ p, p + 1 < tN T → H_X12_fair_40 8 (nI t) (nI (zfr v t p).1) (nI (zfr v t p).2) (nI (p + 1)) m = H_X12_fair_40 8 (nI t) (nI (zfr v t (p + 1)).1) (nI (zfr v t (p + 1)).2) (nI (p + 1 + 1)) m := by
        intro p hp
        obtain ⟨b1, b2⟩ := zfr_b (v := v) (t := t) (B := zBn n) (p := p) (fun q hq => bd q (by omega))
        have b3 := bd (p + 1) hp
        have r1 := h4 (4 * (p + 1) + t) (by omega) (by omega)
        rw [H_X12_fair_40_eq, l3, n_ok (by omega), n_gd l2, nI_clamp (by omega), l4, if_neg (nI_ge hp (by omega)), z_mul4, nI_add, n_ok (by omega), n_gd (by omega), nI_clamp (by omega), r1, n_gd (by omega), n_gd (by omega), n_gd (by omega), n_gd (by omega), n_gd (by omega), nI_1]
        show _ = H_X12_fair_40 8 (nI t) (nI (if v (4 * (p + 1) + t) < (zfr v t p).1 then v (4 * (p + 1) + t) else (zfr v t p).1)) (nI (if (zfr v t p).2 < v (4 * (p + 1) + t) then v (4 * (p + 1) + t) else (zfr v t p).2)) _ m
        by_cases q : v (4 * (p + 1) + t) < (zfr v t p).1
        · rw [if_pos q, if_neg (nI_ge q (by omega))]
          by_cases q2 : (zfr v t p).2 < v (4 * (p + 1) + t)
          · rw [if_pos q2, if_neg (nI_ge q2 (by omega))]
          · rw [if_neg q2, if_pos (nI_le (by omega) (by omega))]
        · rw [if_neg q, if_pos (nI_le (by omega) (by omega))]
          by_cases q2 : (zfr v t p).2 < v (4 * (p + 1) + t)
          · rw [if_pos q2, if_neg (nI_ge q2 (by omega))]
          · rw [if_neg q2, if_pos (nI_le (by omega) (by omega))]
      have lc : ∀ j p, tN T - (p + 1) = j → p + 1 ≤ tN T → H_X11_fair_36 8 (nI t) (nI (zfr v t p).1) (nI (zfr v t p).2) (nI (p + 1)) m = some (nI (zfr v t (tN T - 1)).2 - nI (zfr v t (tN T - 1)).1, m) := by
        intro j
        induction j with
        | zero =>
          intro p e1 e2
          rw [show tN T - 1 = p by omega, H_X11_fair_36_eq, h1.2.1, if_pos (nI_le (by omega) (by omega))]
        | succ j ih =>
          intro p e1 e2
          rw [stc p (by omega)]
          exact ih (p + 1) (by omega) (by omega)
      have lr : ∀ j p, tN T - (p + 1) = j → p + 1 ≤ tN T → H_X12_fair_40 8 (nI t) (nI (zfr v t p).1) (nI (zfr v t p).2) (nI (p + 1)) m = some (nI (zfr v t (tN T - 1)).2 - nI (zfr v t (tN T - 1)).1, m) := by
        intro j
        induction j with
        | zero =>
          intro p e1 e2
          rw [show tN T - 1 = p by omega, H_X12_fair_40_eq, l3, n_ok (by omega), n_gd l2, nI_clamp (by omega), l4, if_pos (nI_le (by omega) (by omega))]
        | succ j ih =>
          intro p e1 e2
          rw [str p (by omega)]
          exact ih (p + 1) (by omega) (by omega)
      have c1 : H_X11_fair_36 8 (nI t) (nI (v t)) (nI (v t)) 1 m = _ := lc _ 0 rfl (by omega)
      have c2 : H_X12_fair_40 8 (nI t) (nI (v t)) (nI (v t)) 1 m = _ := lr _ 0 rfl (by omega)
      rw [c1] at x1
      rw [c2] at x2
      exact ⟨_, _, _, x1, x2, zI_q hn hI zFr_r zFr_r⟩
theorem o_most : mz_o_most zI := by
  intro n m a0 a1 hn hI
  obtain ⟨T, lv, v, h⟩ := id hI
  obtain ⟨h1, h2, h3, h4, h5, -⟩ := h
  have h6 := h1.1.1
  have hb := zBn_3 hn
  have x1 := R_X11_most_eq 8 a0 a1 m
  have x2 := R_X12_most_eq 8 a0 a1 m
  obtain ⟨-, l2, l3, l4, -⟩ := id h2
  cases c : zIsP 4 a0 with
  | false =>
    rw [c_isS, c, Option.bind_some] at x1
    rw [r_isS, c, Option.bind_some] at x2
    exact ⟨_, _, _, x1, x2, zI_q hn hI zFr_r zFr_r⟩
  | true =>
    obtain ⟨t, ht, rfl⟩ := zIsP_t c (by omega)
    rw [c_isS, c, Option.bind_some] at x1
    rw [r_isS, c, Option.bind_some] at x2
    dsimp only at x1 x2
    rw [zb_t0, c_is01, Option.bind_some] at x1
    rw [zb_t0, r_in (n := 2) (by omega) (by decide), Option.bind_some] at x2
    dsimp only at x1 x2
    cases c2 : zIsP 2 a1 with
    | false =>
      rw [c2, zb_f1] at x1 x2
      exact ⟨_, _, _, x1, x2, zI_q hn hI zFr_r zFr_r⟩
    | true =>
      rw [c2, zb_t1] at x1 x2
      have bd : ∀ q, q < tN T → v (4 * q + t) ≤ zBn n := fun q hq => zB_a h5 hq ht
      have cl : ∃ r, H_X11_most_26 8 (nI t) a1 (zo1 (zarg zgtB (fun k => k) (fun p => v (4 * p + t)) 0)) (zo2 (zarg zgtB (fun k => k) (fun p => v (4 * p + t)) 0)) (nI 0) m = some r ∧ r = (if ¬ a1 = 0 then zo2 (zarg zgtB (fun k => k) (fun p => v (4 * p + t)) (tN T)) else zo1 (zarg zgtB (fun k => k) (fun p => v (4 * p + t)) (tN T)), m) := by
        refine zlp (fun k (_ : Unit) => H_X11_most_26 8 (nI t) a1 (zo1 (zarg zgtB (fun k => k) (fun p => v (4 * p + t)) k)) (zo2 (zarg zgtB (fun k => k) (fun p => v (4 * p + t)) k)) (nI k) m) (fun r => r = (if ¬ a1 = 0 then zo2 (zarg zgtB (fun k => k) (fun p => v (4 * p + t)) (tN T)) else zo1 (zarg zgtB (fun k => k) (fun p => v (4 * p + t)) (tN T)), m)) (fun _ _ => True) (tN T) ?_ ?_ 0 () (by omega) trivial
        · intro k _ hk _
          left
          refine ⟨(), trivial, ?_⟩
          show H_X11_most_26 8 (nI t) a1 _ _ (nI k) m = H_X11_most_26 8 (nI t) a1 _ _ (nI (k + 1)) m
          rw [H_X11_most_26_eq, h1.2.1, if_neg (nI_ge hk (by omega)), c_amount z_s29 h3 h6 hk ht, Option.bind_some]
          dsimp only
          rw [nI_1]
          exact zarg_cg (fun u w => H_X11_most_26 8 (nI t) a1 u w (nI (k + 1)) m) (c := fun k => k) (f := fun p => v (4 * p + t)) (k := k) (fun j hj => by show j ≤ _; omega) (fun j hj => by have := bd j (by omega); show v (4 * j + t) ≤ _; omega)
        · intro _ _
          show ∃ r, H_X11_most_26 8 (nI t) a1 _ _ (nI (tN T)) m = some r ∧ _
          rw [H_X11_most_26_eq, h1.2.1, if_pos (nI_le (Nat.le_refl _) (by omega))]
          by_cases q : a1 = 0
          · rw [if_neg (fun z => z q), if_neg (fun z => z q)]; exact ⟨_, rfl, rfl⟩
          · rw [if_pos q, if_pos q]; exact ⟨_, rfl, rfl⟩
      have rl : ∃ r, H_X12_most_24 8 (nI t) a1 (zo1 (zarg zgtB (fun k => k) (fun p => v (4 * p + t)) 0)) (nI 0) m = some r ∧ r = (if ¬ a1 = 0 then zo2 (zarg zgtB (fun k => k) (fun p => v (4 * p + t)) (tN T)) else zo1 (zarg zgtB (fun k => k) (fun p => v (4 * p + t)) (tN T)), m) := by
        refine zlp (fun k (_ : Unit) => H_X12_most_24 8 (nI t) a1 (zo1 (zarg zgtB (fun k => k) (fun p => v (4 * p + t)) k)) (nI k) m) (fun r => r = (if ¬ a1 = 0 then zo2 (zarg zgtB (fun k => k) (fun p => v (4 * p + t)) (tN T)) else zo1 (zarg zgtB (fun k => k) (fun p => v (4 * p + t)) (tN T)), m)) (fun _ _ => True) (tN T) ?_ ?_ 0 () (by omega) trivial
        · intro k _ hk _
          left
          refine ⟨(), trivial, ?_⟩
          show H_X12_most_24 8 (nI t) a1 _ (nI k) m = H_X12_most_24 8 (nI t) a1 (zo1 (match zarg zgtB (fun k => k) (fun p => v (4 * p + t)) k with
            | none => some (k, v (4 * k + t))
            | some r => if zgtB (v (4 * k + t)) r.2 = true then some (k, v (4 * k + t)) else some r)) (nI (k + 1)) m
          rw [H_X12_most_24_eq, l3, n_ok (by omega), n_gd l2, nI_clamp (by omega), l4, if_neg (nI_ge hk (by omega))]
          cases e : zarg zgtB (fun k => k) (fun p => v (4 * p + t)) k with
          | none =>
            rw [if_pos (show zo1 none < 0 by decide), nI_1]
            rfl
          | some r =>
            obtain ⟨r1, r2⟩ := zarg_v e
            try dsimp only at r2
            have q1 := h4 (4 * k + t) (by omega) (by omega)
            have q2 := h4 (4 * r.1 + t) (by omega) (by omega)
            have b1 := bd k hk
            have b2 := bd r.1 (by omega)
            show (if nI r.1 < 0 then _ else mz_g (mz_ok ((4 : Int32) * nI k + nI t) 39) (mz_g (mz_ok ((4 : Int32) * nI r.1 + nI t) 39) (if (mz_rd m 270 ((4 : Int32) * nI k + nI t : Int32).toNatClampNeg) ≤ (mz_rd m 270 ((4 : Int32) * nI r.1 + nI t : Int32).toNatClampNeg) then H_X12_most_24 8 (nI t) a1 (nI r.1) (nI k + 1) m else H_X12_most_24 8 (nI t) a1 (nI k) (nI k + 1) m))) = _
            rw [if_neg (nI_pos (by omega)), z_mul4, z_mul4, nI_add, nI_add, n_ok (by omega), n_ok (by omega), n_gd (by omega), n_gd (by omega), nI_clamp (by omega), nI_clamp (by omega), q1, q2, nI_1, ← r2]
            dsimp only
            by_cases q : v (4 * k + t) ≤ r.2
            · rw [if_pos (nI_le q (by omega)), if_neg (by simp only [decide_eq_true_eq]; omega)]
              rfl
            · rw [if_neg (nI_ge (by omega) (by omega)), if_pos (by simp only [decide_eq_true_eq]; omega)]
              rfl
        · intro _ _
          show ∃ r, H_X12_most_24 8 (nI t) a1 _ (nI (tN T)) m = some r ∧ _
          rw [H_X12_most_24_eq, l3, n_ok (by omega), n_gd l2, nI_clamp (by omega), l4, if_pos (nI_le (Nat.le_refl _) (by omega))]
          cases e : zarg zgtB (fun k => k) (fun p => v (4 * p + t)) (tN T) with
          | none =>
            rw [if_pos (show zo1 none < 0 by decide)]
            refine ⟨_, rfl, ?_⟩
            by_cases q : a1 = 0
            · rw [if_neg (fun z => z q)]
            · rw [if_pos q]; rfl
          | some r =>
            obtain ⟨r1, r2⟩ := zarg_v e
            try dsimp only at r2
            have q2 := h4 (4 * r.1 + t) (by omega) (by omega)
            show ∃ r', (if nI r.1 < 0 then _ else _) = some r' ∧ r' = (if ¬ a1 = 0 then nI r.2 else nI r.1, m)
            rw [if_neg (nI_pos (by omega))]
            show ∃ r', (if ¬ a1 = 0 then mz_g (mz_ok ((4 : Int32) * nI r.1 + nI t) 39) (some ((mz_rd m 270 ((4 : Int32) * nI r.1 + nI t : Int32).toNatClampNeg), m)) else some (nI r.1, m)) = some r' ∧ r' = (if ¬ a1 = 0 then nI r.2 else nI r.1, m)
            rw [z_mul4, nI_add, n_ok (by omega), n_gd (by omega), nI_clamp (by omega), q2, ← r2]
            by_cases q : a1 = 0
            · rw [if_neg (fun z => z q), if_neg (fun z => z q)]; exact ⟨_, rfl, rfl⟩
            · rw [if_pos q, if_pos q]; exact ⟨_, rfl, rfl⟩
      obtain ⟨r1, e1, rfl⟩ := cl
      obtain ⟨r2, e2, rfl⟩ := rl
      have e1' : H_X11_most_26 8 (nI t) a1 (-2) (-2) 0 m = _ := e1
      have e2' : H_X12_most_24 8 (nI t) a1 (-2) 0 m = _ := e2
      rw [e1'] at x1
      rw [e2'] at x2
      exact ⟨_, _, _, x1, x2, zI_q hn hI zFr_r zFr_r⟩
