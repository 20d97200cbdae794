/-! which arguments there are; the tape -/
def zIsP (n : Nat) (x : Int32) : Bool := decide (¬ x < 0 ∧ x < nI n)
theorem zIsP_t {n : Nat} {x : Int32} (h : zIsP n x = true) (hn : n < 2 ^ 31) : ∃ p, p < n ∧ x = nI p := by
  have h := of_decide_eq_true h
  rcases pk_ix x hn with c | c | c
  · exact absurd c h.1
  · exact absurd h.2 (Int32.not_lt.mpr c)
  · exact c
theorem zIsP_n {n p : Nat} (hn : n < 2 ^ 31) (hp : p < n) : zIsP n (nI p) = true := decide_eq_true ⟨nI_pos (by omega), nI_lt hp hn⟩
theorem zIsP_f {n p : Nat} (hp2 : p < 2 ^ 31) (hp : n ≤ p) : zIsP n (nI p) = false := decide_eq_false (fun h => nI_nlt hp hp2 h.2)
theorem zIsP_z {n : Nat} {x : Int32} (h : x < 0) : zIsP n x = false := decide_eq_false (fun z => z.1 h)
theorem zb_ifn {α : Type} (b : Bool) (x y : α) : (if ¬ zb b = 0 then x else y) = match b with
    | true => x
    | false => y := by cases b <;> rfl
theorem zb_g {α : Type} (b : Bool) (r : Option α) : mz_g (decide (zb b = 0 ∨ zb b = 1)) r = r := by cases b <;> rfl
theorem zb_v {α : Type} (b : Bool) (m : α) : (match b with
    | true => some ((1 : Int32), m)
    | false => some ((0 : Int32), m)) = some (zb b, m) := by cases b <;> rfl
/-- two tests: below 0, from n on -/
theorem z_cmp {α : Type} {n : Nat} {x : Int32} (hn : n < 2 ^ 31) (m : α) : (if x < 0 then (some ((0 : Int32), m)) else (if nI n ≤ x then (some (0, m)) else (some (1, m)))) = some (zb (zIsP n x), m) := by
  unfold zIsP
  by_cases c : x < 0
  · rw [if_pos c, decide_eq_false (fun z => z.1 c)]; rfl
  · rw [if_neg c]
    by_cases c2 : nI n ≤ x
    · rw [if_pos c2, decide_eq_false (fun z => absurd z.2 (Int32.not_lt.mpr c2))]; rfl
    · rw [if_neg c2, decide_eq_true ⟨c, Int32.not_le.mp c2⟩]; rfl
/-- two tests: below 0, above n - 1 -/
theorem z_cmp2 {α : Type} {n : Nat} {x y : Int32} (hn : n < 2 ^ 31) (hy : y = nI n - 1) (m : α) : (if x < 0 then (some ((0 : Int32), m)) else (if y < x then (some (0, m)) else (some (1, m)))) = some (zb (zIsP n x), m) := by
  rw [← z_cmp hn m]
  by_cases c : x < 0
  · rw [if_pos c, if_pos c]
  · rw [if_neg c, if_neg c]
    obtain ⟨j, hj, rfl⟩ := nI_of c
    have e : (y < nI j) ↔ (nI n ≤ nI j) := by
      cases n with
      | zero =>
        constructor
        · intro _; exact nI_le (by omega) hj
        · intro _
          rw [hy]
          exact Int32.lt_of_lt_of_le (b := 0) (by decide) (nI_pos' hj)
      | succ n =>
        rw [nI_pred] at hy
        rw [hy, nI_ltI (by omega) hj, nI_leI hn hj]
        omega
    by_cases c2 : nI n ≤ nI j
    · rw [if_pos c2, if_pos (e.mpr c2)]
    · rw [if_neg c2, if_neg (fun z => c2 (e.mp z))]
section ZArg
variable {T : ZT} {lv d : Nat} {m : MzM} {x y : Int32}

theorem c_isP (hT : zTC T m) : R_X11_isPerson d x m = some (zb (zIsP (tN T) x), m) := by
  have := hT.1.1
  rw [R_X11_isPerson_eq, hT.2.1]
  exact z_cmp (by omega) m
theorem c_isS : R_X11_isStuff d x m = some (zb (zIsP 4 x), m) := by
  rw [R_X11_isStuff_eq]
  exact z_cmp (n := 4) (by omega) m
theorem c_isA : R_X11_isAmount d x m = some (zb (zIsP 1000 x), m) := by
  rw [R_X11_isAmount_eq]
  exact z_cmp2 (n := 1000) (by omega) (by decide) m
theorem c_isD : R_X11_areDays d x m = some (zb (zIsP 61 x), m) := by
  rw [R_X11_areDays_eq]
  exact z_cmp2 (n := 61) (by omega) (by decide) m
theorem c_isL : R_X11_isSlot d x m = some (zb (zIsP 3 x), m) := by
  rw [R_X11_isSlot_eq]
  exact z_cmp (n := 3) (by omega) m
theorem c_is01 : R_X11_isZeroOrOne d x m = some (zb (zIsP 2 x), m) := by
  rw [R_X11_isZeroOrOne_eq]
  by_cases c : x = 0
  · subst c; rfl
  · rw [if_neg c]
    by_cases c1 : x = 1
    · subst c1; rfl
    · rw [if_pos c1]
      cases h : zIsP 2 x with
      | false => rfl
      | true =>
        obtain ⟨p, hp, rfl⟩ := zIsP_t h (by omega)
        rcases (show p = 0 ∨ p = 1 by omega) with rfl | rfl
        · exact absurd rfl c
        · exact absurd rfl c1
theorem r_in {n : Nat} {k : Int32} (hn : n < 2 ^ 31) (hk : k = nI n - 1) : R_X12_in d x 0 k m = some (zb (zIsP n x), m) := by
  rw [R_X12_in_eq]
  exact z_cmp2 hn hk m
theorem r_isP (hT : zTR T lv m) : R_X12_isPerson d x m = some (zb (zIsP (tN T) x), m) := by
  have h6 := hT.1.1
  obtain ⟨-, l2, l3, l4, -⟩ := hT
  rw [R_X12_isPerson_eq, l3, n_ok (by omega), n_gd l2, nI_clamp (by omega), l4, r_in (n := tN T) (by omega) rfl, Option.bind_some]
  dsimp only
  rw [zb_g]
theorem r_isS : R_X12_isStuff d x m = some (zb (zIsP 4 x), m) := by
  rw [R_X12_isStuff_eq, r_in (n := 4) (by omega) (by decide), Option.bind_some]
  dsimp only
  rw [zb_g]
theorem r_isD : R_X12_isLong d x m = some (zb (zIsP 61 x), m) := by
  rw [R_X12_isLong_eq, r_in (n := 61) (by omega) (by decide), Option.bind_some]
  dsimp only
  rw [zb_g]
def zIs2 (n : Nat) (x y : Int32) : Bool := zIsP n x && zIsP n y && !decide (x = y)
theorem zIs2_t {n : Nat} {x y : Int32} (h : zIs2 n x y = true) (hn : n < 2 ^ 31) : ∃ p q, p < n ∧ q < n ∧ p ≠ q ∧ x = nI p ∧ y = nI q := by
  unfold zIs2 at h
  simp only [Bool.and_eq_true, Bool.not_eq_true', decide_eq_false_iff_not] at h
  obtain ⟨⟨h1, h2⟩, h3⟩ := h
  obtain ⟨p, hp, rfl⟩ := zIsP_t h1 hn
  obtain ⟨q, hq, rfl⟩ := zIsP_t h2 hn
  exact ⟨p, q, hp, hq, fun z => h3 (by rw [z]), rfl, rfl⟩
theorem z_two {m : MzM} {n : Nat} {f : Int32 → MzM → Option (Int32 × MzM)} (hf : ∀ x, f x m = some (zb (zIsP n x), m)) : (f x m).bind (fun u3 => if u3.1 = 0 then (some (0, u3.2)) else ((f y u3.2).bind (fun u7 => if u7.1 = 0 then (some (0, u7.2)) else (if x = y then (some (0, u7.2)) else (some (1, u7.2)))))) = some (zb (zIs2 n x y), m) := by
  rw [hf, Option.bind_some]
  dsimp only
  rw [zb_if, hf, Option.bind_some]
  dsimp only
  rw [zb_if]
  unfold zIs2
  cases zIsP n x with
  | false => rfl
  | true =>
    cases zIsP n y with
    | false => rfl
    | true =>
      by_cases c : x = y
      · simp [c]; rfl
      · simp [c]; rfl
theorem c_is2 (hT : zTC T m) : R_X11_areTwo d x y m = some (zb (zIs2 (tN T) x y), m) := by
  rw [R_X11_areTwo_eq]
  exact z_two (f := R_X11_isPerson d) (fun x => c_isP hT)
theorem r_is2 (hT : zTR T lv m) : R_X12_areTwo d x y m = some (zb (zIs2 (tN T) x y), m) := by
  rw [R_X12_areTwo_eq]
  exact z_two (f := R_X12_isPerson d) (fun x => r_isP hT)
end ZArg
/-! the tape -/
def zbt (w s : Int32) : Int32 := vp_nar .byte (w >>> (s &&& 31)).toInt8.toInt32
def zCT (a i : Nat) : Prop := a = 3 ∨ (a = 2 ∧ i = 1)
def zRP (a i : Nat) : Prop := a = 240 ∨ (a = 239 ∧ i = 2)
theorem c_append1 {d z : Nat} {w s : Int32} {m : MzM} (hs : s = 0 ∨ s = 8 ∨ s = 16 ∨ s = 24) (hz : z < 2000) (h : mz_rd m 2 1 = nI z) : H_X7_append_3 d w s m = H_X7_append_3 d w (s + (-8)) (mz_wr (mz_wr m 3 z (zbt w s)) 2 1 (nI (z + 1))) := by
  rw [H_X7_append_3_eq, if_neg (by rcases hs with rfl | rfl | rfl | rfl <;> decide), R_X7_hasRoomFor_eq, h, nI_1, if_neg (show ¬ (2000 : Int32) < nI (z + 1) from nI_nlt (a := 2000) (by omega) (by omega)), Option.bind_some]
  dsimp only
  rw [if_neg (by decide), h, n_ok (by omega), n_gd hz, nI_clamp (by omega), m_ne (show 2 ≠ 3 by omega), h, nI_1, b_sh w s hs]
  rfl
theorem c_append {d z : Nat} {w : Int32} {m : MzM} (hz : z + 4 ≤ 2000) (h : mz_rd m 2 1 = nI z) : ∃ m', R_X7_append d w m = some m' ∧ zFr zCT m m' ∧ mz_rd m' 2 1 = nI (z + 4) ∧ (∀ i, i < z → mz_rd m' 3 i = mz_rd m 3 i) ∧ mz_rd m' 3 z = zbt w 24 ∧ mz_rd m' 3 (z + 1) = zbt w 16 ∧ mz_rd m' 3 (z + 2) = zbt w 8 ∧ mz_rd m' 3 (z + 3) = zbt w 0 := by
  have e1 := c_append1 (d := d) (w := w) (s := 24) (m := m) (z := z) (by decide) (by omega) h
  have e2 := c_append1 (d := d) (w := w) (s := 24 + (-8)) (m := (mz_wr (mz_wr m 3 z (zbt w 24)) 2 1 (nI (z + 1)))) (z := z + 1) (by decide) (by omega) m_eq
  have e3 := c_append1 (d := d) (w := w) (s := 24 + (-8) + (-8)) (m := _) (z := z + 1 + 1) (by decide) (by omega) (m_eq (m := (mz_wr (mz_wr (mz_wr m 3 z (zbt w 24)) 2 1 (nI (z + 1))) 3 (z + 1) (zbt w (24 + (-8))))))
  have e4 := c_append1 (d := d) (w := w) (s := 24 + (-8) + (-8) + (-8)) (m := _) (z := z + 1 + 1 + 1) (by decide) (by omega) (m_eq (m := (mz_wr (mz_wr (mz_wr (mz_wr (mz_wr m 3 z (zbt w 24)) 2 1 (nI (z + 1))) 3 (z + 1) (zbt w (24 + (-8)))) 2 1 (nI (z + 1 + 1))) 3 (z + 1 + 1) (zbt w (24 + (-8) + (-8))))))
  rw [R_X7_append_eq, e1, e2, e3, e4, H_X7_append_3_eq, if_pos (by decide)]
  refine ⟨_, rfl, ?_, m_eq, ?_, ?_, ?_, ?_, ?_⟩
  · exact zFr_w2 (zFr_w2 (zFr_w2 (zFr_w2 (zFr_w2 (zFr_w2 (zFr_w2 (zFr_w (Or.inl rfl)) (Or.inr ⟨rfl, rfl⟩)) (Or.inl rfl)) (Or.inr ⟨rfl, rfl⟩)) (Or.inl rfl)) (Or.inr ⟨rfl, rfl⟩)) (Or.inl rfl)) (Or.inr ⟨rfl, rfl⟩)
  · intro i hi
    rw [m_ne (by omega), m_ni (by omega), m_ne (by omega), m_ni (by omega), m_ne (by omega), m_ni (by omega), m_ne (by omega), m_ni (by omega)]
  · rw [m_ne (by omega), m_ni (by omega), m_ne (by omega), m_ni (by omega), m_ne (by omega), m_ni (by omega), m_ne (by omega), m_eq]
  · rw [m_ne (by omega), m_ni (by omega), m_ne (by omega), m_ni (by omega), m_ne (by omega), m_eq]
    rfl
  · rw [m_ne (by omega), m_ni (by omega), m_ne (by omega), m_eq]
    rfl
  · rw [m_ne (by omega), m_eq]
    rfl
theorem r_lays1 {d z : Nat} {w s : Int32} {m : MzM} (hs : s = 0 ∨ s = 8 ∨ s = 16 ∨ s = 24) (hz : z < 2000) (h : mz_rd m 239 2 = nI z) : H_X12_lays_3 d w s m = H_X12_lays_3 d w (s + (-8)) (mz_wr (mz_wr m 240 z (zbt w s)) 239 2 (nI (z + 1))) := by
  rw [H_X12_lays_3_eq, if_neg (by rcases hs with rfl | rfl | rfl | rfl <;> decide), h, n_ok (by omega), n_gd hz, nI_clamp (by omega), m_ne (show 239 ≠ 240 by omega), h, nI_1]
  rfl
theorem r_lays {d z : Nat} {w : Int32} {m : MzM} (hz : z + 4 ≤ 2000) (h : mz_rd m 239 2 = nI z) : ∃ m', R_X12_lays d w m = some m' ∧ zFr zRP m m' ∧ mz_rd m' 239 2 = nI (z + 4) ∧ (∀ i, i < z → mz_rd m' 240 i = mz_rd m 240 i) ∧ mz_rd m' 240 z = zbt w 24 ∧ mz_rd m' 240 (z + 1) = zbt w 16 ∧ mz_rd m' 240 (z + 2) = zbt w 8 ∧ mz_rd m' 240 (z + 3) = zbt w 0 := by
  have e1 := r_lays1 (d := d) (w := w) (s := 24) (m := m) (z := z) (by decide) (by omega) h
  have e2 := r_lays1 (d := d) (w := w) (s := 24 + (-8)) (m := (mz_wr (mz_wr m 240 z (zbt w 24)) 239 2 (nI (z + 1)))) (z := z + 1) (by decide) (by omega) m_eq
  have e3 := r_lays1 (d := d) (w := w) (s := 24 + (-8) + (-8)) (m := _) (z := z + 1 + 1) (by decide) (by omega) (m_eq (m := (mz_wr (mz_wr (mz_wr m 240 z (zbt w 24)) 239 2 (nI (z + 1))) 240 (z + 1) (zbt w (24 + (-8))))))
  have e4 := r_lays1 (d := d) (w := w) (s := 24 + (-8) + (-8) + (-8)) (m := _) (z := z + 1 + 1 + 1) (by decide) (by omega) (m_eq (m := (mz_wr (mz_wr (mz_wr (mz_wr (mz_wr m 240 z (zbt w 24)) 239 2 (nI (z + 1))) 240 (z + 1) (zbt w (24 + (-8)))) 239 2 (nI (z + 1 + 1))) 240 (z + 1 + 1) (zbt w (24 + (-8) + (-8))))))
  rw [R_X12_lays_eq, e1, e2, e3, e4, H_X12_lays_3_eq, if_pos (by decide)]
  refine ⟨_, rfl, ?_, m_eq, ?_, ?_, ?_, ?_, ?_⟩
  · exact zFr_w2 (zFr_w2 (zFr_w2 (zFr_w2 (zFr_w2 (zFr_w2 (zFr_w2 (zFr_w (Or.inl rfl)) (Or.inr ⟨rfl, rfl⟩)) (Or.inl rfl)) (Or.inr ⟨rfl, rfl⟩)) (Or.inl rfl)) (Or.inr ⟨rfl, rfl⟩)) (Or.inl rfl)) (Or.inr ⟨rfl, rfl⟩)
  · intro i hi
    rw [m_ne (by omega), m_ni (by omega), m_ne (by omega), m_ni (by omega), m_ne (by omega), m_ni (by omega), m_ne (by omega), m_ni (by omega)]
  · rw [m_ne (by omega), m_ni (by omega), m_ne (by omega), m_ni (by omega), m_ne (by omega), m_ni (by omega), m_ne (by omega), m_eq]
  · rw [m_ne (by omega), m_ni (by omega), m_ne (by omega), m_ni (by omega), m_ne (by omega), m_eq]
    rfl
  · rw [m_ne (by omega), m_ni (by omega), m_ne (by omega), m_eq]
    rfl
  · rw [m_ne (by omega), m_eq]
    rfl
