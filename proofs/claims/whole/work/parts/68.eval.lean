/-! what a law tells: its cells run on a stack (cell (0, v) an int, (1, i) a var, (2 ..) + - * /) -/
def zUI (s : Nat → Int32) (k : Nat) (x : Int32) : Nat → Int32 := fun j => if j = k then x else s j
/-- height, stack, divided by 0 -/
abbrev ZS : Type := Nat × (Nat → Int32) × Bool
def zstp (f : Nat → Int32) (z : ZS) (c : Nat × Nat) : ZS := match c.1 with
  | 0 => (z.1 + 1, zUI z.2.1 z.1 (nI c.2), z.2.2)
  | 1 => (z.1 + 1, zUI z.2.1 z.1 (f c.2), z.2.2)
  | 2 => (z.1 - 1, zUI z.2.1 (z.1 - 2) (z.2.1 (z.1 - 2) + z.2.1 (z.1 - 1)), z.2.2)
  | 3 => (z.1 - 1, zUI z.2.1 (z.1 - 2) (z.2.1 (z.1 - 2) - z.2.1 (z.1 - 1)), z.2.2)
  | 4 => (z.1 - 1, zUI z.2.1 (z.1 - 2) (z.2.1 (z.1 - 2) * z.2.1 (z.1 - 1)), z.2.2)
  | _ => (z.1 - 1, zUI z.2.1 (z.1 - 2) (if z.2.1 (z.1 - 1) = 0 then 0 else z.2.1 (z.1 - 2) / z.2.1 (z.1 - 1)), z.2.2 || decide (z.2.1 (z.1 - 1) = 0))
/-- a cell that may stand at this height -/
def zcok (t : Nat) (c : Nat × Nat) : Prop := (c.1 = 0 ∧ c.2 < 10000 ∧ t < 32) ∨ (c.1 = 1 ∧ c.2 < 9 ∧ t < 32) ∨ (2 ≤ c.1 ∧ c.1 ≤ 5 ∧ 2 ≤ t ∧ t ≤ 32)
def zcd (t : Nat) (c : Nat × Nat) : Nat := if c.1 ≤ 1 then t + 1 else t - 1
/-- cells that may stand there, from height t, and leave height u -/
def zcs : Nat → List (Nat × Nat) → Nat → Prop
  | t, [], u => t = u
  | t, c :: P, u => zcok t c ∧ zcs (zcd t c) P u
theorem zstp_t (f : Nat → Int32) (z : ZS) (c : Nat × Nat) : (zstp f z c).1 = zcd z.1 c := by
  obtain ⟨k, x⟩ := c
  unfold zstp zcd
  match k with
  | 0 => rfl
  | 1 => rfl
  | 2 => rfl
  | 3 => rfl
  | 4 => rfl
  | k + 5 =>
    show z.1 - 1 = if k + 5 ≤ 1 then z.1 + 1 else z.1 - 1
    rw [if_neg (by omega)]
theorem zcs_app {t u w : Nat} : ∀ {P Q : List (Nat × Nat)}, zcs t P u → zcs u Q w → zcs t (P ++ Q) w := by
  intro P
  induction P generalizing t with
  | nil => intro Q h1 h2; have : t = u := h1; subst this; exact h2
  | cons c P ih => intro Q h1 h2; exact ⟨h1.1, ih h1.2 h2⟩
def zenc (c : Nat × Nat) : Nat := match c.1 with
  | 0 => c.2
  | 1 => 10000 + c.2
  | k => 10013 + k
theorem z_w8 : mz_isW 8 = true := by decide +kernel
/-- the class's stack in memory -/
def zSk (m : MzM) (z : ZS) : Prop := (∀ i, i < z.1 → mz_rd m 12 i = z.2.1 i) ∧ mz_rd m 8 5 = zb z.2.2
theorem zSk_push {m : MzM} {z : ZS} (h : zSk m z) (x : Int32) : zSk (mz_wr m 12 z.1 x) (z.1 + 1, zUI z.2.1 z.1 x, z.2.2) := by
  refine ⟨fun i hi => ?_, ?_⟩
  · show mz_rd (mz_wr m 12 z.1 x) 12 i = if i = z.1 then x else z.2.1 i
    rw [m_rw]
    by_cases c : i = z.1
    · rw [if_pos ⟨rfl, c⟩, if_pos c]
    · rw [if_neg (fun y => c y.2), if_neg c]
      exact h.1 i (by have : i < z.1 + 1 := hi; omega)
  · rw [m_ne (by omega)]; exact h.2
theorem zSk_op {m : MzM} {u : Nat} {s : Nat → Int32} {bk : Bool} (h : zSk m (u + 2, s, bk)) (x : Int32) : zSk (mz_wr m 12 u x) (u + 1, zUI s u x, bk) := by
  refine ⟨fun i hi => ?_, ?_⟩
  · show mz_rd (mz_wr m 12 u x) 12 i = if i = u then x else s i
    rw [m_rw]
    by_cases c : i = u
    · rw [if_pos ⟨rfl, c⟩, if_pos c]
    · rw [if_neg (fun y => c y.2), if_neg c]
      exact h.1 i (by show i < u + 2; have : i < u + 1 := hi; omega)
  · rw [m_ne (by omega)]; exact h.2
theorem c_cell {d e t at' to : Nat} {m : MzM} {s : Nat → Int32} {bk : Bool} {f : Nat → Int32} {c : Nat × Nat} (he : e + 1 < 56) (hto : mz_rd m 10 (e + 1) = nI to) (h404 : to ≤ 404) (hat : at' < to) (hc : mz_rd m 9 at' = nI (zenc c)) (hf : ∀ i, i < 9 → mz_rd m 28 i = f i) (hz : zSk m (t, s, bk)) (ok : zcok t c) : ∃ m', H_X2_partValue_20 d 8 (nI e) (nI t) (nI at') m = H_X2_partValue_20 d 8 (nI e) (nI (zstp f (t, s, bk) c).1) (nI (at' + 1)) m' ∧ zFr zE0 m m' ∧ zSk m' (zstp f (t, s, bk) c) := by
  obtain ⟨k, x⟩ := c
  have hto' : mz_rd m (8 + 2) (e + 1) = nI to := hto
  have hc' : mz_rd m (8 + 1) at' = nI (zenc (k, x)) := hc
  rw [H_X2_partValue_20_eq d 8 _ _ _ m z_w8, nI_1, n_ok (show e + 1 < 2 ^ 31 by omega), n_gd he, nI_clamp (show e + 1 < 2 ^ 31 by omega), hto', if_neg (nI_ge hat (by omega)), n_ok (show at' < 2 ^ 31 by omega), n_gd (show at' < 404 by omega), nI_clamp (show at' < 2 ^ 31 by omega), hc', nI_1]
  rcases ok with ⟨k0, x0, t0⟩ | ⟨k0, x0, t0⟩ | ⟨k2, k5, t2, t3⟩
  · have k0 : k = 0 := k0
    have x0 : x < 10000 := x0
    subst k0
    have en : zenc (0, x) = x := rfl
    rw [en, if_neg (show ¬ (10009 : Int32) ≤ nI x from nI_ge (b := 10009) (by omega) (by omega)), if_neg (show ¬ (32 : Int32) ≤ nI t from nI_ge (b := 32) t0 (by omega)), if_neg (show ¬ (10000 : Int32) ≤ nI x from nI_ge (b := 10000) x0 (by omega)), n_ok (show t < 2 ^ 31 by omega), n_gd t0, nI_clamp (show t < 2 ^ 31 by omega), nI_1]
    exact ⟨mz_wr m 12 t (nI x), rfl, zFr_w (Or.inl rfl), zSk_push hz _⟩
  · have k0 : k = 1 := k0
    have x0 : x < 9 := x0
    subst k0
    have en : zenc (1, x) = 10000 + x := rfl
    have sb : nI (10000 + x) - 10000 = nI x := by
      have := pk_sub (a := 10000 + x) (b := 10000) (by omega)
      rw [show 10000 + x - 10000 = x by omega] at this
      exact this
    rw [en, if_neg (show ¬ (10009 : Int32) ≤ nI (10000 + x) from nI_ge (b := 10009) (by omega) (by omega)), if_neg (show ¬ (32 : Int32) ≤ nI t from nI_ge (b := 32) t0 (by omega)), if_pos (show (10000 : Int32) ≤ nI (10000 + x) from nI_le (a := 10000) (by omega) (by omega)), sb, n_ok (show x < 2 ^ 31 by omega), n_gd x0, nI_clamp (show x < 2 ^ 31 by omega), n_ok (show t < 2 ^ 31 by omega), n_gd t0, nI_clamp (show t < 2 ^ 31 by omega), nI_1, hf x x0]
    exact ⟨mz_wr m 12 t (f x), rfl, zFr_w (Or.inl rfl), zSk_push hz _⟩
  · have k2 : 2 ≤ k := k2
    have k5 : k ≤ 5 := k5
    obtain ⟨u, rfl⟩ : ∃ u, t = u + 2 := ⟨t - 2, by omega⟩
    have en : zenc (k, x) = 10013 + k := by
      rcases (show k = 2 ∨ k = 3 ∨ k = 4 ∨ k = 5 by omega) with rfl | rfl | rfl | rfl <;> rfl
    have sb : nI (10013 + k) - 10009 = nI (k + 4) := by
      have := pk_sub (a := 10013 + k) (b := 10009) (by omega)
      rw [show 10013 + k - 10009 = k + 4 by omega] at this
      exact this
    have m1 : nI (u + 2) + (-1) = nI (u + 1) := pk_m1 (u + 1)
    have r0 : mz_rd m (8 + 4) u = s u := hz.1 u (by show u < u + 2; omega)
    have r1 : mz_rd m (8 + 4) (u + 1) = s (u + 1) := hz.1 (u + 1) (by show u + 1 < u + 2; omega)
    have fl : mz_rd m 8 5 = zb bk := hz.2
    rw [en, if_pos (show (10009 : Int32) ≤ nI (10013 + k) from nI_le (a := 10009) (by omega) (by omega)), if_neg (show ¬ nI (u + 2) < (2 : Int32) from nI_nlt (b := 2) (by omega) (by omega)), m1, nI_pred, n_ok (show u < 2 ^ 31 by omega), n_gd (show u < 32 by omega), n_ok (show u + 1 < 2 ^ 31 by omega), n_gd (show u + 1 < 32 by omega), nI_clamp (show u < 2 ^ 31 by omega), nI_clamp (show u + 1 < 2 ^ 31 by omega), sb, r0, r1]
    rcases (show k = 2 ∨ k = 3 ∨ k = 4 ∨ k = 5 by omega) with rfl | rfl | rfl | rfl
    · rw [if_pos (by decide), n_gd (show u < 32 by omega)]
      exact ⟨mz_wr m 12 u (s u + s (u + 1)), rfl, zFr_w (Or.inl rfl), zSk_op hz _⟩
    · rw [if_neg (by decide), if_pos (by decide), n_gd (show u < 32 by omega)]
      exact ⟨mz_wr m 12 u (s u - s (u + 1)), rfl, zFr_w (Or.inl rfl), zSk_op hz _⟩
    · rw [if_neg (by decide), if_neg (by decide), if_pos (by decide), n_gd (show u < 32 by omega)]
      exact ⟨mz_wr m 12 u (s u * s (u + 1)), rfl, zFr_w (Or.inl rfl), zSk_op hz _⟩
    · rw [if_neg (by decide), if_neg (by decide), if_neg (by decide), fl]
      have uf : zstp f (u + 2, s, bk) (5, x) = (u + 1, zUI s u (if s (u + 1) = 0 then 0 else s u / s (u + 1)), bk || decide (s (u + 1) = 0)) := rfl
      rw [uf]
      by_cases z0 : s (u + 1) = 0
      · rw [if_neg (fun y => y z0)]
        have o1 : zb bk ||| 1 = zb true := by cases bk <;> decide
        rw [o1, show mz_g (decide (zb true = 0 ∨ zb true = 1)) _ = _ from zb_g true _, if_neg (fun y => y z0), n_gd (show u < 32 by omega), if_pos z0, decide_eq_true z0, Bool.or_true]
        refine ⟨_, rfl, zFr_w2 (zFr_w (Or.inr ⟨rfl, rfl⟩)) (Or.inl rfl), ?_⟩
        have h8 : zSk (mz_wr m 8 5 (zb true)) (u + 2, s, true) := ⟨fun i hi => by rw [m_ne (by omega)]; exact hz.1 i hi, m_eq⟩
        exact zSk_op h8 0
      · rw [if_pos z0]
        have o1 : zb bk ||| 0 = zb bk := Int32.or_zero
        rw [o1, show mz_g (decide (zb bk = 0 ∨ zb bk = 1)) _ = _ from zb_g bk _, if_pos z0, n_gd z0, n_gd (show u < 32 by omega), if_neg z0, decide_eq_false z0, Bool.or_false]
        refine ⟨_, rfl, zFr_w2 (zFr_w (Or.inr ⟨rfl, rfl⟩)) (Or.inl rfl), ?_⟩
        have h8 : zSk (mz_wr m 8 5 (zb bk)) (u + 2, s, bk) := ⟨fun i hi => by rw [m_ne (by omega)]; exact hz.1 i hi, m_eq⟩
        exact zSk_op h8 _
/-- a part of a law: cells from fr to to -/
theorem c_part {d e fr : Nat} {m : MzM} {f : Nat → Int32} {bk : Bool} {s0 : Nat → Int32} {P : List (Nat × Nat)} (he : e + 1 < 56) (h0 : mz_rd m 10 e = nI fr) (hto : mz_rd m 10 (e + 1) = nI (fr + P.length)) (h404 : fr + P.length ≤ 404) (hP : ∀ i c, P[i]? = some c → mz_rd m 9 (fr + i) = nI (zenc c)) (hf : ∀ i, i < 9 → mz_rd m 28 i = f i) (hb : mz_rd m 8 5 = zb bk) (ok : zcs 0 P 1) : ∃ m', H_X2_partValue_20 d 8 (nI e) 0 (nI fr) m = some ((P.foldl (zstp f) (0, s0, bk)).2.1 0, m') ∧ zFr zE0 m m' ∧ mz_rd m' 8 5 = zb (P.foldl (zstp f) (0, s0, bk)).2.2 := by
  have go : ∀ (Q : List (Nat × Nat)) (j : Nat) (z : ZS) (y : MzM), (∀ i c, Q[i]? = some c → P[j + i]? = some c) → j + Q.length = P.length → zFr zE0 m y → zSk y z → zcs z.1 Q 1 → ∃ m', H_X2_partValue_20 d 8 (nI e) (nI z.1) (nI (fr + j)) y = some ((Q.foldl (zstp f) z).2.1 0, m') ∧ zFr zE0 m m' ∧ mz_rd m' 8 5 = zb (Q.foldl (zstp f) z).2.2 := by
    intro Q
    induction Q with
    | nil =>
      intro j z y hQ hl F S ok
      have hl : j = P.length := hl
      have ok : z.1 = 1 := ok
      have hto' : mz_rd y (8 + 2) (e + 1) = nI (fr + P.length) := (F.1 10 (e + 1) (by unfold zE0; omega)).trans hto
      have r0 : mz_rd y (8 + 4) 0 = z.2.1 0 := S.1 0 (by omega)
      rw [H_X2_partValue_20_eq d 8 _ _ _ y z_w8, nI_1, n_ok (by omega), n_gd he, nI_clamp (by omega), hto', if_pos (nI_le (by omega) (by omega)), r0]
      exact ⟨y, rfl, F, S.2⟩
    | cons c Q ih =>
      intro j z y hQ hl F S ok
      obtain ⟨t, s, b⟩ := z
      have hl : j + (Q.length + 1) = P.length := hl
      have hc : mz_rd y 9 (fr + j) = nI (zenc c) := (F.1 9 (fr + j) (by unfold zE0; omega)).trans (hP j c (by have := hQ 0 c rfl; rw [Nat.add_zero] at this; exact this))
      obtain ⟨m', e1, f1, s1⟩ := c_cell (d := d) (f := f) he ((F.1 10 (e + 1) (by unfold zE0; omega)).trans hto) h404 (show fr + j < fr + P.length by omega) hc (fun i hi => (F.1 28 i (by unfold zE0; omega)).trans (hf i hi)) S ok.1
      obtain ⟨m2, e2, f2, b2⟩ := ih (j + 1) (zstp f (t, s, b) c) m' (fun i c' hi => by
        have := hQ (i + 1) c' (by rw [List.getElem?_cons_succ]; exact hi)
        rw [show j + 1 + i = j + (i + 1) by omega]
        exact this) (by omega) (zFr_t F f1) s1 (by rw [zstp_t]; exact ok.2)
      refine ⟨m2, ?_, f2, b2⟩
      show H_X2_partValue_20 d 8 (nI e) (nI t) (nI (fr + j)) y = _
      rw [e1, show fr + j + 1 = fr + (j + 1) by omega, e2]
      rfl
  have := go P 0 (0, s0, bk) m (fun i c hi => by rw [Nat.zero_add]; exact hi) (by omega) zFr_r ⟨fun i hi => absurd hi (by show ¬ i < 0; omega), hb⟩ ok
  exact this
/-! a law: tests with what they tell, and the last -/
abbrev ZP : Type := List (Nat × Nat)
def zval (f : Nat → Int32) (P : ZP) : Int32 := (P.foldl (zstp f) (0, (fun _ => 0), false)).2.1 0
def zbrk (f : Nat → Int32) (P : ZP) : Bool := (P.foldl (zstp f) (0, (fun _ => 0), false)).2.2
def zlw (f : Nat → Int32) (last : ZP) : List (ZP × ZP × ZP) → Bool → Int32
  | [], bk => if (bk || zbrk f last) = true then 0 else zval f last
  | q :: ts, bk => if zval f q.1 < zval f q.2.1 then (if ((bk || zbrk f q.1 || zbrk f q.2.1) || zbrk f q.2.2) = true then 0 else zval f q.2.2) else zlw f last ts (bk || zbrk f q.1 || zbrk f q.2.1)
theorem zlw_t (f : Nat → Int32) (last : ZP) : ∀ ts, zlw f last ts true = 0 := by
  intro ts
  induction ts with
  | nil => rfl
  | cons q ts ih =>
    unfold zlw
    simp only [Bool.true_or]
    rw [ih]
    split <;> rfl
theorem zstp_bk (f : Nat → Int32) (t : Nat) (s : Nat → Int32) (bk : Bool) (c : Nat × Nat) : zstp f (t, s, bk) c = ((zstp f (t, s, false) c).1, (zstp f (t, s, false) c).2.1, bk || (zstp f (t, s, false) c).2.2) := by
  obtain ⟨k, x⟩ := c
  unfold zstp
  match k with
  | 0 => simp
  | 1 => simp
  | 2 => simp
  | 3 => simp
  | 4 => simp
  | k + 5 => simp
theorem zfold_bk (f : Nat → Int32) : ∀ (P : ZP) (t : Nat) (s : Nat → Int32) (bk : Bool), P.foldl (zstp f) (t, s, bk) = ((P.foldl (zstp f) (t, s, false)).1, (P.foldl (zstp f) (t, s, false)).2.1, bk || (P.foldl (zstp f) (t, s, false)).2.2) := by
  intro P
  induction P with
  | nil => intro t s bk; simp
  | cons c P ih =>
    intro t s bk
    rw [List.foldl_cons, List.foldl_cons, zstp_bk, ih, ih (zstp f (t, s, false) c).1 (zstp f (t, s, false) c).2.1 (zstp f (t, s, false) c).2.2]
    simp only [Bool.or_assoc]
def zpls (last : ZP) : List (ZP × ZP × ZP) → List ZP
  | [] => [last]
  | q :: ts => q.1 :: q.2.1 :: q.2.2 :: zpls last ts
theorem zpls_len (last : ZP) : ∀ ts, (zpls last ts).length = 3 * ts.length + 1 := by
  intro ts
  induction ts with
  | nil => rfl
  | cons q ts ih =>
    unfold zpls
    simp only [List.length_cons, ih]
    omega
def zPart (m : MzM) (e : Nat) (P : ZP) : Prop := ∃ fr, mz_rd m 10 e = nI fr ∧ mz_rd m 10 (e + 1) = nI (fr + P.length) ∧ fr + P.length ≤ 404 ∧ (∀ i c, P[i]? = some c → mz_rd m 9 (fr + i) = nI (zenc c)) ∧ zcs 0 P 1
/-- the class holds law k -/
def zCL (m : MzM) (k : Nat) (ts : List (ZP × ZP × ZP)) (last : ZP) : Prop := ts.length ≤ 4 ∧ mz_rd m 11 k = nI (3 * ts.length + 1) ∧ ∀ j P, (zpls last ts)[j]? = some P → zPart m (14 * k + j) P
theorem c_pv {d k j : Nat} {m : MzM} {f : Nat → Int32} {P : ZP} {bk : Bool} (hk : k < 4) (hj : j < 13) (h : zPart m (14 * k + j) P) (hf : ∀ i, i < 9 → mz_rd m 28 i = f i) (hb : mz_rd m 8 5 = zb bk) : ∃ m', R_X2_partValue d 8 (nI k) (nI j) m = some (zval f P, m') ∧ zFr zE0 m m' ∧ mz_rd m' 8 5 = zb (bk || zbrk f P) := by
  obtain ⟨fr, a1, a2, a3, a4, a5⟩ := h
  obtain ⟨m', e1, f1, b1⟩ := c_part (d := d) (bk := bk) (s0 := fun _ => 0) (f := f) (by omega) a1 a2 a3 a4 hf hb a5
  rw [zfold_bk] at e1 b1
  have t14 : nI k * 14 + nI j = nI (14 * k + j) := by
    have : nI k * 14 = nI (k * 14) := pk_mul k 14
    rw [this, nI_add, Nat.mul_comm]
  have a1' : mz_rd m (8 + 2) (14 * k + j) = nI fr := a1
  rw [R_X2_partValue_eq d 8 _ _ m z_w8, t14, n_ok (by omega), n_gd (by omega), nI_clamp (by omega), a1', e1]
  exact ⟨m', rfl, f1, b1⟩
theorem zPart_f {m m' : MzM} {e : Nat} {P : ZP} (h : zPart m e P) (g : ∀ a i, a = 9 ∨ a = 10 → mz_rd m' a i = mz_rd m a i) : zPart m' e P := by
  obtain ⟨fr, a1, a2, a3, a4, a5⟩ := h
  exact ⟨fr, (g _ _ (Or.inr rfl)).trans a1, (g _ _ (Or.inr rfl)).trans a2, a3, fun i c hi => (g _ _ (Or.inl rfl)).trans (a4 i c hi), a5⟩
theorem c_valueL {d k : Nat} {m : MzM} {f : Nat → Int32} {ts : List (ZP × ZP × ZP)} {last : ZP} (hk : k < 4) (h : zCL m k ts last) (hf : ∀ i, i < 9 → mz_rd m 28 i = f i) : ∃ m', R_X2_value d 8 (nI k) m = some (zlw f last ts false, m') ∧ zFr zE0 m m' := by
  obtain ⟨h4, hp, hq⟩ := h
  have fl : ∀ (y : MzM) (j : Nat) (P : ZP) (bk : Bool), zFr zE0 m y → mz_rd y 8 5 = zb bk → j < 13 → zPart m (14 * k + j) P → ∃ m', (R_X2_partValue d 8 (nI k) (nI j) y).bind (fun u5 => if (mz_rd u5.2 8 5) = 0 then (some (u5.1, u5.2)) else (some (0, u5.2))) = some (if (bk || zbrk f P) = true then 0 else zval f P, m') ∧ zFr zE0 m m' := by
    intro y j P bk F hb hj hP
    obtain ⟨m', e1, f1, b1⟩ := c_pv (d := d) (f := f) hk hj (zPart_f hP (fun a i z => F.1 a i (by unfold zE0; omega))) (fun i hi => (F.1 28 i (by unfold zE0; omega)).trans (hf i hi)) hb
    refine ⟨m', ?_, zFr_t F f1⟩
    rw [e1, Option.bind_some]
    dsimp only
    rw [b1]
    cases (bk || zbrk f P) <;> rfl
  have go : ∀ (rest : List (ZP × ZP × ZP)) (j : Nat) (y : MzM) (bk : Bool), j + rest.length = ts.length → (∀ i P, (zpls last rest)[i]? = some P → (zpls last ts)[3 * j + i]? = some P) → zFr zE0 m y → mz_rd y 8 5 = zb bk → ∃ m', H_X2_value_23 d 8 (nI k) (nI (3 * ts.length)) (nI (3 * j)) 0 (nI j) y = some (zlw f last rest bk, m') ∧ zFr zE0 m m' := by
    intro rest
    induction rest with
    | nil =>
      intro j y bk hl hr F hb
      have hl : j = ts.length := hl
      have hP := hq (3 * j) last (by have := hr 0 last rfl; exact this)
      obtain ⟨m', e1, f1⟩ := fl y (3 * j) last bk F hb (by omega) hP
      refine ⟨m', ?_, f1⟩
      rw [H_X2_value_23_eq d 8 _ _ _ _ _ y z_w8]
      by_cases c : (4 : Int32) ≤ nI j
      · rw [if_pos c]; exact e1
      · rw [if_neg c, if_pos (nI_le (by omega) (by omega))]; exact e1
    | cons q rest ih =>
      intro j y bk hl hr F hb
      have hl : j + (rest.length + 1) = ts.length := hl
      have P0 := hq (3 * j) q.1 (by have := hr 0 q.1 rfl; exact this)
      have P1 := hq (3 * j + 1) q.2.1 (hr 1 q.2.1 rfl)
      have P2 := hq (3 * j + 2) q.2.2 (hr 2 q.2.2 rfl)
      obtain ⟨m1, e1, f1, b1⟩ := c_pv (d := d) (f := f) hk (by omega) (zPart_f P0 (fun a i z => F.1 a i (by unfold zE0; omega))) (fun i hi => (F.1 28 i (by unfold zE0; omega)).trans (hf i hi)) hb
      have F1 := zFr_t F f1
      obtain ⟨m2, e2, f2, b2⟩ := c_pv (d := d) (f := f) (j := 3 * j + 1) hk (by omega) (zPart_f P1 (fun a i z => F1.1 a i (by unfold zE0; omega))) (fun i hi => (F1.1 28 i (by unfold zE0; omega)).trans (hf i hi)) b1
      have F2 := zFr_t F1 f2
      have a2 : nI (3 * j) + 2 = nI (3 * j + 2) := nI_add (3 * j) 2
      have a3 : nI (3 * j) + 3 = nI (3 * (j + 1)) := nI_add (3 * j) 3
      rw [H_X2_value_23_eq d 8 _ _ _ _ _ y z_w8, if_neg (show ¬ (4 : Int32) ≤ nI j from nI_ge (b := 4) (by omega) (by omega)), if_neg (nI_ge (by omega) (by omega)), if_neg (fun z => z rfl), e1, Option.bind_some]
      dsimp only
      rw [nI_1, e2, Option.bind_some]
      dsimp only
      rw [a2, a3, nI_1]
      have uf : zlw f last (q :: rest) bk = if zval f q.1 < zval f q.2.1 then (if ((bk || zbrk f q.1 || zbrk f q.2.1) || zbrk f q.2.2) = true then 0 else zval f q.2.2) else zlw f last rest (bk || zbrk f q.1 || zbrk f q.2.1) := rfl
      rw [uf]
      by_cases c : zval f q.2.1 ≤ zval f q.1
      · rw [if_pos c, if_neg (Int32.not_lt.mpr c)]
        exact ih (j + 1) m2 (bk || zbrk f q.1 || zbrk f q.2.1) (by omega) (fun i P hi => by
          have := hr (i + 3) P hi
          rw [show 3 * (j + 1) + i = 3 * j + (i + 3) by omega]
          exact this) F2 b2
      · rw [if_neg c, if_pos (Int32.not_le.mp c)]
        obtain ⟨m3, e3, f3⟩ := fl m2 (3 * j + 2) q.2.2 (bk || zbrk f q.1 || zbrk f q.2.1) F2 b2 (by omega) P2
        refine ⟨m3, ?_, f3⟩
        rw [H_X2_value_23_eq d 8 _ _ _ _ _ m2 z_w8]
        by_cases c1 : (4 : Int32) ≤ nI (j + 1)
        · rw [if_pos c1]; exact e3
        · rw [if_neg c1]
          by_cases c2 : nI (3 * ts.length) ≤ nI (3 * j + 2)
          · rw [if_pos c2]; exact e3
          · rw [if_neg c2, if_pos (by decide)]; exact e3
  have hp' : mz_rd (mz_wr m 8 5 0) (8 + 3) k = nI (3 * ts.length + 1) := by
    show mz_rd (mz_wr m 8 5 0) 11 k = _
    rw [m_ne (by omega)]
    exact hp
  rw [R_X2_value_eq d 8 _ m z_w8, n_ok (by omega), n_gd hk, nI_clamp (by omega), hp', nI_pred]
  obtain ⟨m', e1, f1⟩ := go ts 0 (mz_wr m 8 5 0) false (by omega) (fun i P hi => by rw [Nat.mul_zero, Nat.zero_add]; exact hi) (zFr_w (Or.inr ⟨rfl, rfl⟩)) m_eq
  exact ⟨m', e1, f1⟩
theorem zLC_of {m : MzM} {ts : Nat → List (ZP × ZP × ZP)} {last : Nat → ZP} (h : ∀ k, k < 4 → zCL m k (ts k) (last k)) : zLC m (fun k f => zlw f (last k) (ts k) false) := by
  intro m1 f k d g hf hk
  obtain ⟨a1, a2, a3⟩ := h k hk
  exact c_valueL hk ⟨a1, (g 11 k (by unfold zTx; omega)).trans a2, fun j P hj => zPart_f (a3 j P hj) (fun a i z => g a i (by unfold zTx; omega))⟩ hf
