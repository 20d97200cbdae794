/-! frames, loops, rows of numbers: what the class and the reference are both held against -/
def zFr (F : Nat → Nat → Prop) (m m' : MzM) : Prop := (∀ a i, ¬ F a i → mz_rd m' a i = mz_rd m a i) ∧ m'.2 = m.2
theorem zFr_r {F : Nat → Nat → Prop} {m : MzM} : zFr F m m := ⟨fun _ _ _ => rfl, rfl⟩
theorem zFr_t {F : Nat → Nat → Prop} {m1 m2 m3 : MzM} (h : zFr F m1 m2) (g : zFr F m2 m3) : zFr F m1 m3 := ⟨fun a i n => (g.1 a i n).trans (h.1 a i n), g.2.trans h.2⟩
theorem zFr_m {F G : Nat → Nat → Prop} {m m' : MzM} (h : zFr F m m') (s : ∀ a i, F a i → G a i) : zFr G m m' := ⟨fun a i n => h.1 a i (fun f => n (s a i f)), h.2⟩
theorem zFr_w {F : Nat → Nat → Prop} {m : MzM} {a i : Nat} {v : Int32} (h : F a i) : zFr F m (mz_wr m a i v) := ⟨fun b j n => by
  rw [m_rw, if_neg]
  intro hh
  obtain ⟨h1, h2⟩ := hh
  subst h1
  subst h2
  exact n h, rfl⟩
theorem zFr_w2 {F : Nat → Nat → Prop} {m m' : MzM} {a i : Nat} {v : Int32} (g : zFr F m m') (h : F a i) : zFr F m (mz_wr m' a i v) := zFr_t g (zFr_w h)
theorem zFr_c {F : Nat → Nat → Prop} {m : MzM} {a s b d n : Nat} (h : ∀ j, d ≤ j → j < d + n → F b j) : zFr F m (mz_cp m a s b d n) := ⟨fun c j g => by
  rw [m_rc, if_neg]
  intro hh
  obtain ⟨h1, h2, h3⟩ := hh
  subst h1
  exact g (h j h2 h3), rfl⟩
theorem zFr_c2 {F : Nat → Nat → Prop} {m m' : MzM} {a s b d n : Nat} (g : zFr F m m') (h : ∀ j, d ≤ j → j < d + n → F b j) : zFr F m (mz_cp m' a s b d n) := zFr_t g (zFr_c h)
theorem zlp {σ β : Type} (H : Nat → σ → Option β) (Q : β → Prop) (J : Nat → σ → Prop) (n : Nat) (st : ∀ k x, k < n → J k x → (∃ y, J (k + 1) y ∧ H k x = H (k + 1) y) ∨ (∃ r, H k x = some r ∧ Q r)) (fn : ∀ x, J n x → ∃ r, H n x = some r ∧ Q r) : ∀ (k : Nat) (x : σ), k ≤ n → J k x → ∃ r, H k x = some r ∧ Q r := by
  have key : ∀ (j k : Nat) (x : σ), n - k = j → k ≤ n → J k x → ∃ r, H k x = some r ∧ Q r := by
    intro j
    induction j with
    | zero =>
      intro k x h1 h2 h3
      have : k = n := by omega
      subst this
      exact fn x h3
    | succ j ih =>
      intro k x h1 h2 h3
      rcases st k x (by omega) h3 with ⟨y, h4, h5⟩ | h4
      · rw [h5]
        exact ih (k + 1) y (by omega) (by omega) h4
      · exact h4
  exact fun k x h1 h2 => key _ k x rfl h1 h2
/-- the pairs, the lesser first, in order -/
def zprs (n : Nat) : List (Nat × Nat) := (List.range n).flatMap fun a => (List.range (n - (a + 1))).map fun j => (a, a + 1 + j)
def zix (n a b : Nat) : Nat := ((List.range a).map fun c => n - (c + 1)).sum + (b - (a + 1))
theorem zix_at {n a b : Nat} (hn : n ≤ 6) (hb : b < n) (ha : a < b) : (zprs n)[zix n a b]? = some (a, b) := by
  have h : ∀ n < 7, ∀ b < n, ∀ a < b, (zprs n)[zix n a b]? = some (a, b) := by decide +kernel
  exact h n (by omega) b hb a ha
theorem zix_s {n a b : Nat} (h : a < b) : zix n a (b + 1) = zix n a b + 1 := by
  unfold zix
  omega
theorem zix_o {n a : Nat} (hn : n ≤ 6) (ha : a < n) : zix n (a + 1) (a + 1 + 1) = zix n a n := by
  have h : ∀ n < 7, ∀ a < n, zix n (a + 1) (a + 1 + 1) = zix n a n := by decide +kernel
  exact h n (by omega) a ha
theorem zix_e {n : Nat} (hn : n ≤ 6) : zix n n (n + 1) = (zprs n).length := by
  have h : ∀ n < 7, zix n n (n + 1) = (zprs n).length := by decide +kernel
  exact h n (by omega)
theorem zprs_in {n k a b : Nat} (hn : n ≤ 6) (h : (zprs n)[k]? = some (a, b)) : a < b ∧ b < n := by
  have hh : ∀ n < 7, ∀ q ∈ zprs n, q.1 < q.2 ∧ q.2 < n := by decide +kernel
  exact hh n (by omega) (a, b) (List.mem_of_getElem? h)
theorem zprs_len {n : Nat} (hn : n ≤ 6) : (zprs n).length ≤ 15 := by
  have hh : ∀ n < 7, (zprs n).length ≤ 15 := by decide +kernel
  exact hh n (by omega)
theorem zlpP {σ β : Type} (n : Nat) (hn : n ≤ 6) (Ho : Nat → σ → Option β) (Hi : Nat → Nat → σ → Option β) (Q : β → Prop) (J : Nat → σ → Prop)
    (h1 : ∀ a k x, a < n → J k x → Ho a x = Hi a (a + 1) x) (h2 : ∀ a k x, a < n → J k x → Hi a n x = Ho (a + 1) x)
    (st : ∀ a b k x, a < b → b < n → (zprs n)[k]? = some (a, b) → J k x → (∃ y, J (k + 1) y ∧ Hi a b x = Hi a (b + 1) y) ∨ (∃ r, Hi a b x = some r ∧ Q r))
    (fn : ∀ x, J (zprs n).length x → ∃ r, Ho n x = some r ∧ Q r) : ∀ x, J 0 x → ∃ r, Ho 0 x = some r ∧ Q r := by
  have out : ∀ (j a : Nat) (x : σ), n - a = j → a ≤ n → J (zix n a (a + 1)) x → ∃ r, Ho a x = some r ∧ Q r := by
    intro j
    induction j with
    | zero =>
      intro a x e1 e2 e3
      have : a = n := by omega
      subst this
      rw [zix_e hn] at e3
      exact fn x e3
    | succ j ih =>
      intro a x e1 e2 e3
      have inn : ∀ (i b : Nat) (x : σ), n - b = i → a < b → b ≤ n → J (zix n a b) x → ∃ r, Hi a b x = some r ∧ Q r := by
        intro i
        induction i with
        | zero =>
          intro b x f1 f2 f3 f4
          have : b = n := by omega
          subst this
          rw [h2 a _ x (by omega) f4]
          exact ih (a + 1) x (by omega) (by omega) (by rw [zix_o hn (by omega)]; exact f4)
        | succ i ih2 =>
          intro b x f1 f2 f3 f4
          rcases st a b _ x f2 (by omega) (zix_at hn (by omega) f2) f4 with ⟨y, g1, g2⟩ | g
          · rw [g2]
            exact ih2 (b + 1) y (by omega) (by omega) (by omega) (by rw [zix_s f2]; exact g1)
          · exact g
      rw [h1 a _ x (by omega) e3]
      exact inn _ (a + 1) x rfl (by omega) (by omega) e3
  intro x hx
  refine out _ 0 x rfl (Nat.zero_le _) ?_
  rw [show zix n 0 (0 + 1) = 0 from by simp [zix]]
  exact hx
def zUpd (v : Nat → Nat) (k x : Nat) : Nat → Nat := fun j => if j = k then x else v j
theorem zUpd_s {v : Nat → Nat} {k x : Nat} : zUpd v k x k = x := if_pos rfl
theorem zUpd_n {v : Nat → Nat} {k x j : Nat} (h : j ≠ k) : zUpd v k x j = v j := if_neg h
theorem zUpd_c {v : Nat → Nat} {k x j y : Nat} (h : j ≠ k) : zUpd (zUpd v k x) j y = zUpd (zUpd v j y) k x := by
  funext i
  unfold zUpd
  by_cases h1 : i = j
  · subst h1; simp [h]
  · simp [h1]
/-- a text: people, suits, the suits' numbers, what the laws tell, thumb, seed -/
abbrev ZT : Type := Nat × Nat × (Nat → Nat → Nat) × (Nat → (Nat → Int32) → Int32) × Nat × Nat
abbrev tN (T : ZT) : Nat := T.1
abbrev tS (T : ZT) : Nat := T.2.1
abbrev tU (T : ZT) : Nat → Nat → Nat := T.2.2.1
abbrev tL (T : ZT) : Nat → (Nat → Int32) → Int32 := T.2.2.2.1
abbrev tH (T : ZT) : Nat := T.2.2.2.2.1
abbrev tD (T : ZT) : Nat := T.2.2.2.2.2
def zTW (T : ZT) : Prop := tN T ≤ 6 ∧ tS T ≤ 8 ∧ (∀ i, i < tS T → tU T i 0 < tN T ∧ tU T i 1 < tN T ∧ tU T i 0 ≠ tU T i 1 ∧ 1 ≤ tU T i 2 ∧ tU T i 2 ≤ 30 ∧ tU T i 3 ≤ 29) ∧ tH T ≤ 100 ∧ tD T ≤ 9999
def zSum : Nat → (Nat → Nat) → Nat
  | 0, _ => 0
  | n + 1, f => zSum n f + f n
theorem zSum_1 {f : Nat → Nat} : ∀ {n p : Nat}, p < n → f p ≤ zSum n f := by
  intro n
  induction n with
  | zero => intro p h; omega
  | succ n ih =>
    intro p h
    show f p ≤ zSum n f + f n
    by_cases e : p = n
    · subst e; omega
    · have := ih (p := p) (by omega); omega
theorem zSum_e {f g : Nat → Nat} : ∀ {n : Nat}, (∀ p, p < n → f p = g p) → zSum n f = zSum n g := by
  intro n
  induction n with
  | zero => intro _; rfl
  | succ n ih =>
    intro h
    show zSum n f + f n = zSum n g + g n
    rw [ih (fun p hp => h p (by omega)), h n (by omega)]
/-- one place changed -/
theorem zSum_c1 {f g : Nat → Nat} {a : Nat} : ∀ {n : Nat}, a < n → (∀ p, p < n → p ≠ a → g p = f p) → zSum n g + f a = zSum n f + g a := by
  intro n
  induction n with
  | zero => intro h; omega
  | succ n ih =>
    intro h e
    show zSum n g + g n + f a = zSum n f + f n + g a
    by_cases ha : a = n
    · subst ha
      have := zSum_e (f := g) (g := f) (n := a) (fun p hp => e p (by omega) (by omega))
      omega
    · have h1 := ih (by omega) (fun p hp => e p (by omega))
      have h2 := e n (by omega) (by omega)
      omega
theorem zSum_2 {f : Nat → Nat} {n a b : Nat} (ha : a < n) (hb : b < n) (hab : a ≠ b) : f a + f b ≤ zSum n f := by
  have h := zSum_c1 (f := f) (g := fun p => if p = a then 0 else f p) (a := a) (n := n) ha (fun p _ h => if_neg h)
  have h2 := zSum_1 (f := fun p => if p = a then 0 else f p) (n := n) (p := b) hb
  try dsimp only at h h2
  rw [if_neg (fun z => hab z.symm)] at h2
  rw [if_pos rfl] at h
  omega
/-- two places changed -/
theorem zSum_c2 {f g : Nat → Nat} {n a b : Nat} (ha : a < n) (hb : b < n) (hab : a ≠ b) (h : ∀ p, p < n → p ≠ a → p ≠ b → g p = f p) : zSum n g + f a + f b = zSum n f + g a + g b := by
  have h1 := zSum_c1 (f := f) (g := fun p => if p = a then g a else f p) (a := a) (n := n) ha (fun p _ h => if_neg h)
  have h2 := zSum_c1 (f := fun p => if p = a then g a else f p) (g := g) (a := b) (n := n) hb (fun p hp hpb => by
    by_cases hpa : p = a
    · subst hpa; simp
    · simp only [if_neg hpa]; exact h p hp hpa hpb)
  try dsimp only at h1 h2
  rw [if_pos rfl] at h1
  rw [if_neg (fun z => hab z.symm)] at h2
  omega
def zTot (np : Nat) (v : Nat → Nat) (t : Nat) : Nat := v (30 + t) + zSum np fun p => v (4 * p + t)
/-- a row's bounds -/
def zB (np B : Nat) (v : Nat → Nat) : Prop := (∀ t, t < 4 → zTot np v t ≤ B) ∧ v 35 ≤ 99 ∧ v 37 ≤ B ∧ B < 2 ^ 20
theorem zB_a {np B : Nat} {v : Nat → Nat} (h : zB np B v) {p t : Nat} (hp : p < np) (ht : t < 4) : v (4 * p + t) ≤ B := by
  have h1 := h.1 t ht
  have h2 := zSum_1 (f := fun p => v (4 * p + t)) hp
  unfold zTot at h1
  try dsimp only at h2
  omega
theorem zB_s {np B : Nat} {v : Nat → Nat} (h : zB np B v) {t : Nat} (ht : t < 4) : v (30 + t) ≤ B := by
  have h1 := h.1 t ht
  unfold zTot at h1
  omega
def zall (v : Nat → Nat) (a b t : Nat) : Nat := v (4 * a + t) + v (4 * b + t) + v (30 + t)
theorem zB_all {np B : Nat} {v : Nat → Nat} (h : zB np B v) {a b t : Nat} (ha : a < np) (hb : b < np) (hab : a ≠ b) (ht : t < 4) : zall v a b t ≤ B := by
  have h1 := h.1 t ht
  have h2 := zSum_2 (f := fun p => v (4 * p + t)) ha hb hab
  unfold zTot at h1
  unfold zall
  try dsimp only at h2
  omega
def zdf (x y : Nat) : Nat := if x ≤ y then y - x else x - y
def zdt (v : Nat → Nat) (a b t : Nat) : Nat := zdf (v (4 * a + t)) (v (4 * b + t))
def zap (v : Nat → Nat) (a b : Nat) : Nat := zdt v a b 0 + zdt v a b 1 + zdt v a b 2 + zdt v a b 3
/-- by how much two differ most, of the first t stuffs; of which -/
def zmo (v : Nat → Nat) (a b : Nat) : Nat → Nat × Nat
  | 0 => (0, 0)
  | t + 1 => if zdt v a b t ≤ (zmo v a b t).1 then zmo v a b t else (zdt v a b t, t)
def zof (v : Nat → Nat) (p : Nat) : Nat := v (4 * p) + v (4 * p + 1) + v (4 * p + 2) + v (4 * p + 3)
def zsc (v : Nat → Nat) : Nat := v 30 + v 31 + v 32 + v 33
def zvr (v : Nat → Nat) (ap x0 x3 x4 x8 : Nat) : Nat → Int32 := fun i => match i with
  | 0 => nI x0
  | 1 => nI (v 34)
  | 2 => nI (v 35)
  | 3 => nI x3
  | 4 => nI x4
  | 5 => nI ap
  | 6 => nI (v 37)
  | 7 => nI (v 36)
  | _ => nI x8
def zqv (v : Nat → Nat) (a b : Nat) : Nat → Int32 := zvr v (zap v a b) (zmo v a b 4).2 0 0 (zmo v a b 4).1
def ztv (v : Nat → Nat) (a b : Nat) : Nat → Int32 := zvr v (zap v a b) (zmo v a b 4).2 (zsc v) (zof v a + zof v b) (zmo v a b 4).1
def zsv (v : Nat → Nat) (a b t : Nat) : Nat → Int32 := zvr v (zap v a b) t (v (30 + t)) (zall v a b t) (if v (4 * a + t) < v (4 * b + t) then v (4 * b + t) else v (4 * a + t))
def zhd (most : Nat) (x : Int32) : Nat := if x ≤ 0 then 0 else if x < nI most then x.toNatClampNeg else most
def zq (T : ZT) (v : Nat → Nat) (a b : Nat) : Bool := !decide (tL T 1 (zqv v a b) ≤ 0)
def zdu (T : ZT) (v : Nat → Nat) (a b : Nat) : Nat := zhd 99 (tL T 2 (ztv v a b))
def zco (T : ZT) (v : Nat → Nat) (a b : Nat) : Nat := zhd 99 (tL T 3 (ztv v a b))
def zst (T : ZT) (v : Nat → Nat) (a b t : Nat) : Nat := zhd (zall v a b t) (tL T 0 (zsv v a b t))
def zhf (T : ZT) (v : Nat → Nat) (a b t : Nat) : Nat := (zall v a b t - zst T v a b t) / 2
/-- the first t stuffs are through -/
def zthr (T : ZT) (v : Nat → Nat) (a b : Nat) : Nat → (Nat → Nat)
  | 0 => v
  | t + 1 => zUpd (zUpd (zUpd (zthr T v a b t) (4 * a + t) (zhf T v a b t)) (4 * b + t) (zhf T v a b t)) (30 + t) (zall v a b t - 2 * zhf T v a b t)
def zturn (T : ZT) (v : Nat → Nat) (a b : Nat) : Nat → Nat :=
  zUpd (zUpd (zUpd (zUpd (zUpd (zthr T v a b 4) 35 (if v 35 + zdu T v a b < 99 then v 35 + zdu T v a b else 99)) 38 (v 38 + zco T v a b)) 36 (v 36 + 1)) (24 + a) (v (24 + a) + 1)) (24 + b) (v (24 + b) + 1)
theorem zhd_le {n : Nat} {x : Int32} (hn : n < 2 ^ 31) : zhd n x ≤ n := by
  unfold zhd
  split
  · omega
  · rename_i h
    split
    · rename_i h2
      rcases pk_ix x hn with h3 | h3 | ⟨j, hj, rfl⟩
      · exact absurd (Int32.le_of_lt h3) h
      · exact absurd h3 (Int32.not_le.mpr h2)
      · rw [nI_clamp (by omega)]; omega
    · omega
theorem zthr_o (T : ZT) (v : Nat → Nat) (a b : Nat) {k : Nat} (h1 : ∀ t, t < 4 → k ≠ 4 * a + t ∧ k ≠ 4 * b + t ∧ k ≠ 30 + t) : ∀ t, t ≤ 4 → zthr T v a b t k = v k := by
  intro t
  induction t with
  | zero => intro _; rfl
  | succ t ih =>
    intro ht
    have := h1 t (by omega)
    unfold zthr
    rw [zUpd_n this.2.2, zUpd_n this.2.1, zUpd_n this.1, ih (by omega)]
theorem zthr_h (T : ZT) (v : Nat → Nat) (a b : Nat) (ha : a < 6) (hb : b < 6) : ∀ t, t ≤ 4 → ∀ u, u < t → zthr T v a b t (4 * a + u) = zhf T v a b u ∧ zthr T v a b t (4 * b + u) = zhf T v a b u ∧ zthr T v a b t (30 + u) = zall v a b u - 2 * zhf T v a b u := by
  intro t
  induction t with
  | zero => intro _ u hu; omega
  | succ t ih =>
    intro ht u hu
    unfold zthr zUpd
    by_cases e : u = t
    · subst e
      refine ⟨?_, ?_, ?_⟩
      · rw [if_neg (by omega)]; simp
      · rw [if_neg (by omega)]; simp
      · simp
    · obtain ⟨i1, i2, i3⟩ := ih (by omega) u (by omega)
      refine ⟨?_, ?_, ?_⟩
      · rw [if_neg (by omega)]
        by_cases c1 : 4 * a + u = 4 * b + t
        · omega
        · rw [if_neg c1, if_neg (by omega), i1]
      · rw [if_neg (by omega)]
        by_cases c1 : 4 * b + u = 4 * a + t
        · omega
        · rw [if_neg (by omega), if_neg c1, i2]
      · rw [if_neg (by omega), if_neg (by omega), if_neg (by omega), i3]
theorem zturn_a {T : ZT} {v : Nat → Nat} {a b t : Nat} (ha : a < 6) (hb : b < 6) (ht : t < 4) : zturn T v a b (4 * a + t) = zhf T v a b t ∧ zturn T v a b (4 * b + t) = zhf T v a b t ∧ zturn T v a b (30 + t) = zall v a b t - 2 * zhf T v a b t := by
  unfold zturn
  obtain ⟨i1, i2, i3⟩ := zthr_h T v a b ha hb 4 (Nat.le_refl _) t ht
  refine ⟨?_, ?_, ?_⟩
  · rw [zUpd_n (by omega), zUpd_n (by omega), zUpd_n (by omega), zUpd_n (by omega), zUpd_n (by omega), i1]
  · rw [zUpd_n (by omega), zUpd_n (by omega), zUpd_n (by omega), zUpd_n (by omega), zUpd_n (by omega), i2]
  · rw [zUpd_n (by omega), zUpd_n (by omega), zUpd_n (by omega), zUpd_n (by omega), zUpd_n (by omega), i3]
theorem zturn_o {T : ZT} {v : Nat → Nat} {a b p t : Nat} (ha : a < 6) (hb : b < 6) (hp : p < 6) (h1 : p ≠ a) (h2 : p ≠ b) (ht : t < 4) : zturn T v a b (4 * p + t) = v (4 * p + t) := by
  unfold zturn
  rw [zUpd_n (by omega), zUpd_n (by omega), zUpd_n (by omega), zUpd_n (by omega), zUpd_n (by omega), zthr_o T v a b (fun u hu => by omega) 4 (Nat.le_refl _)]
theorem zturn_37 {T : ZT} {v : Nat → Nat} {a b : Nat} (ha : a < 6) (hb : b < 6) : zturn T v a b 37 = v 37 := by
  unfold zturn
  rw [zUpd_n (by omega), zUpd_n (by omega), zUpd_n (by omega), zUpd_n (by omega), zUpd_n (by omega), zthr_o T v a b (fun u hu => by omega) 4 (Nat.le_refl _)]
theorem zturn_35 {T : ZT} {v : Nat → Nat} {a b : Nat} (ha : a < 6) (hb : b < 6) : zturn T v a b 35 ≤ 99 := by
  unfold zturn
  rw [zUpd_n (by omega), zUpd_n (by omega), zUpd_n (by omega), zUpd_n (by omega), zUpd_s]
  split <;> omega
theorem zst_le {T : ZT} {v : Nat → Nat} {np B a b t : Nat} (h : zB np B v) (ha : a < np) (hb : b < np) (hab : a ≠ b) (ht : t < 4) : zst T v a b t ≤ zall v a b t := by
  have := zB_all h ha hb hab ht
  have := h.2.2.2
  exact zhd_le (by omega)
theorem zturn_B {T : ZT} {v : Nat → Nat} {np B a b : Nat} (h : zB np B v) (hn : np ≤ 6) (ha : a < np) (hb : b < np) (hab : a ≠ b) : zB np B (zturn T v a b) := by
  refine ⟨fun t ht => ?_, zturn_35 (by omega) (by omega), ?_, h.2.2.2⟩
  · have h1 := h.1 t ht
    have h2 := zst_le (T := T) h ha hb hab ht
    obtain ⟨i1, i2, i3⟩ := zturn_a (T := T) (v := v) (a := a) (b := b) (t := t) (by omega) (by omega) ht
    have h3 := zSum_c2 (f := fun p => v (4 * p + t)) (g := fun p => zturn T v a b (4 * p + t)) (n := np) ha hb hab (fun p hp h1 h2 => zturn_o (by omega) (by omega) (by omega) h1 h2 ht)
    unfold zTot at h1 ⊢
    try dsimp only at h3
    rw [i1, i2] at h3
    rw [i3]
    have h4 : zhf T v a b t = (zall v a b t - zst T v a b t) / 2 := rfl
    have h5 : zall v a b t = v (4 * a + t) + v (4 * b + t) + v (30 + t) := rfl
    omega
  · rw [zturn_37 (by omega) (by omega)]; exact h.2.2.1
