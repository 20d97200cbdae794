/-! the class's mincer over rows -/
def zE0 (a i : Nat) : Prop := a = 12 ∨ (a = 8 ∧ i = 5)
def zE (a i : Nat) : Prop := a = 28 ∨ a = 12 ∨ (a = 8 ∧ i = 5)
def zES (s a i : Nat) : Prop := zE a i ∨ (s ≤ a ∧ a ≤ s + 3)
def zTx (a i : Nat) : Prop := a = 4 ∨ a = 7 ∨ (a = 8 ∧ i ≠ 5) ∨ a = 9 ∨ a = 10 ∨ a = 11
/-- the class's laws tell L -/
def zLC (m : MzM) (L : Nat → (Nat → Int32) → Int32) : Prop := ∀ (m1 : MzM) (f : Nat → Int32) (k d : Nat), (∀ a i, zTx a i → mz_rd m1 a i = mz_rd m a i) → (∀ i, i < 9 → mz_rd m1 28 i = f i) → k < 4 → ∃ m2, R_X2_value d 8 (nI k) m1 = some (L k f, m2) ∧ zFr zE0 m1 m2
def zTC (T : ZT) (m : MzM) : Prop := zTW T ∧ mz_rd m 4 4 = nI (tN T) ∧ mz_rd m 4 5 = nI (tS T) ∧ (∀ i j, i < tS T → j < 4 → mz_rd m 7 (4 * i + j) = nI (tU T i j)) ∧ mz_rd m 4 7 = nI (tH T) ∧ mz_rd m 4 8 = nI (tD T) ∧ zLC m (tL T)
theorem zTC_f {T : ZT} {m m' : MzM} (h : zTC T m) (g : ∀ a i, zTx a i → mz_rd m' a i = mz_rd m a i) : zTC T m' := by
  obtain ⟨h1, h2, h3, h4, h5, h6, h7⟩ := h
  refine ⟨h1, (g 4 4 (Or.inl rfl)).trans h2, (g 4 5 (Or.inl rfl)).trans h3, fun i j hi hj => (g 7 _ (Or.inr (Or.inl rfl))).trans (h4 i j hi hj), (g 4 7 (Or.inl rfl)).trans h5, (g 4 8 (Or.inl rfl)).trans h6, ?_⟩
  intro m1 f k d e1
  exact h7 m1 f k d (fun a i t => (e1 a i t).trans (g a i t))
def zstA (s k : Nat) : Nat × Nat := if k < 24 then (s + 1, k) else if k < 30 then (s + 3, k - 24) else if k < 34 then (s + 2, k - 30) else if k = 34 then (s, 5) else if k = 35 then (s, 6) else if k = 36 then (s, 4) else if k = 37 then (s, 3) else (s, 7)
theorem zstA_in (s k : Nat) : s ≤ (zstA s k).1 ∧ (zstA s k).1 ≤ s + 3 := by
  unfold zstA
  repeat' split
  all_goals (dsimp only; omega)
theorem zstA_inj {s j k : Nat} (hj : j < 39) (hk : k < 39) (h : zstA s j = zstA s k) : j = k := by
  unfold zstA at h
  repeat' split at h
  all_goals (simp only [Prod.mk.injEq] at h; omega)
theorem zstA_c (s : Nat) {k : Nat} (h : k < 24) : zstA s k = (s + 1, k) := if_pos h
theorem zstA_w (s : Nat) {t : Nat} (h : t < 4) : zstA s (30 + t) = (s + 2, t) := by
  unfold zstA
  rw [if_neg (by omega), if_neg (by omega), if_pos (by omega)]
  simp
theorem zstA_p (s : Nat) {p : Nat} (h : p < 6) : zstA s (24 + p) = (s + 3, p) := by
  unfold zstA
  rw [if_neg (by omega), if_pos (by omega)]
  simp
/-- the state at s is the row v (of those who aren't there, anything) -/
def zSC (np : Nat) (m : MzM) (s : Nat) (v : Nat → Nat) : Prop := ∀ k, k < 39 → (k < 4 * np ∨ 24 ≤ k) → mz_rd m (zstA s k).1 (zstA s k).2 = nI (v k)
section ZSC
variable {np s : Nat} {m m' : MzM} {v : Nat → Nat}

theorem zSC_c (h : zSC np m s v) (hn : np ≤ 6) {p t : Nat} (hp : p < np) (ht : t < 4) : mz_rd m (s + 1) (4 * p + t) = nI (v (4 * p + t)) := by
  have := h (4 * p + t) (by omega) (Or.inl (by omega))
  rw [zstA_c s (by omega)] at this
  exact this
theorem zSC_w (h : zSC np m s v) {t : Nat} (ht : t < 4) : mz_rd m (s + 2) t = nI (v (30 + t)) := by
  have := h (30 + t) (by omega) (Or.inr (by omega))
  rw [zstA_w s ht] at this
  exact this
theorem zSC_p (h : zSC np m s v) {p : Nat} (hp : p < 6) : mz_rd m (s + 3) p = nI (v (24 + p)) := by
  have := h (24 + p) (by omega) (Or.inr (by omega))
  rw [zstA_p s hp] at this
  exact this
theorem zSC_5 (h : zSC np m s v) : mz_rd m s 5 = nI (v 34) := h 34 (by omega) (Or.inr (by omega))
theorem zSC_6 (h : zSC np m s v) : mz_rd m s 6 = nI (v 35) := h 35 (by omega) (Or.inr (by omega))
theorem zSC_4 (h : zSC np m s v) : mz_rd m s 4 = nI (v 36) := h 36 (by omega) (Or.inr (by omega))
theorem zSC_3 (h : zSC np m s v) : mz_rd m s 3 = nI (v 37) := h 37 (by omega) (Or.inr (by omega))
theorem zSC_7 (h : zSC np m s v) : mz_rd m s 7 = nI (v 38) := h 38 (by omega) (Or.inr (by omega))
theorem zSC_f (h : zSC np m s v) (g : ∀ a i, s ≤ a → a ≤ s + 3 → mz_rd m' a i = mz_rd m a i) : zSC np m' s v := by
  intro k h1 h2
  rw [g _ _ (zstA_in s k).1 (zstA_in s k).2]
  exact h k h1 h2
theorem zSC_u (h : zSC np m s v) {k : Nat} (x : Nat) (hk : k < 39) : zSC np (mz_wr m (zstA s k).1 (zstA s k).2 (nI x)) s (zUpd v k x) := by
  intro j h1 h2
  rw [m_rw]
  by_cases e : j = k
  · subst e
    rw [if_pos ⟨rfl, rfl⟩, zUpd_s]
  · rw [if_neg (fun z => e (zstA_inj h1 hk (Prod.ext z.1 z.2))), zUpd_n e]
    exact h j h1 h2
theorem zSC_uc (h : zSC np m s v) {k : Nat} (x : Nat) (hk : k < 24) : zSC np (mz_wr m (s + 1) k (nI x)) s (zUpd v k x) := by
  have := zSC_u h (k := k) x (by omega)
  rw [zstA_c s hk] at this
  exact this
theorem zSC_uw (h : zSC np m s v) {t : Nat} (x : Nat) (ht : t < 4) : zSC np (mz_wr m (s + 2) t (nI x)) s (zUpd v (30 + t) x) := by
  have := zSC_u h (k := 30 + t) x (by omega)
  rw [zstA_w s ht] at this
  exact this
theorem zSC_up (h : zSC np m s v) {p : Nat} (x : Nat) (hp : p < 6) : zSC np (mz_wr m (s + 3) p (nI x)) s (zUpd v (24 + p) x) := by
  have := zSC_u h (k := 24 + p) x (by omega)
  rw [zstA_p s hp] at this
  exact this
theorem zSC_u5 (h : zSC np m s v) (x : Nat) : zSC np (mz_wr m s 5 (nI x)) s (zUpd v 34 x) := zSC_u h (k := 34) x (by omega)
theorem zSC_u6 (h : zSC np m s v) (x : Nat) : zSC np (mz_wr m s 6 (nI x)) s (zUpd v 35 x) := zSC_u h (k := 35) x (by omega)
theorem zSC_u4 (h : zSC np m s v) (x : Nat) : zSC np (mz_wr m s 4 (nI x)) s (zUpd v 36 x) := zSC_u h (k := 36) x (by omega)
theorem zSC_u3 (h : zSC np m s v) (x : Nat) : zSC np (mz_wr m s 3 (nI x)) s (zUpd v 37 x) := zSC_u h (k := 37) x (by omega)
theorem zSC_u7 (h : zSC np m s v) (x : Nat) : zSC np (mz_wr m s 7 (nI x)) s (zUpd v 38 x) := zSC_u h (k := 38) x (by omega)
end ZSC
theorem zS_r {s : Nat} (hs : mz_isS s = true) : 29 ≤ s ∧ s + 3 ≤ 238 ∧ (s + 3 < 37 ∨ 39 ≤ s) ∧ (s + 3 < 199 ∨ 204 ≤ s) ∧ (s + 3 < 220 ∨ 227 ≤ s) := by
  have h : mz_SL.all (fun s => decide (29 ≤ s ∧ s + 3 ≤ 238 ∧ (s + 3 < 37 ∨ 39 ≤ s) ∧ (s + 3 < 199 ∨ 204 ≤ s) ∧ (s + 3 < 220 ∨ 227 ≤ s))) = true := by decide +kernel
  exact of_decide_eq_true (List.all_eq_true.mp h s (List.contains_iff_mem.mp hs))
theorem zS_ap {s u : Nat} (hs : mz_isS s = true) (hu : mz_isS u = true) (h : s ≠ u) : s + 3 < u ∨ u + 3 < s := by
  have h0 : mz_SL.all (fun s => mz_SL.all fun u => decide (s = u ∨ s + 3 < u ∨ u + 3 < s)) = true := by decide +kernel
  rcases of_decide_eq_true (List.all_eq_true.mp (List.all_eq_true.mp h0 s (List.contains_iff_mem.mp hs)) u (List.contains_iff_mem.mp hu)) with e | e
  · exact absurd e h
  · exact e
theorem zTC_S {T : ZT} {s : Nat} {m m' : MzM} (h : zTC T m) (hs : mz_isS s = true) (f : zFr (zES s) m m') : zTC T m' := by
  have := zS_r hs
  exact zTC_f h (fun a i t => f.1 a i (by unfold zES zE; unfold zTx at t; omega))
theorem zTC_E {T : ZT} {m m' : MzM} (h : zTC T m) (f : zFr zE m m') : zTC T m' := zTC_f h (fun a i t => f.1 a i (by unfold zE; unfold zTx at t; omega))
theorem zSC_E {np s : Nat} {m m' : MzM} {v : Nat → Nat} (h : zSC np m s v) (hs : mz_isS s = true) (f : zFr zE m m') : zSC np m' s v := by
  have := zS_r hs
  exact zSC_f h (fun a i h1 h2 => f.1 a i (by unfold zE; omega))
theorem zSC_S {np s u : Nat} {m m' : MzM} {v : Nat → Nat} (h : zSC np m u v) (hu : mz_isS u = true) (hs : mz_isS s = true) (n : u ≠ s) (f : zFr (zES s) m m') : zSC np m' u v := by
  have := zS_r hu
  have := zS_ap hu hs n
  exact zSC_f h (fun a i h1 h2 => f.1 a i (by unfold zES zE; omega))
theorem zE0_E {m m' : MzM} (f : zFr zE0 m m') : zFr zE m m' := zFr_m f (fun a i h => by unfold zE0 at h; unfold zE; omega)
theorem zE_S {s : Nat} {m m' : MzM} (f : zFr zE m m') : zFr (zES s) m m' := zFr_m f (fun a i h => Or.inl h)
theorem zabs {x y : Nat} (hx : x < 2 ^ 30) (hy : y < 2 ^ 30) : (if (0 : Int32) ≤ nI x - nI y then nI x - nI y else 0 - (nI x - nI y)) = nI (zdf x y) := by
  unfold zdf
  by_cases h : y ≤ x
  · rw [pk_sub h, if_pos (nI_pos' (by omega))]
    by_cases h2 : x ≤ y
    · rw [if_pos h2]; congr 1; omega
    · rw [if_neg h2]
  · have h1 := pk_sneg hy (show x < y by omega)
    rw [if_neg (fun z => absurd h1 (Int32.not_lt.mpr z)), if_pos (by omega), ← pk_sub (show x ≤ y by omega), Int32.zero_sub, Int32.neg_sub]
theorem zhd_c {n : Nat} (x : Int32) (hn : n < 2 ^ 31) : (if (0 : Int32) < (if x < nI n then x else nI n) then (if x < nI n then x else nI n) else 0) = nI (zhd n x) := by
  unfold zhd
  by_cases h : x ≤ 0
  · rw [if_pos h]
    by_cases h2 : x < nI n
    · rw [if_pos h2, if_neg (Int32.not_lt.mpr h)]; rfl
    · rw [if_neg h2, if_neg (Int32.not_lt.mpr (Int32.le_trans (Int32.not_lt.mp h2) h))]; rfl
  · rw [if_neg h]
    by_cases h2 : x < nI n
    · rw [if_pos h2, if_pos h2, if_pos (Int32.not_le.mp h)]
      obtain ⟨j, hj, rfl⟩ := nI_of (x := x) (fun z => h (Int32.le_of_lt z))
      rw [nI_clamp hj]
    · rw [if_neg h2, if_neg h2]
      by_cases h3 : n = 0
      · subst h3; rfl
      · rw [if_pos (show (0 : Int32) < nI n from nI_lt (a := 0) (b := n) (by omega) hn)]
def zb (b : Bool) : Int32 := match b with
  | true => 1
  | false => 0
theorem zb_if {α : Type} (b : Bool) (x y : α) : (if zb b = 0 then x else y) = match b with
    | true => y
    | false => x := by cases b <;> rfl
def zapt (v : Nat → Nat) (a b : Nat) : Nat → Nat
  | 0 => 0
  | t + 1 => zapt v a b t + zdt v a b t
theorem zapt_4 (v : Nat → Nat) (a b : Nat) : zapt v a b 4 = zap v a b := by simp [zapt, zap]
section ZC
variable {T : ZT} {np s d a b B : Nat} {m : MzM} {v : Nat → Nat}

theorem c_amount (hs : mz_isS s = true) (h : zSC np m s v) (hn : np ≤ 6) {p t : Nat} (hp : p < np) (ht : t < 4) : R_X6_amount d s (nI p) (nI t) m = some (nI (v (4 * p + t)), m) := by
  rw [s_amount d s p t m hs (by omega) ht, zSC_c h hn hp ht]
theorem c_ofAll (hs : mz_isS s = true) (h : zSC np m s v) (hn : np ≤ 6) {p : Nat} (hp : p < np) : R_X6_ofAll d s (nI p) m = some (nI (zof v p), m) := by
  rw [s_ofAll d s p m hs (by omega)]
  unfold s_sum4
  have e0 : mz_rd m (s + 1) (4 * p) = nI (v (4 * p)) := zSC_c h hn hp (t := 0) (by omega)
  rw [e0, zSC_c h hn hp (t := 1) (by omega), zSC_c h hn hp (t := 2) (by omega), zSC_c h hn hp (t := 3) (by omega), Int32.zero_add, nI_add, nI_add, nI_add]
  rfl
theorem c_inScrew (hs : mz_isS s = true) (h : zSC np m s v) : R_X6_inScrew d s m = some (nI (zsc v), m) := by
  rw [s_inScrew d s m hs]
  unfold s_sum4
  rw [zSC_w h (t := 0) (by omega), zSC_w h (t := 0 + 1) (by omega), zSC_w h (t := 0 + 2) (by omega), zSC_w h (t := 0 + 3) (by omega), Int32.zero_add, nI_add, nI_add, nI_add]
  rfl
theorem c_apart (hs : mz_isS s = true) (h : zSC np m s v) (hn : np ≤ 6) (hB : zB np B v) (ha : a < np) (hb : b < np) : R_X6_apart d s (nI a) (nI b) m = some (nI (zap v a b), m) := by
  have hB2 := hB.2.2.2
  have bd : ∀ p t, p < np → t < 4 → v (4 * p + t) < 2 ^ 30 := fun p t hp ht => by have := zB_a hB hp ht; omega
  rw [s_apartOf d s a b m hs (by omega) (by omega)]
  unfold s_apart s_abs
  have e0 : mz_rd m (s + 1) (4 * a) = nI (v (4 * a)) := zSC_c h hn ha (t := 0) (by omega)
  have f0 : mz_rd m (s + 1) (4 * b) = nI (v (4 * b)) := zSC_c h hn hb (t := 0) (by omega)
  rw [e0, f0, zSC_c h hn ha (t := 1) (by omega), zSC_c h hn ha (t := 2) (by omega), zSC_c h hn ha (t := 3) (by omega), zSC_c h hn hb (t := 1) (by omega), zSC_c h hn hb (t := 2) (by omega), zSC_c h hn hb (t := 3) (by omega)]
  rw [zabs (show v (4 * a) < 2 ^ 30 from bd a 0 ha (by omega)) (show v (4 * b) < 2 ^ 30 from bd b 0 hb (by omega)), zabs (bd a 1 ha (by omega)) (bd b 1 hb (by omega)), zabs (bd a 2 ha (by omega)) (bd b 2 hb (by omega)), zabs (bd a 3 ha (by omega)) (bd b 3 hb (by omega)), Int32.zero_add, nI_add, nI_add, nI_add]
  rfl
theorem zmo_le (hB : zB np B v) (ha : a < np) (hb : b < np) : ∀ t, t ≤ 4 → (zmo v a b t).1 ≤ B ∧ (∀ u, u < t → zdt v a b u ≤ B) := by
  intro t
  induction t with
  | zero => intro _; exact ⟨Nat.zero_le _, fun u hu => by omega⟩
  | succ t ih =>
    intro ht
    obtain ⟨i1, i2⟩ := ih (by omega)
    have h1 := zB_a hB ha (show t < 4 by omega)
    have h2 := zB_a hB hb (show t < 4 by omega)
    have h3 : zdt v a b t ≤ B := by unfold zdt zdf; split <;> omega
    refine ⟨?_, fun u hu => ?_⟩
    · unfold zmo
      split
      · exact i1
      · exact h3
    · by_cases e : u = t
      · subst e; exact h3
      · exact i2 u (by omega)
theorem c_lookAt (hs : mz_isS s = true) (h : zSC np m s v) (hn : np ≤ 6) (hB : zB np B v) (ha : a < np) (hb : b < np) : ∃ m', R_X3_lookAt d s (nI a) (nI b) m = some m' ∧ zFr zE m m' ∧ ∀ i, i < 9 → mz_rd m' 28 i = zqv v a b i := by
  have hB2 := hB.2.2.2
  have bd : ∀ p t, p < np → t < 4 → v (4 * p + t) < 2 ^ 30 := fun p t hp ht => by have := zB_a hB hp ht; omega
  have st : ∀ t, t < 4 → H_X3_lookAt_12 d s (nI a) (nI b) (nI (zapt v a b t)) (nI (zmo v a b t).1) (nI (zmo v a b t).2) (nI t) m = H_X3_lookAt_12 d s (nI a) (nI b) (nI (zapt v a b (t + 1))) (nI (zmo v a b (t + 1)).1) (nI (zmo v a b (t + 1)).2) (nI (t + 1)) m := by
    intro t ht
    have h1 := (zmo_le hB ha hb 4 (by omega)).2 t ht
    have h2 := (zmo_le hB ha hb t (by omega)).1
    rw [H_X3_lookAt_12_eq d s _ _ _ _ _ _ m hs, if_neg (n_le4 ht), c_amount hs h hn ha ht, Option.bind_some]
    dsimp only
    rw [c_amount hs h hn hb ht, Option.bind_some]
    dsimp only
    rw [zabs (bd a t ha ht) (bd b t hb ht), nI_add, nI_1]
    show (if nI (zdt v a b t) ≤ nI (zmo v a b t).1 then _ else _) = _
    by_cases c : zdt v a b t ≤ (zmo v a b t).1
    · rw [if_pos ((nI_leI (by omega) (by omega)).mpr c)]
      show _ = H_X3_lookAt_12 d s (nI a) (nI b) _ (nI (if zdt v a b t ≤ (zmo v a b t).1 then zmo v a b t else (zdt v a b t, t)).1) (nI (if zdt v a b t ≤ (zmo v a b t).1 then zmo v a b t else (zdt v a b t, t)).2) _ m
      rw [if_pos c]
      rfl
    · rw [if_neg (fun z => c ((nI_leI (by omega) (by omega)).mp z))]
      show _ = H_X3_lookAt_12 d s (nI a) (nI b) _ (nI (if zdt v a b t ≤ (zmo v a b t).1 then zmo v a b t else (zdt v a b t, t)).1) (nI (if zdt v a b t ≤ (zmo v a b t).1 then zmo v a b t else (zdt v a b t, t)).2) _ m
      rw [if_neg c]
      rfl
  have e5 := zSC_5 h
  have e6 := zSC_6 h
  have e4 := zSC_4 h
  have e3 := zSC_3 h
  have hr := zS_r hs
  have s28 : ¬ s = 28 := by omega
  rw [R_X3_lookAt_eq d s _ _ m hs]
  show ∃ m', H_X3_lookAt_12 d s (nI a) (nI b) (nI (zapt v a b 0)) (nI (zmo v a b 0).1) (nI (zmo v a b 0).2) (nI 0) m = some m' ∧ _
  rw [st 0 (by omega), st 1 (by omega), st 2 (by omega), st 3 (by omega), H_X3_lookAt_12_eq d s _ _ _ _ _ _ m hs, if_pos n_4le, zapt_4]
  refine ⟨_, rfl, ?_, ?_⟩
  · iterate 9 refine zFr_w2 ?_ (Or.inl rfl)
    exact zFr_r
  · intro i hi
    rcases (show i = 0 ∨ i = 1 ∨ i = 2 ∨ i = 3 ∨ i = 4 ∨ i = 5 ∨ i = 6 ∨ i = 7 ∨ i = 8 by omega) with rfl | rfl | rfl | rfl | rfl | rfl | rfl | rfl | rfl <;> simp [m_rw, s28, zqv, zvr, e3, e4, e5, e6, nI_0]
theorem c_value (h : zTC T m) {f : Nat → Int32} (hf : ∀ i, i < 9 → mz_rd m 28 i = f i) {k : Nat} (hk : k < 4) : ∃ m2, R_X2_value d 8 (nI k) m = some (tL T k f, m2) ∧ zFr zE0 m m2 := h.2.2.2.2.2.2 m f k d (fun _ _ _ => rfl) hf hk
theorem c_quarrel (hT : zTC T m) (hs : mz_isS s = true) (h : zSC (tN T) m s v) (hB : zB (tN T) B v) (ha : a < tN T) (hb : b < tN T) : ∃ m', R_X3_quarrel d s (nI a) (nI b) m = some (zb (zq T v a b), m') ∧ zFr zE m m' := by
  have hn := hT.1.1
  rw [R_X3_quarrel_eq d s _ _ m hs]
  obtain ⟨m1, e1, f1, g1⟩ := c_lookAt (d := d) hs h hn hB ha hb
  rw [e1, Option.bind_some]
  obtain ⟨m2, e2, f2⟩ := c_value (d := d) (zTC_E hT f1) g1 (k := 1) (by omega)
  have e2' : R_X2_value d 8 1 m1 = some (tL T 1 (zqv v a b), m2) := e2
  rw [e2', Option.bind_some]
  dsimp only
  refine ⟨m2, ?_, zFr_t f1 (zE0_E f2)⟩
  unfold zq
  by_cases c : tL T 1 (zqv v a b) ≤ 0
  · rw [if_pos c, decide_eq_true c]; rfl
  · rw [if_neg c, decide_eq_false c]; rfl
theorem c_wearOf (hT : zTC T m) {f : Nat → Int32} (hf : ∀ i, i < 9 → mz_rd m 28 i = f i) {k : Nat} (hk : k < 4) : ∃ m2, R_X3_wearOf d (nI k) m = some (nI (zhd 99 (tL T k f)), m2) ∧ zFr zE0 m m2 := by
  obtain ⟨m2, e2, f2⟩ := c_value (d := d) hT hf hk
  refine ⟨m2, ?_, f2⟩
  rw [R_X3_wearOf_eq, e2, Option.bind_some]
  dsimp only
  rw [R_X3_heldTo_eq, Option.bind_some]
  dsimp only
  exact congrArg (fun z => some (z, m2)) (zhd_c (n := 99) (tL T k f) (by omega))
theorem c_lookAtTurn (hs : mz_isS s = true) (h : zSC np m s v) (hn : np ≤ 6) (hB : zB np B v) (ha : a < np) (hb : b < np) : ∃ m', R_X3_lookAtTurn d s (nI a) (nI b) m = some m' ∧ zFr zE m m' ∧ ∀ i, i < 9 → mz_rd m' 28 i = ztv v a b i := by
  obtain ⟨m1, e1, f1, g1⟩ := c_lookAt (d := d) hs h hn hB ha hb
  have h1 := zSC_E h hs f1
  rw [R_X3_lookAtTurn_eq d s _ _ m hs, e1, Option.bind_some, c_ofAll hs h1 hn ha, Option.bind_some]
  dsimp only
  rw [c_ofAll hs h1 hn hb, Option.bind_some]
  dsimp only
  have f2 : zFr zE m1 (mz_wr m1 28 4 (nI (zof v a) + nI (zof v b))) := zFr_w (Or.inl rfl)
  rw [c_inScrew hs (zSC_E h1 hs f2), Option.bind_some]
  dsimp only
  refine ⟨_, rfl, zFr_w2 (zFr_t f1 f2) (Or.inl rfl), ?_⟩
  intro i hi
  rw [m_rw, m_rw, nI_add]
  by_cases c3 : i = 3
  · subst c3; simp [ztv, zvr]
  · by_cases c4 : i = 4
    · subst c4; simp [ztv, zvr]
    · rw [if_neg (fun z => c3 z.2), if_neg (fun z => c4 z.2), g1 i hi]
      rcases (show i = 0 ∨ i = 1 ∨ i = 2 ∨ i = 5 ∨ i = 6 ∨ i = 7 ∨ i = 8 by omega) with rfl | rfl | rfl | rfl | rfl | rfl | rfl <;> rfl
theorem c_wear (hT : zTC T m) (hs : mz_isS s = true) (h : zSC (tN T) m s v) (hB : zB (tN T) B v) (ha : a < tN T) (hb : b < tN T) {k : Nat} (hk : k < 4) : ∃ m', R_X3_wear d (nI k) s (nI a) (nI b) m = some (nI (zhd 99 (tL T k (ztv v a b))), m') ∧ zFr zE m m' := by
  obtain ⟨m1, e1, f1, g1⟩ := c_lookAtTurn (d := d) hs h hT.1.1 hB ha hb
  obtain ⟨m2, e2, f2⟩ := c_wearOf (d := d) (zTC_E hT f1) g1 hk
  rw [R_X3_wear_eq d _ s _ _ m hs, e1, Option.bind_some, e2, Option.bind_some]
  exact ⟨m2, rfl, zFr_t f1 (zE0_E f2)⟩
theorem c_allOf (hs : mz_isS s = true) (h : zSC np m s v) (hn : np ≤ 6) (ha : a < np) (hb : b < np) {t : Nat} (ht : t < 4) : R_X3_allOf d s (nI a) (nI b) (nI t) m = some (nI (zall v a b t), m) := by
  rw [R_X3_allOf_eq d s _ _ _ m hs, c_amount hs h hn ha ht, Option.bind_some]
  dsimp only
  rw [c_amount hs h hn hb ht, Option.bind_some]
  dsimp only
  rw [n_ok (by omega), n_gd ht, nI_clamp (by omega), zSC_w h ht, nI_add, nI_add]
  rfl
/-- the vars that stay over a turn -/
def zV5 (m : MzM) (v : Nat → Nat) (a b : Nat) : Prop := ∀ i, i = 1 ∨ i = 2 ∨ i = 5 ∨ i = 6 ∨ i = 7 → mz_rd m 28 i = zqv v a b i
theorem c_stayingOf {w : Nat → Nat} (hT : zTC T m) (hs : mz_isS s = true) (h : zSC (tN T) m s w) (hB : zB (tN T) B v) (ha : a < tN T) (hb : b < tN T) (hab : a ≠ b) {t : Nat} (ht : t < 4) (w1 : w (4 * a + t) = v (4 * a + t)) (w2 : w (4 * b + t) = v (4 * b + t)) (w3 : w (30 + t) = v (30 + t)) (hv : zV5 m v a b) : ∃ m', R_X3_stayingOf d s (nI a) (nI b) (nI t) m = some (nI (zst T v a b t), m') ∧ zFr zE m m' ∧ zV5 m' v a b := by
  have hn := hT.1.1
  have hB2 := hB.2.2.2
  have hr := zS_r hs
  have hw : zall w a b t = zall v a b t := by unfold zall; rw [w1, w2, w3]
  rw [R_X3_stayingOf_eq d s _ _ _ m hs, c_allOf hs h hn ha hb ht, Option.bind_some]
  dsimp only
  rw [n_ok (by omega), n_gd ht, nI_clamp (by omega), m_ne (show s + 2 ≠ 28 by omega), zSC_w h ht, hw, w3]
  have f1 : zFr zE m (mz_wr (mz_wr (mz_wr m 28 0 (nI t)) 28 3 (nI (v (30 + t)))) 28 4 (nI (zall v a b t))) := zFr_w2 (zFr_w2 (zFr_w (Or.inl rfl)) (Or.inl rfl)) (Or.inl rfl)
  have h1 := zSC_E h hs f1
  rw [c_amount hs h1 hn ha ht, Option.bind_some]
  dsimp only
  rw [c_amount hs h1 hn hb ht, Option.bind_some]
  dsimp only
  rw [w1, w2]
  have hx : (if nI (v (4 * a + t)) < nI (v (4 * b + t)) then nI (v (4 * b + t)) else nI (v (4 * a + t))) = nI (if v (4 * a + t) < v (4 * b + t) then v (4 * b + t) else v (4 * a + t)) := by
    have b1 := zB_a hB ha ht
    have b2 := zB_a hB hb ht
    by_cases c : v (4 * a + t) < v (4 * b + t)
    · rw [if_pos c, if_pos ((nI_ltI (by omega) (by omega)).mpr c)]
    · rw [if_neg c, if_neg (fun z => c ((nI_ltI (by omega) (by omega)).mp z))]
  rw [hx]
  have f2 : zFr zE m (mz_wr (mz_wr (mz_wr (mz_wr m 28 0 (nI t)) 28 3 (nI (v (30 + t)))) 28 4 (nI (zall v a b t))) 28 8 (nI (if v (4 * a + t) < v (4 * b + t) then v (4 * b + t) else v (4 * a + t)))) := zFr_w2 f1 (Or.inl rfl)
  have hf : ∀ i, i < 9 → mz_rd (mz_wr (mz_wr (mz_wr (mz_wr m 28 0 (nI t)) 28 3 (nI (v (30 + t)))) 28 4 (nI (zall v a b t))) 28 8 (nI (if v (4 * a + t) < v (4 * b + t) then v (4 * b + t) else v (4 * a + t)))) 28 i = zsv v a b t i := by
    intro i hi
    rcases (show i = 0 ∨ i = 3 ∨ i = 4 ∨ i = 8 ∨ (i = 1 ∨ i = 2 ∨ i = 5 ∨ i = 6 ∨ i = 7) by omega) with rfl | rfl | rfl | rfl | c
    · simp [m_rw, zsv, zvr]
    · simp [m_rw, zsv, zvr]
    · simp [m_rw, zsv, zvr]
    · simp [m_rw, zsv, zvr]
    · rw [m_ni (by omega), m_ni (by omega), m_ni (by omega), m_ni (by omega), hv i c]
      rcases c with rfl | rfl | rfl | rfl | rfl <;> rfl
  obtain ⟨m2, e2, f3⟩ := c_value (d := d) (zTC_E hT f2) hf (k := 0) (by omega)
  have e2' : R_X2_value d 8 0 _ = some (tL T 0 (zsv v a b t), m2) := e2
  rw [e2', Option.bind_some]
  dsimp only
  rw [R_X3_heldTo_eq, Option.bind_some]
  dsimp only
  have b3 := zB_all hB ha hb hab ht
  rw [zhd_c _ (by omega)]
  refine ⟨m2, rfl, zFr_t f2 (zE0_E f3), ?_⟩
  intro i c
  rw [f3.1 28 i (by unfold zE0; omega), hf i (by omega)]
  rcases c with rfl | rfl | rfl | rfl | rfl <;> rfl
end ZC
