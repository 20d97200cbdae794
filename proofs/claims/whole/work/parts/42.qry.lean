/-! who quarrels with whom: both sides over rows -/
theorem ztake {α β : Type} {l : List α} {k : Nat} {x : α} (h : l[k]? = some x) (f : β → α → β) (b : β) : (l.take (k + 1)).foldl f b = f ((l.take k).foldl f b) x := by
  rw [List.take_add_one, h]
  simp
theorem zfind {α : Type} {p : α → Bool} {x : α} : ∀ {l : List α} {k : Nat}, l[k]? = some x → (l.take k).find? p = none → p x = true → l.find? p = some x := by
  intro l
  induction l with
  | nil => intro k h; simp at h
  | cons y l ih =>
    intro k h h2 hp
    cases k with
    | zero =>
      simp at h
      subst h
      simp [hp]
    | succ k =>
      simp only [List.take_succ_cons, List.find?_cons] at h2 ⊢
      cases hy : p y with
      | true => rw [hy] at h2; simp at h2
      | false =>
        rw [hy] at h2
        simp at h
        exact ih h h2 hp
theorem zfind_n {α : Type} {p : α → Bool} {x : α} {l : List α} {k : Nat} (h : l[k]? = some x) (h2 : (l.take k).find? p = none) (hp : p x = false) : (l.take (k + 1)).find? p = none := by
  rw [List.take_add_one, h, List.find?_append, h2]
  simp [hp]
def zfo (T : ZT) (v : Nat → Nat) (p : Nat) : Nat → Int32
  | 0 => 0
  | o + 1 => if o ≠ p ∧ zq T v p o = true then zfo T v p o ||| ((1 : Int32) <<< (nI o &&& 31)) else zfo T v p o
def zcnt (T : ZT) (v : Nat → Nat) (l : List (Nat × Nat)) : Nat := l.foldl (fun n q => if zq T v q.1 q.2 = true then n + 1 else n) 0
def zpn (q : Option (Nat × Nat)) : Int32 := match q with
  | some (a, b) => nI (10 * a + b)
  | none => -2
def zfq (T : ZT) (v : Nat → Nat) : Option (Nat × Nat) := (zprs (tN T)).find? fun q => zq T v q.1 q.2
def zany (T : ZT) (v : Nat → Nat) (n : Nat) : Bool := (List.range n).any fun i => zq T v (tU T i 0) (tU T i 1)
theorem zany_s (T : ZT) (v : Nat → Nat) (n : Nat) : zany T v (n + 1) = (zany T v n || zq T v (tU T n 0) (tU T n 1)) := by
  unfold zany
  rw [List.range_succ]
  simp
theorem zany_t {T : ZT} {v : Nat → Nat} {n k : Nat} (hk : k < n) (h : zq T v (tU T k 0) (tU T k 1) = true) : zany T v n = true := by
  unfold zany
  exact List.any_eq_true.mpr ⟨k, List.mem_range.mpr hk, h⟩
section ZQ
variable {T : ZT} {s d a b B lv sd : Nat} {m : MzM} {v : Nat → Nat}

theorem c_foesOf (hT : zTC T m) (hs : mz_isS s = true) (h : zSC (tN T) m s v) (hB : zB (tN T) B v) (ha : a < tN T) : ∃ m', R_X3_foesOf d s (nI a) m = some (zfo T v a (tN T), m') ∧ zFr zE m m' := by
  have hn := hT.1.1
  rw [R_X3_foesOf_eq d s _ m hs]
  have key := zlp (fun k (x : Int32 × MzM) => H_X3_foesOf_5 d s (nI a) x.1 (nI k) x.2) (fun r => r.1 = zfo T v a (tN T) ∧ zFr zE m r.2) (fun k x => x.1 = zfo T v a k ∧ zFr zE m x.2) (tN T) ?_ ?_ 0 (0, m) (Nat.zero_le _) ⟨rfl, zFr_r⟩
  · obtain ⟨⟨r1, r2⟩, e, rfl, f⟩ := key
    exact ⟨r2, e, f⟩
  · rintro k ⟨y, x⟩ hk ⟨rfl, F⟩
    left
    have Tx := zTC_E hT F
    show ∃ z : Int32 × MzM, (z.1 = zfo T v a (k + 1) ∧ zFr zE m z.2) ∧ H_X3_foesOf_5 d s (nI a) (zfo T v a k) (nI k) x = H_X3_foesOf_5 d s (nI a) z.1 (nI (k + 1)) z.2
    rw [H_X3_foesOf_5_eq d s _ _ _ x hs, Tx.2.1, if_neg (nI_ge hk (by omega))]
    have uf : zfo T v a (k + 1) = if k ≠ a ∧ zq T v a k = true then zfo T v a k ||| ((1 : Int32) <<< (nI k &&& 31)) else zfo T v a k := rfl
    rw [uf]
    by_cases c : k = a
    · rw [if_pos (show nI k = nI a by rw [c]), if_neg (show ¬ (k ≠ a ∧ zq T v a k = true) from fun z => z.1 c), nI_1]
      exact ⟨(_, x), ⟨rfl, F⟩, rfl⟩
    · rw [if_neg (show ¬ nI k = nI a from fun z => c ((nI_eq (by omega) (by omega)).mp z))]
      obtain ⟨m1, e1, f1⟩ := c_quarrel (d := d) Tx hs (zSC_E h hs F) hB ha hk
      rw [e1, Option.bind_some]
      dsimp only
      rw [zb_if, nI_1]
      cases hq : zq T v a k with
      | false => exact ⟨(_, m1), ⟨by simp, zFr_t F f1⟩, rfl⟩
      | true => exact ⟨(_, m1), ⟨by rw [if_pos ⟨c, rfl⟩], zFr_t F f1⟩, rfl⟩
  · rintro ⟨y, x⟩ ⟨rfl, F⟩
    have Tx := zTC_E hT F
    show ∃ r, H_X3_foesOf_5 d s (nI a) (zfo T v a (tN T)) (nI (tN T)) x = some r ∧ _
    rw [H_X3_foesOf_5_eq d s _ _ _ x hs, Tx.2.1, if_pos (nI_le (Nat.le_refl _) (by omega))]
    exact ⟨_, rfl, rfl, F⟩
theorem r_foesOf (hT : zTR T lv m) (h : zRA (tN T) m 271 v) (hB : zB (tN T) B v) (ha : a < tN T) : ∃ m', R_X12_foesOf d (nI a) m = some (zfo T v a (tN T), m') ∧ zFr zRE m m' := by
  have hn := hT.1.1
  rw [R_X12_foesOf_eq]
  have key := zlp (fun k (x : Int32 × MzM) => H_X12_foesOf_4 d (nI a) x.1 (nI k) x.2) (fun r => r.1 = zfo T v a (tN T) ∧ zFr zRE m r.2) (fun k x => x.1 = zfo T v a k ∧ zFr zRE m x.2) (tN T) ?_ ?_ 0 (0, m) (Nat.zero_le _) ⟨rfl, zFr_r⟩
  · obtain ⟨⟨r1, r2⟩, e, rfl, f⟩ := key
    exact ⟨r2, e, f⟩
  · rintro k ⟨y, x⟩ hk ⟨rfl, F⟩
    left
    have Tx := zTR_E hT F
    obtain ⟨-, l2, l3, l4, -⟩ := id Tx
    show ∃ z : Int32 × MzM, (z.1 = zfo T v a (k + 1) ∧ zFr zRE m z.2) ∧ H_X12_foesOf_4 d (nI a) (zfo T v a k) (nI k) x = H_X12_foesOf_4 d (nI a) z.1 (nI (k + 1)) z.2
    rw [H_X12_foesOf_4_eq, l3, n_ok (by omega), n_gd l2, nI_clamp (by omega), l4, if_neg (nI_ge hk (by omega))]
    have uf : zfo T v a (k + 1) = if k ≠ a ∧ zq T v a k = true then zfo T v a k ||| ((1 : Int32) <<< (nI k &&& 31)) else zfo T v a k := rfl
    rw [uf]
    by_cases c : k = a
    · rw [if_pos (show nI a = nI k by rw [c]), if_neg (show ¬ (k ≠ a ∧ zq T v a k = true) from fun z => z.1 c), nI_1]
      exact ⟨(_, x), ⟨rfl, F⟩, rfl⟩
    · rw [if_neg (show ¬ nI a = nI k from fun z => c ((nI_eq (by omega) (by omega)).mp z.symm))]
      obtain ⟨m1, e1, f1⟩ := r_quarrel (d := d) Tx (zRA_E h F) hB ha hk
      rw [e1, Option.bind_some]
      dsimp only
      rw [zb_if, nI_1]
      cases hq : zq T v a k with
      | false => exact ⟨(_, m1), ⟨by simp, zFr_t F f1⟩, rfl⟩
      | true => exact ⟨(_, m1), ⟨by rw [if_pos ⟨c, rfl⟩], zFr_t F f1⟩, rfl⟩
  · rintro ⟨y, x⟩ ⟨rfl, F⟩
    obtain ⟨-, l2, l3, l4, -⟩ := zTR_E hT F
    show ∃ r, H_X12_foesOf_4 d (nI a) (zfo T v a (tN T)) (nI (tN T)) x = some r ∧ _
    rw [H_X12_foesOf_4_eq, l3, n_ok (by omega), n_gd l2, nI_clamp (by omega), l4, if_pos (nI_le (Nat.le_refl _) (by omega))]
    exact ⟨_, rfl, rfl, F⟩
theorem c_quarrels (hT : zTC T m) (hs : mz_isS s = true) (h : zSC (tN T) m s v) (hB : zB (tN T) B v) : ∃ m', R_X3_quarrels d s m = some (nI (zcnt T v (zprs (tN T))), m') ∧ zFr zE m m' := by
  have hn := hT.1.1
  rw [R_X3_quarrels_eq d s m hs]
  have key := zlpP (tN T) hn (fun a (x : Nat × MzM) => H_X3_quarrels_4 d s (nI x.1) (nI a) x.2) (fun a b (x : Nat × MzM) => H_X3_quarrels_20 d s (nI x.1) (nI a) (nI b) x.2) (fun r => r.1 = nI (zcnt T v (zprs (tN T))) ∧ zFr zE m r.2) (fun k x => x.1 = zcnt T v ((zprs (tN T)).take k) ∧ zFr zE m x.2) ?_ ?_ ?_ ?_ (0, m) ⟨rfl, zFr_r⟩
  · obtain ⟨⟨r1, r2⟩, e, rfl, f⟩ := key
    exact ⟨r2, e, f⟩
  · rintro a k ⟨y, x⟩ ha ⟨-, F⟩
    show H_X3_quarrels_4 d s (nI y) (nI a) x = H_X3_quarrels_20 d s (nI y) (nI a) (nI (a + 1)) x
    rw [H_X3_quarrels_4_eq d s _ _ x hs, (zTC_E hT F).2.1, if_neg (nI_ge ha (by omega)), nI_1]
  · rintro a k ⟨y, x⟩ ha ⟨-, F⟩
    show H_X3_quarrels_20 d s (nI y) (nI a) (nI (tN T)) x = H_X3_quarrels_4 d s (nI y) (nI (a + 1)) x
    rw [H_X3_quarrels_20_eq d s _ _ _ x hs, (zTC_E hT F).2.1, if_pos (nI_le (Nat.le_refl _) (by omega)), nI_1]
  · rintro a b k ⟨y, x⟩ hab hb hk ⟨rfl, F⟩
    left
    have Tx := zTC_E hT F
    show ∃ z : Nat × MzM, (z.1 = zcnt T v ((zprs (tN T)).take (k + 1)) ∧ zFr zE m z.2) ∧ H_X3_quarrels_20 d s (nI (zcnt T v ((zprs (tN T)).take k))) (nI a) (nI b) x = H_X3_quarrels_20 d s (nI z.1) (nI a) (nI (b + 1)) z.2
    obtain ⟨m1, e1, f1⟩ := c_quarrel (d := d) (a := a) (b := b) Tx hs (zSC_E h hs F) hB (by omega) hb
    rw [H_X3_quarrels_20_eq d s _ _ _ x hs, Tx.2.1, if_neg (nI_ge hb (by omega)), e1, Option.bind_some]
    dsimp only
    have uf : zcnt T v ((zprs (tN T)).take (k + 1)) = if zq T v a b = true then zcnt T v ((zprs (tN T)).take k) + 1 else zcnt T v ((zprs (tN T)).take k) := ztake hk _ _
    rw [zb_if, nI_1, nI_1, Int32.add_zero, uf]
    cases hq : zq T v a b with
    | false => exact ⟨(_, m1), ⟨rfl, zFr_t F f1⟩, rfl⟩
    | true => exact ⟨(_, m1), ⟨rfl, zFr_t F f1⟩, rfl⟩
  · rintro ⟨y, x⟩ ⟨rfl, F⟩
    show ∃ r, H_X3_quarrels_4 d s (nI (zcnt T v ((zprs (tN T)).take (zprs (tN T)).length))) (nI (tN T)) x = some r ∧ _
    rw [H_X3_quarrels_4_eq d s _ _ x hs, (zTC_E hT F).2.1, if_pos (nI_le (Nat.le_refl _) (by omega)), List.take_length]
    exact ⟨_, rfl, rfl, F⟩
theorem r_quarrels (hT : zTR T lv m) (h : zRA (tN T) m 271 v) (hB : zB (tN T) B v) : ∃ m', R_X12_quarrelMany d m = some (nI (zcnt T v (zprs (tN T))), m') ∧ zFr zRE m m' := by
  have hn := hT.1.1
  rw [R_X12_quarrelMany_eq]
  have key := zlpP (tN T) hn (fun a (x : Nat × MzM) => H_X12_quarrelMany_4 d (nI x.1) (nI a) x.2) (fun a b (x : Nat × MzM) => H_X12_quarrelMany_21 d (nI x.1) (nI a) (nI b) x.2) (fun r => r.1 = nI (zcnt T v (zprs (tN T))) ∧ zFr zRE m r.2) (fun k x => x.1 = zcnt T v ((zprs (tN T)).take k) ∧ zFr zRE m x.2) ?_ ?_ ?_ ?_ (0, m) ⟨rfl, zFr_r⟩
  · obtain ⟨⟨r1, r2⟩, e, rfl, f⟩ := key
    exact ⟨r2, e, f⟩
  · rintro a k ⟨y, x⟩ ha ⟨-, F⟩
    obtain ⟨-, l2, l3, l4, -⟩ := zTR_E hT F
    show H_X12_quarrelMany_4 d (nI y) (nI a) x = H_X12_quarrelMany_21 d (nI y) (nI a) (nI (a + 1)) x
    rw [H_X12_quarrelMany_4_eq, l3, n_ok (by omega), n_gd l2, nI_clamp (by omega), l4, if_neg (nI_ge ha (by omega)), nI_1]
  · rintro a k ⟨y, x⟩ ha ⟨-, F⟩
    obtain ⟨-, l2, l3, l4, -⟩ := zTR_E hT F
    show H_X12_quarrelMany_21 d (nI y) (nI a) (nI (tN T)) x = H_X12_quarrelMany_4 d (nI y) (nI (a + 1)) x
    rw [H_X12_quarrelMany_21_eq, l3, n_ok (by omega), n_gd l2, nI_clamp (by omega), l4, if_pos (nI_le (Nat.le_refl _) (by omega)), nI_1]
  · rintro a b k ⟨y, x⟩ hab hb hk ⟨rfl, F⟩
    left
    have Tx := zTR_E hT F
    obtain ⟨-, l2, l3, l4, -⟩ := id Tx
    show ∃ z : Nat × MzM, (z.1 = zcnt T v ((zprs (tN T)).take (k + 1)) ∧ zFr zRE m z.2) ∧ H_X12_quarrelMany_21 d (nI (zcnt T v ((zprs (tN T)).take k))) (nI a) (nI b) x = H_X12_quarrelMany_21 d (nI z.1) (nI a) (nI (b + 1)) z.2
    obtain ⟨m1, e1, f1⟩ := r_quarrel (d := d) (a := a) (b := b) Tx (zRA_E h F) hB (by omega) hb
    rw [H_X12_quarrelMany_21_eq, l3, n_ok (by omega), n_gd l2, nI_clamp (by omega), l4, if_neg (nI_ge hb (by omega)), e1, Option.bind_some]
    dsimp only
    have uf : zcnt T v ((zprs (tN T)).take (k + 1)) = if zq T v a b = true then zcnt T v ((zprs (tN T)).take k) + 1 else zcnt T v ((zprs (tN T)).take k) := ztake hk _ _
    rw [zb_if, nI_1, nI_1, uf]
    cases hq : zq T v a b with
    | false => exact ⟨(_, m1), ⟨rfl, zFr_t F f1⟩, rfl⟩
    | true => exact ⟨(_, m1), ⟨rfl, zFr_t F f1⟩, rfl⟩
  · rintro ⟨y, x⟩ ⟨rfl, F⟩
    obtain ⟨-, l2, l3, l4, -⟩ := zTR_E hT F
    show ∃ r, H_X12_quarrelMany_4 d (nI (zcnt T v ((zprs (tN T)).take (zprs (tN T)).length))) (nI (tN T)) x = some r ∧ _
    rw [H_X12_quarrelMany_4_eq, l3, n_ok (by omega), n_gd l2, nI_clamp (by omega), l4, if_pos (nI_le (Nat.le_refl _) (by omega)), List.take_length]
    exact ⟨_, rfl, rfl, F⟩
theorem c_firstQuarrel (hT : zTC T m) (hs : mz_isS s = true) (h : zSC (tN T) m s v) (hB : zB (tN T) B v) : ∃ m', R_X3_firstQuarrel d s m = some (zpn (zfq T v), m') ∧ zFr zE m m' := by
  have hn := hT.1.1
  rw [R_X3_firstQuarrel_eq d s m hs]
  have key := zlpP (tN T) hn (fun a (x : MzM) => H_X3_firstQuarrel_2 d s (nI a) x) (fun a b (x : MzM) => H_X3_firstQuarrel_17 d s (nI a) (nI b) x) (fun r => r.1 = zpn (zfq T v) ∧ zFr zE m r.2) (fun k x => ((zprs (tN T)).take k).find? (fun q => zq T v q.1 q.2) = none ∧ zFr zE m x) ?_ ?_ ?_ ?_ m ⟨rfl, zFr_r⟩
  · obtain ⟨⟨r1, r2⟩, e, rfl, f⟩ := key
    exact ⟨r2, e, f⟩
  · rintro a k x ha ⟨-, F⟩
    show H_X3_firstQuarrel_2 d s (nI a) x = H_X3_firstQuarrel_17 d s (nI a) (nI (a + 1)) x
    rw [H_X3_firstQuarrel_2_eq d s _ x hs, (zTC_E hT F).2.1, if_neg (nI_ge ha (by omega)), nI_1]
  · rintro a k x ha ⟨-, F⟩
    show H_X3_firstQuarrel_17 d s (nI a) (nI (tN T)) x = H_X3_firstQuarrel_2 d s (nI (a + 1)) x
    rw [H_X3_firstQuarrel_17_eq d s _ _ x hs, (zTC_E hT F).2.1, if_pos (nI_le (Nat.le_refl _) (by omega)), nI_1]
  · rintro a b k x hab hb hk ⟨P, F⟩
    have Tx := zTC_E hT F
    obtain ⟨m1, e1, f1⟩ := c_quarrel (d := d) (a := a) (b := b) Tx hs (zSC_E h hs F) hB (by omega) hb
    show (∃ y, (((zprs (tN T)).take (k + 1)).find? (fun q => zq T v q.1 q.2) = none ∧ zFr zE m y) ∧ H_X3_firstQuarrel_17 d s (nI a) (nI b) x = H_X3_firstQuarrel_17 d s (nI a) (nI (b + 1)) y) ∨ (∃ r, H_X3_firstQuarrel_17 d s (nI a) (nI b) x = some r ∧ _)
    rw [H_X3_firstQuarrel_17_eq d s _ _ x hs, Tx.2.1, if_neg (nI_ge hb (by omega)), e1, Option.bind_some]
    dsimp only
    rw [zb_if, nI_1, z_mul10, nI_add]
    cases hq : zq T v a b with
    | false => exact Or.inl ⟨m1, ⟨zfind_n hk P hq, zFr_t F f1⟩, rfl⟩
    | true => exact Or.inr ⟨_, rfl, by show nI (10 * a + b) = zpn (zfq T v); unfold zfq; rw [zfind hk P hq]; rfl, zFr_t F f1⟩
  · rintro x ⟨P, F⟩
    rw [List.take_length] at P
    show ∃ r, H_X3_firstQuarrel_2 d s (nI (tN T)) x = some r ∧ _
    rw [H_X3_firstQuarrel_2_eq d s _ x hs, (zTC_E hT F).2.1, if_pos (nI_le (Nat.le_refl _) (by omega))]
    exact ⟨_, rfl, by show (-2 : Int32) = zpn (zfq T v); unfold zfq; rw [P]; rfl, F⟩
theorem c_any (hT : zTC T m) (hs : mz_isS s = true) (h : zSC (tN T) m s v) (hB : zB (tN T) B v) : ∃ m', R_X3_anySuitQuarrels d s m = some (zb (zany T v (tS T)), m') ∧ zFr zE m m' := by
  have h8 := hT.1.2.1
  rw [R_X3_anySuitQuarrels_eq d s m hs]
  have key := zlp (fun k x => H_X3_anySuitQuarrels_2 d s (nI k) x) (fun r => r.1 = zb (zany T v (tS T)) ∧ zFr zE m r.2) (fun k x => zany T v k = false ∧ zFr zE m x) (tS T) ?_ ?_ 0 m (Nat.zero_le _) ⟨rfl, zFr_r⟩
  · obtain ⟨⟨r1, r2⟩, e, rfl, f⟩ := key
    exact ⟨r2, e, f⟩
  · rintro k x hk ⟨P, F⟩
    have Tx := zTC_E hT F
    obtain ⟨w1, w2, w3, -⟩ := hT.1.2.2.1 k hk
    have e0 : R_X8_suitPart d 4 (nI k) 0 x = _ := c_suitPart (j := 0) Tx hk (by omega)
    have e1 : R_X8_suitPart d 4 (nI k) 1 x = _ := c_suitPart (j := 1) Tx hk (by omega)
    obtain ⟨m1, e3, f3⟩ := c_quarrel (d := d) Tx hs (zSC_E h hs F) hB w1 w2
    show (∃ y, (zany T v (k + 1) = false ∧ zFr zE m y) ∧ H_X3_anySuitQuarrels_2 d s (nI k) x = H_X3_anySuitQuarrels_2 d s (nI (k + 1)) y) ∨ (∃ r, H_X3_anySuitQuarrels_2 d s (nI k) x = some r ∧ _)
    rw [H_X3_anySuitQuarrels_2_eq d s _ x hs, Tx.2.2.1, if_neg (nI_ge hk (by omega)), e0, Option.bind_some]
    dsimp only
    rw [e1, Option.bind_some]
    dsimp only
    rw [e3, Option.bind_some]
    dsimp only
    rw [zb_if, nI_1]
    cases hq : zq T v (tU T k 0) (tU T k 1) with
    | false => exact Or.inl ⟨m1, ⟨by rw [zany_s, P, hq]; rfl, zFr_t F f3⟩, rfl⟩
    | true => exact Or.inr ⟨_, rfl, by rw [zany_t hk hq]; rfl, zFr_t F f3⟩
  · rintro x ⟨P, F⟩
    show ∃ r, H_X3_anySuitQuarrels_2 d s (nI (tS T)) x = some r ∧ _
    rw [H_X3_anySuitQuarrels_2_eq d s _ x hs, (zTC_E hT F).2.2.1, if_pos (nI_le (Nat.le_refl _) (by omega))]
    exact ⟨_, rfl, by rw [P]; rfl, F⟩
theorem r_ended (hT : zTR T lv m) (h : zRA (tN T) m 271 v) (hB : zB (tN T) B v) : ∃ m', R_X12_isEnded d m = some (zb (!zany T v (tS T)), m') ∧ zFr zRE m m' := by
  have h8 := hT.1.2.1
  rw [R_X12_isEnded_eq]
  have key := zlp (fun k x => H_X12_isEnded_2 d (nI k) x) (fun r => r.1 = zb (!zany T v (tS T)) ∧ zFr zRE m r.2) (fun k x => zany T v k = false ∧ zFr zRE m x) (tS T) ?_ ?_ 0 m (Nat.zero_le _) ⟨rfl, zFr_r⟩
  · obtain ⟨⟨r1, r2⟩, e, rfl, f⟩ := key
    exact ⟨r2, e, f⟩
  · rintro k x hk ⟨P, F⟩
    have Tx := zTR_E hT F
    obtain ⟨w1, w2, w3, -⟩ := hT.1.2.2.1 k hk
    obtain ⟨-, l2, l3, -, l5, l6, -⟩ := id Tx
    obtain ⟨s0, s1, -, -⟩ := l6 k hk
    obtain ⟨m1, e3, f3⟩ := r_quarrel (d := d) Tx (zRA_E h F) hB w1 w2
    show (∃ y, (zany T v (k + 1) = false ∧ zFr zRE m y) ∧ H_X12_isEnded_2 d (nI k) x = H_X12_isEnded_2 d (nI (k + 1)) y) ∨ (∃ r, H_X12_isEnded_2 d (nI k) x = some r ∧ _)
    rw [H_X12_isEnded_2_eq, l3, n_ok (by omega), n_gd l2, nI_clamp (by omega), l5, if_neg (nI_ge hk (by omega)), z_mul8, nI_add, n_ok (by omega), n_gd (by omega), n_gd (by omega), nI_clamp (by omega), s0, s1, e3, Option.bind_some]
    dsimp only
    rw [zb_if, nI_1]
    cases hq : zq T v (tU T k 0) (tU T k 1) with
    | false => exact Or.inl ⟨m1, ⟨by rw [zany_s, P, hq]; rfl, zFr_t F f3⟩, rfl⟩
    | true => exact Or.inr ⟨_, rfl, by rw [zany_t hk hq]; rfl, zFr_t F f3⟩
  · rintro x ⟨P, F⟩
    obtain ⟨-, l2, l3, -, l5, -⟩ := zTR_E hT F
    show ∃ r, H_X12_isEnded_2 d (nI (tS T)) x = some r ∧ _
    rw [H_X12_isEnded_2_eq, l3, n_ok (by omega), n_gd l2, nI_clamp (by omega), l5, if_pos (nI_le (Nat.le_refl _) (by omega))]
    exact ⟨_, rfl, by rw [P]; rfl, F⟩
end ZQ
