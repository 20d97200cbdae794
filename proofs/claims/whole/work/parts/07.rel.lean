/-! the abstract machine's states over the machine's -/
abbrev MzG : Type := (Nat → ClassId) × (Nat → Nat → Nat) × (Nat → ClassId) × (Nat → Nat) × Nat
/-- 0 is the script, those from a million on are text constants -/
def mz_ad (g : MzG) (a : Nat) : Nat := if a = 0 then g.2.2.2.1 0 else if 1000000 ≤ a then g.2.2.2.1 (a - 1000000) else g.2.2.2.2 + a
def mz_up (g : MzG) : Value → Value
  | .ref a => .ref (mz_ad g a)
  | v => v
theorem mz_up_cat (g : MzG) (v : Value) : (mz_up g v).category = v.category := by cases v <;> rfl
theorem mz_up_sum (g : MzG) (st : List Value) : ((st.map (mz_up g)).map fun v => v.category).sum = (st.map fun v => v.category).sum := by
  rw [List.map_map]
  congr 1
  exact List.map_congr_left fun v _ => mz_up_cat g v
def mz_fv (g : MzG) (h : MzH) (a k kd : Nat) : Value := match kd with
  | 2 => va_rf ((h.1.2 a k).map (mz_ad g))
  | _ => .int (h.2.1 a k)
def mz_cell (g : MzG) (h : MzH) (a : Nat) (q : Nat × Nat) : va_E := match q.1 with
  | 0 => .inl (g.2.2.1 0, q.2, .inl (h.2.1 a))
  | 1 => .inl (g.2.2.1 1, q.2, .inl (h.2.1 a))
  | 2 => .inl (g.2.2.1 2, q.2, .inl (h.2.1 a))
  | 3 => .inl (g.2.2.1 3, q.2, .inl (h.2.1 a))
  | 4 => .inl (g.2.2.1 4, q.2, .inr (.inl (h.2.2 a)))
  | 5 => .inl (g.2.2.1 5, q.2, .inr (.inr (.inr (.inr fun i => (h.1.2 a i).map (mz_ad g)))))
  | t + 6 => .inr (t, (List.range q.2).map fun k => mz_fv g h a k (mz_fkd t k))
def mz_A (g : MzG) : Nat → Prop := fun q => g.2.2.2.2 < q
def mz_sz (S : MzS) : Nat := (S.1.map fun q => q.2).sum
def mz_tys (g : MzG) : List (ClassId × FieldType) := [(g.2.2.1 0, .int), (g.2.2.1 1, .boolean), (g.2.2.1 2, .byte), (g.2.2.1 3, .short), (g.2.2.1 4, .long), (g.2.2.1 5, .object RX6)]
def mz_hr (g : MzG) (X : MzX) (h : MzH) (U : State) (H : Heap) : Prop :=
  H.size = g.2.2.2.2 + h.1.1.length ∧ (g.2.2.2.1 0 ≤ g.2.2.2.2 ∧ h.1.1.length ≤ 900000) ∧ mz_tag h.1 0 = 99 ∧
  (∀ (a : Nat) (q : Nat × Nat), a ≠ 0 → h.1.1[a]? = some q → va_at (g.1, g.2.1) mzCl (g.2.2.2.2 + a, mz_cell g h a q) H) ∧
  (∀ a, h.1.1.length ≤ a → ∀ i, h.2.1 a i = 0 ∧ h.2.2 a i = 0 ∧ h.1.2 a i = none) ∧
  (∀ x, X = some x → va_X (g.2.2.2.1 0) x.2 x.1 U H)
def mz_lr (g : MzG) (L : MzL) (ls : Array Slot) (n : Nat) : Prop := L.length = n ∧ ls.size = n ∧ lv_wf ls ∧ ∀ (i : Nat) (v : Value), L[i]? = some (some v) → ls[i]? = some (.val (mz_up g v))
theorem mz_cell_congr {g : MzG} {h h' : MzH} {a : Nat} {q : Nat × Nat} (h1 : h'.2.1 a = h.2.1 a) (h2 : h'.2.2 a = h.2.2 a) (h3 : h'.1.2 a = h.1.2 a) : mz_cell g h' a q = mz_cell g h a q := by
  unfold mz_cell mz_fv
  rw [h1, h2, h3]
theorem mz_tag_at {h : MzS} {a t : Nat} (ht : mz_tag h a = t) (hn : t < 1000) : ∃ n, h.1[a]? = some (t, n) ∧ mz_len h a = n := by
  unfold mz_tag at ht
  unfold mz_len
  cases hq : h.1[a]? with
  | none => rw [hq] at ht; dsimp only at ht; omega
  | some q =>
    rw [hq] at ht
    dsimp only at ht
    exact ⟨q.2, by rw [← ht], rfl⟩
theorem mz_hr_upd {g : MzG} {X : MzX} {h h' : MzH} {U : State} {H H1 : Heap} {a : Nat} {q : Nat × Nat} (hh : mz_hr g X h U H) (ha : a ≠ 0) (hq : h.1.1[a]? = some q) (hsh : h'.1.1 = h.1.1)
    (ho : ∀ b, b ≠ a → h'.2.1 b = h.2.1 b ∧ h'.2.2 b = h.2.2 b ∧ h'.1.2 b = h.1.2 b) (hz : H1.size = H.size) (oq : ∀ p : Nat, p ≠ g.2.2.2.2 + a → H1[p]? = H[p]?)
    (hc : va_at (g.1, g.2.1) mzCl (g.2.2.2.2 + a, mz_cell g h' a q) H1) : mz_hr g X h' U H1 := by
  obtain ⟨h1, h2, h3, h4, h5, h6⟩ := hh
  have hal : a < h.1.1.length := (List.getElem?_eq_some_iff.mp hq).1
  refine ⟨by rw [hz, hsh]; exact h1, by rw [hsh]; exact h2, ?_, ?_, ?_, ?_⟩
  · unfold mz_tag at h3 ⊢
    rw [hsh]
    exact h3
  · intro b r hb hr
    rw [hsh] at hr
    by_cases e : b = a
    · subst e
      rw [hq] at hr
      cases hr
      exact hc
    · obtain ⟨e1, e2, e3⟩ := ho b e
      rw [mz_cell_congr e1 e2 e3]
      exact (h4 b r hb hr).kept (oq _ (by omega))
  · intro b hb i
    rw [hsh] at hb
    obtain ⟨e1, e2, e3⟩ := ho b (by omega)
    rw [e1, e2, e3]
    exact h5 b hb i
  · intro x hx
    exact (h6 x hx).kept (oq _ (by omega))
theorem mz_hr_new {g : MzG} {X : MzX} {h : MzH} {U : State} {H H1 : Heap} {t n : Nat} (hh : mz_hr g X h U H) (hb9 : h.1.1.length < 900000) (hz : H1.size = H.size + 1) (oq : ∀ p : Nat, p < H.size → H1[p]? = H[p]?)
    (hc : va_at (g.1, g.2.1) mzCl (H.size, mz_cell g h h.1.1.length (t, n)) H1) : mz_hr g X (mz_new h t n) U H1 := by
  obtain ⟨h1, h2, h3, h4, h5, h6⟩ := hh
  have hl0 : 0 < h.1.1.length := by
    obtain ⟨n, hn, -⟩ := mz_tag_at h3 (by decide)
    exact (List.getElem?_eq_some_iff.mp hn).1
  refine ⟨by rw [hz, h1]; simp [mz_new]; omega, ⟨h2.1, by simp [mz_new]; omega⟩, ?_, ?_, ?_, ?_⟩
  · unfold mz_tag at h3 ⊢
    simp only [mz_new]
    rw [List.getElem?_append_left hl0]
    exact h3
  · intro b r hb hr
    simp only [mz_new] at hr
    by_cases e : b < h.1.1.length
    · rw [List.getElem?_append_left e] at hr
      exact (h4 b r hb hr).kept (oq _ (by show g.2.2.2.2 + b < H.size; omega))
    · rw [List.getElem?_append_right (by omega)] at hr
      have hz : b - h.1.1.length < 1 := (List.getElem?_eq_some_iff.mp hr).1
      have hb : b = h.1.1.length := by omega
      subst hb
      rw [Nat.sub_self] at hr
      cases hr
      rw [← h1]
      exact hc
  · intro b hb i
    simp only [mz_new, List.length_append, List.length_cons, List.length_nil] at hb
    exact h5 b (by omega) i
  · intro x hx
    exact (h6 x hx).kept (oq _ (by rw [h1]; omega))
theorem mz_hr_moved {g : MzG} {X : MzX} {h : MzH} {u U : State} {H : Heap} (hvm : u.vm.Alike U.vm) (hh : mz_hr g X h u H) : mz_hr g X h U H := by
  obtain ⟨h1, h2, h3, h4, h5, h6⟩ := hh
  exact ⟨h1, h2, h3, h4, h5, fun x hx => (h6 x hx).moved hvm⟩
/-- locals: reading, storing, fewer known -/
def mz_prs (g : MzG) (L : MzL) : List (Nat × Value) := (List.range L.length).filterMap fun i => match L[i]? with
  | some (some v) => some (i, mz_up g v)
  | _ => none
theorem mz_prs_mem {g : MzG} {L : MzL} {q : Nat × Value} : q ∈ mz_prs g L ↔ ∃ v, L[q.1]? = some (some v) ∧ q.2 = mz_up g v := by
  unfold mz_prs
  rw [List.mem_filterMap]
  constructor
  · rintro ⟨i, -, hi⟩
    split at hi
    next v hv =>
      cases hi
      exact ⟨v, hv, rfl⟩
    next => cases hi
  · rintro ⟨v, h1, h2⟩
    refine ⟨q.1, List.mem_range.mpr (List.getElem?_eq_some_iff.mp h1).1, ?_⟩
    rw [h1]
    show some (q.1, mz_up g v) = some q
    rw [← h2]
theorem mz_lr_has {g : MzG} {L : MzL} {ls : Array Slot} {n : Nat} (h : mz_lr g L ls n) : lv_has ls n (mz_prs g L) := by
  refine ⟨h.2.1, h.2.2.1, fun q hq => ?_⟩
  obtain ⟨v, h1, h2⟩ := mz_prs_mem.mp hq
  rw [h2]
  exact h.2.2.2 _ _ h1
theorem mz_lr_s1 {g : MzG} {L L' : MzL} {ls ls' : Array Slot} {n i : Nat} {v : Value} (h : mz_lr g L ls n) (hs : mz_sl L i v = some L') (hl : lv_has ls' n ((i, mz_up g v) :: (mz_prs g L).filter (fun q => !(q.1 == i) && !(q.1 + 1 == i && q.2.category == 2)))) : mz_lr g L' ls' n ∧ i < n := by
  unfold mz_sl at hs
  split at hs
  next hc =>
    cases hs
    refine ⟨⟨by rw [List.length_set]; exact h.1, hl.1, hl.2.1, fun j w hj => ?_⟩, by rw [← h.1]; exact hc.1⟩
    by_cases e : j = i
    · subst e
      rw [List.getElem?_set_self hc.1] at hj
      cases hj
      exact hl.2.2 _ List.mem_cons_self
    · rw [List.getElem?_set_ne (Ne.symm e)] at hj
      refine hl.2.2 (j, mz_up g w) (List.mem_cons_of_mem _ (List.mem_filter.mpr ⟨mz_prs_mem.mpr ⟨w, hj, rfl⟩, ?_⟩))
      have hp := hc.2
      simp only [Bool.and_eq_true, Bool.not_eq_true', beq_eq_false_iff_ne, Bool.and_eq_false_iff, mz_up_cat]
      refine ⟨e, ?_⟩
      by_cases e2 : j + 1 = i
      · subst e2
        rw [mz_pl, hj] at hp
        exact Or.inr (by simpa using hp)
      · exact Or.inl e2
  next => cases hs
theorem mz_lr_s2 {g : MzG} {L L' : MzL} {ls ls' : Array Slot} {n i : Nat} {v : Value} (h : mz_lr g L ls n) (hs : mz_s2 L i v = some L') (hl : lv_has ls' n ((i, mz_up g v) :: (mz_prs g L).filter (fun q => !(q.1 == i) && (!(q.1 == i + 1) && !(q.1 + 1 == i && q.2.category == 2))))) : mz_lr g L' ls' n ∧ i + 1 < n := by
  unfold mz_s2 at hs
  split at hs
  next hc =>
    cases hs
    refine ⟨⟨by rw [List.length_set, List.length_set]; exact h.1, hl.1, hl.2.1, fun j w hj => ?_⟩, by rw [← h.1]; exact hc.1⟩
    by_cases e : j = i + 1
    · subst e
      rw [List.getElem?_set_self (by rw [List.length_set]; exact hc.1)] at hj
      cases hj
    rw [List.getElem?_set_ne (Ne.symm e)] at hj
    by_cases e1 : j = i
    · subst e1
      rw [List.getElem?_set_self (by omega)] at hj
      cases hj
      exact hl.2.2 _ List.mem_cons_self
    · rw [List.getElem?_set_ne (Ne.symm e1)] at hj
      refine hl.2.2 (j, mz_up g w) (List.mem_cons_of_mem _ (List.mem_filter.mpr ⟨mz_prs_mem.mpr ⟨w, hj, rfl⟩, ?_⟩))
      have hp := hc.2
      simp only [Bool.and_eq_true, Bool.not_eq_true', beq_eq_false_iff_ne, Bool.and_eq_false_iff, mz_up_cat]
      refine ⟨e1, e, ?_⟩
      by_cases e2 : j + 1 = i
      · subst e2
        rw [mz_pl, hj] at hp
        exact Or.inr (by simpa using hp)
      · exact Or.inl e2
  next => cases hs
theorem mz_mask_len : ∀ (bs : List Bool) (L : MzL), (mz_mask bs L).length = L.length := by
  intro bs
  induction bs with
  | nil => intro L; cases L <;> rfl
  | cons b bs ih =>
    intro L
    cases L with
    | nil => rfl
    | cons x L =>
      show ((match b with
        | true => x
        | false => none) :: mz_mask bs L).length = (x :: L).length
      rw [List.length_cons, List.length_cons, ih]
theorem mz_mask_at : ∀ (bs : List Bool) (L : MzL) (i : Nat) (v : Value), (mz_mask bs L)[i]? = some (some v) → L[i]? = some (some v) := by
  intro bs
  induction bs with
  | nil => intro L i v h; cases L <;> exact h
  | cons b bs ih =>
    intro L i v h
    cases L with
    | nil => exact h
    | cons x L =>
      replace h : ((bif b then x else none) :: mz_mask bs L)[i]? = some (some v) := by cases b <;> exact h
      cases i with
      | zero =>
        rw [List.getElem?_cons_zero] at h ⊢
        cases b with
        | true => exact h
        | false => cases h
      | succ i =>
        rw [List.getElem?_cons_succ] at h ⊢
        exact ih L i v h
theorem mz_lr_mask {g : MzG} {L : MzL} {ls : Array Slot} {n : Nat} (bs : List Bool) (h : mz_lr g L ls n) : mz_lr g (mz_mask bs L) ls n := ⟨by rw [mz_mask_len]; exact h.1, h.2.1, h.2.2.1, fun i v hi => h.2.2.2 i v (mz_mask_at bs L i v hi)⟩
theorem mz_lc_at (g : MzG) : ∀ (vs : List Value) (i : Nat) (v : Value), (mz_lc vs)[i]? = some (some v) → ∀ k, (k + i, mz_up g v) ∈ lv_args k (vs.map (mz_up g)) := by
  intro vs
  induction vs with
  | nil => intro i v h; simp [mz_lc] at h
  | cons x vs ih =>
    intro i v h k
    rw [List.map_cons, lv_args, mz_up_cat]
    rw [mz_lc] at h
    by_cases hc : x.category = 2
    · rw [if_pos hc] at h
      rw [if_pos hc]
      match i, h with
      | 0, h => cases h; exact List.mem_cons_self
      | 1, h => cases h
      | i + 2, h =>
        have := ih i v h (k + 2)
        rw [show k + (i + 2) = k + 2 + i by omega]
        exact List.mem_cons_of_mem _ this
    · rw [if_neg hc] at h
      rw [if_neg hc]
      match i, h with
      | 0, h => cases h; exact List.mem_cons_self
      | i + 1, h =>
        have := ih i v h (k + 1)
        rw [show k + (i + 1) = k + 1 + i by omega]
        exact List.mem_cons_of_mem _ this
theorem mz_lc_len (g : MzG) : ∀ vs : List Value, (lg_sl (vs.map (mz_up g))).length = (mz_lc vs).length := by
  intro vs
  induction vs with
  | nil => rfl
  | cons x vs ih =>
    rw [mz_lc, List.map_cons]
    unfold lg_sl at ih ⊢
    rw [List.flatMap_cons, List.length_append, ih, mz_up_cat]
    by_cases hc : x.category = 2
    · rw [if_pos hc, if_pos hc]; simp only [List.length_cons, List.length_nil]; omega
    · rw [if_neg hc, if_neg hc]; simp only [List.length_cons, List.length_nil]; omega
/-- the locals with which a method begins -/
theorem mz_lr_en {g : MzG} {vs : List Value} {n : Nat} (h : (mz_lc vs).length ≤ n) : mz_lr g (mz_en n vs) ((lg_sl (vs.map (mz_up g)) ++ List.replicate (n - (lg_sl (vs.map (mz_up g))).length) Slot.unset).toArray) n := by
  have h1 := lv_entry (vs.map (mz_up g)) (n := n) (by rw [mz_lc_len]; exact h)
  refine ⟨by unfold mz_en; rw [List.length_append, List.length_replicate]; omega, h1.1, h1.2.1, fun i v hi => ?_⟩
  unfold mz_en at hi
  by_cases hl : i < (mz_lc vs).length
  · rw [List.getElem?_append_left hl] at hi
    have := mz_lc_at g vs i v hi 0
    rw [Nat.zero_add] at this
    exact h1.2.2 _ this
  · rw [List.getElem?_append_right (by omega)] at hi
    have := List.eq_of_mem_replicate (List.mem_of_getElem? hi)
    cases this
