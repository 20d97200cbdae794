/-! rows of turns: the class's search -/
theorem zfm_n {α β : Type} {l : List α} {G : α → List β} {P : β → Bool} {j : Nat} {q : α} (h : l[j]? = some q) (h1 : ((l.take j).flatMap G).find? P = none) (h2 : (G q).find? P = none) : ((l.take (j + 1)).flatMap G).find? P = none := by
  rw [List.take_add_one, h, List.flatMap_append, List.find?_append, h1]
  simp [h2]
theorem zfm_s {α β : Type} {l : List α} {G : α → List β} {P : β → Bool} {j : Nat} {q : α} {z : β} (h : l[j]? = some q) (h1 : ((l.take j).flatMap G).find? P = none) (h2 : (G q).find? P = some z) : (l.flatMap G).find? P = some z := by
  have hj := zget_lt h
  have hq : l[j] = q := by rw [List.getElem?_eq_getElem hj] at h; exact Option.some.inj h
  have e : l = l.take j ++ q :: l.drop (j + 1) := by
    rw [← hq, ← List.drop_eq_getElem_cons hj, List.take_append_drop]
  rw [e, List.flatMap_append, List.find?_append, h1, List.flatMap_cons, List.find?_append, h2]
  rfl
theorem zwalk_0 (T : ZT) (v : Nat → Nat) : zwalk T v [] = v := rfl
theorem zwalk_c (T : ZT) (v : Nat → Nat) (a b : Nat) (w : List (Nat × Nat)) : zwalk T v ((a, b) :: w) = zwalk T (zturn T v a b) w := by
  unfold zwalk
  rw [List.foldl_cons]
theorem zw0 (np : Nat) (P : List (Nat × Nat) → Bool) : (zways np 0).find? P = if P [] = true then some [] else none := by
  show [([] : List (Nat × Nat))].find? P = _
  rw [List.find?_cons]
  cases P [] <;> rfl
def zgok (T : ZT) (g p q x : Nat) : Prop := (g = 0 ∧ p < 2 ^ 30 ∧ q < 2 ^ 30) ∨ (g = 1 ∧ p < tN T ∧ q < 4) ∨ (g = 2 ∧ p < tN T ∧ q < tN T)
def zFd (g p q x : Nat) (m : MzM) : Prop := mz_rd m 201 6 = nI g ∧ mz_rd m 201 7 = nI p ∧ mz_rd m 201 8 = nI q ∧ mz_rd m 201 9 = nI x
theorem zFd_f {g p q x : Nat} {m m' : MzM} (h : zFd g p q x m) (f : ∀ i, mz_rd m' 201 i = mz_rd m 201 i) : zFd g p q x m' := ⟨(f _).trans h.1, (f _).trans h.2.1, (f _).trans h.2.2.1, (f _).trans h.2.2.2⟩
def zDf (done a i : Nat) : Prop := zE a i ∨ (204 + 4 * (done + 1) ≤ a ∧ a ≤ 219) ∨ (a = 203 ∧ done ≤ i)
theorem zTC_D {T : ZT} {done : Nat} {m m' : MzM} (h : zTC T m) (f : zFr (zDf done) m m') : zTC T m' := zTC_f h (fun a i t => f.1 a i (by unfold zDf zE; unfold zTx at t; omega))
section ZRw
variable {T : ZT} {B g p q x : Nat}
theorem c_isSo {d s : Nat} {m : MzM} {v : Nat → Nat} (hg : zgok T g p q x) (hx : x < 2 ^ 30) (h1 : zTC T m) (hs : mz_isS s = true) (hF : zFd g p q x m) (h : zSC (tN T) m s v) (hB : zB (tN T) B v) : ∃ m', R_X5_isSo d s m = some (zb (zgoal T g p q x v), m') ∧ zFr zE m m' := by
  have h6 := h1.1.1
  have hB2 := hB.2.2.2
  obtain ⟨f1, f2, f3, f4⟩ := hF
  rw [R_X5_isSo_eq d s m hs, f1, f2, f3]
  rcases hg with ⟨rfl, -, -⟩ | ⟨rfl, hp, hq⟩ | ⟨rfl, hp, hq⟩
  · obtain ⟨m1, e1, r1⟩ := c_firstQuarrel (d := d) h1 hs h hB
    rw [if_neg (by decide), if_neg (by decide), e1, Option.bind_some]
    dsimp only
    refine ⟨m1, ?_, r1⟩
    show _ = some (zb (decide (zcnt T v (zprs (tN T)) = 0)), m1)
    unfold zfq
    cases hf : (zprs (tN T)).find? (fun q => zq T v q.1 q.2) with
    | none =>
      rw [decide_eq_true ((zcnt_0 T v _).mpr hf), if_neg (by decide)]
      rfl
    | some w =>
      obtain ⟨a, b⟩ := w
      have hm := List.mem_of_find?_eq_some hf
      obtain ⟨k, hk, hk2⟩ := List.mem_iff_getElem.mp hm
      have hin := zprs_in h6 (show (zprs (tN T))[k]? = some (a, b) by rw [List.getElem?_eq_getElem hk, hk2])
      have nz : ¬ zcnt T v (zprs (tN T)) = 0 := fun z => by rw [(zcnt_0 T v _).mp z] at hf; cases hf
      rw [decide_eq_false nz, if_pos (show ¬ zpn (some (a, b)) = -2 from z_ne2 (by omega))]
      rfl
  · have b1 := zB_a hB hp hq
    rw [if_pos (by decide), c_amount hs h h6 hp hq, Option.bind_some]
    dsimp only
    rw [f4]
    refine ⟨m, ?_, zFr_r⟩
    show _ = some (zb (decide (x ≤ v (4 * p + q))), m)
    by_cases c : v (4 * p + q) < x
    · rw [if_pos (nI_lt c (by omega)), decide_eq_false (by omega)]; rfl
    · rw [if_neg (nI_nlt (by omega) (by omega)), decide_eq_true (by omega)]; rfl
  · have b1 := zap_B hB hp hq
    rw [if_neg (by decide), if_pos (by decide), c_apart hs h h6 hB hp hq, Option.bind_some]
    dsimp only
    refine ⟨m, ?_, zFr_r⟩
    show _ = some (zb (decide (zap v p q = 0)), m)
    by_cases c : zap v p q = 0
    · rw [c, if_neg (by decide)]; rfl
    · rw [if_pos (nI_ne0 (by omega) (by omega)), decide_eq_false c]; rfl
theorem c_reach (hg : zgok T g p q x) (hx : x < 2 ^ 30) : ∀ (k done d : Nat) (v : Nat → Nat) (m : MzM), done + k ≤ 3 → k + 1 ≤ d → zTC T m → zFd g p q x m → zSC (tN T) m (204 + 4 * done) v → zB (tN T) B v → (∀ j, k = j + 1 → ∀ w, w ∈ zways (tN T) j → zgoal T g p q x (zwalk T v w) = false) → ∃ m', R_X5_reaches d (nI done) (nI (done + k)) m = some (zb ((zways (tN T) k).find? fun w => zgoal T g p q x (zwalk T v w)).isSome, m') ∧ zFr (zDf done) m m' ∧ ∀ w, ((zways (tN T) k).find? fun w => zgoal T g p q x (zwalk T v w)) = some w → ∀ i a b, w[i]? = some (a, b) → mz_rd m' 203 (done + i) = nI (10 * a + b) := by
  intro k
  induction k with
  | zero =>
    intro done d v m hd hdd h1 hF h hB hyp
    obtain ⟨d', rfl⟩ : ∃ d', d = d' + 1 := ⟨d - 1, by omega⟩
    obtain ⟨m1, e1, r1⟩ := c_isSo (d := d' + 1) hg hx h1 (isS_behind done (by omega)) hF h hB
    rw [R_X5_reaches_eq, if_pos (nI_le (by omega) (by omega)), n_ok (by omega), n_gd (by omega), nI_clamp (by omega), e1, Option.bind_some]
    dsimp only
    rw [zb_g]
    have uf : ((zways (tN T) 0).find? fun w => zgoal T g p q x (zwalk T v w)) = if zgoal T g p q x v = true then some [] else none := by
      rw [zw0, zwalk_0]
    rw [uf]
    refine ⟨m1, ?_, zFr_m r1 (fun a i z => Or.inl z), ?_⟩
    · cases zgoal T g p q x v <;> rfl
    · intro w hw i a b hi
      split at hw
      · cases hw
        simp at hi
      · cases hw
  | succ k ih =>
    intro done d v m hd hdd h1 hF h hB hyp
    obtain ⟨d', rfl⟩ : ∃ d', d = d' + 1 := ⟨d - 1, by omega⟩
    have h6 := h1.1.1
    have hB2 := hB.2.2.2
    have hyp0 := hyp k rfl
    have c3 : nI done < (3 : Int32) := nI_lt (b := 3) (by omega) (by omega)
    rw [R_X5_reaches_eq, if_neg (nI_ge (by omega) (by omega)), if_pos c3]
    have key := zlpP (tN T) h6 (fun a (y : MzM) => H_X5_reaches_23 (d' + 1) (nI done) (nI (done + (k + 1))) (nI a) y) (fun a b (y : MzM) => H_X5_reaches_39 (d' + 1) (nI done) (nI (done + (k + 1))) (nI a) (nI b) y) (fun r => r.1 = zb ((zways (tN T) (k + 1)).find? fun w => zgoal T g p q x (zwalk T v w)).isSome ∧ zFr (zDf done) m r.2 ∧ ∀ w, ((zways (tN T) (k + 1)).find? fun w => zgoal T g p q x (zwalk T v w)) = some w → ∀ i a b, w[i]? = some (a, b) → mz_rd r.2 203 (done + i) = nI (10 * a + b)) (fun j y => zFr (zDf done) m y ∧ (((zprs (tN T)).take j).flatMap fun q => (zways (tN T) k).map fun w => q :: w).find? (fun w => zgoal T g p q x (zwalk T v w)) = none) ?_ ?_ ?_ ?_ m ⟨zFr_r, rfl⟩
    · obtain ⟨⟨r1, r2⟩, e, rfl, f⟩ := key
      exact ⟨r2, e, f⟩
    · rintro a j y ha ⟨F, -⟩
      show H_X5_reaches_23 (d' + 1) _ _ (nI a) y = H_X5_reaches_39 (d' + 1) _ _ (nI a) (nI (a + 1)) y
      rw [H_X5_reaches_23_eq, (zTC_D h1 F).2.1, if_neg (nI_ge ha (by omega)), nI_1]
    · rintro a j y ha ⟨F, -⟩
      show H_X5_reaches_39 (d' + 1) _ _ (nI a) (nI (tN T)) y = H_X5_reaches_23 (d' + 1) _ _ (nI (a + 1)) y
      rw [H_X5_reaches_39_eq, (zTC_D h1 F).2.1, if_pos (nI_le (Nat.le_refl _) (by omega)), nI_1]
    · rintro a b j y hab hbn hq ⟨F, N⟩
      have ha : a < tN T := by omega
      have Ty := zTC_D h1 F
      have Fy : zFd g p q x y := zFd_f hF (fun i => F.1 201 i (by unfold zDf zE; omega))
      have Sy : zSC (tN T) y (204 + 4 * done) v := zSC_f h (fun c i z1 z2 => F.1 c i (by unfold zDf zE; omega))
      -- what the body does
      have f0 : zFr (zDf done) m (mz_wr y 203 done (nI (10 * a + b))) := zFr_w2 F (Or.inr (Or.inr ⟨rfl, Nat.le_refl _⟩))
      have S0 : zSC (tN T) (mz_wr y 203 done (nI (10 * a + b))) (204 + 4 * done) v := zSC_f Sy (fun c i z1 z2 => m_ne (by omega))
      obtain ⟨m2, e2, f2, g2⟩ := c_copy (d := d' + 1) (isS_behind (done + 1) (by omega)) (isS_behind done (by omega)) (by omega) S0
      have F2 : zFr (zDf done) m m2 := zFr_t f0 (zFr_m f2 (fun c i z => Or.inr (Or.inl (by omega))))
      obtain ⟨m3, e3, f3, g3⟩ := c_putThrough (d := d' + 1) (zTC_D h1 F2) (isS_behind (done + 1) (by omega)) g2 hB ha hbn (show a ≠ b by omega)
      have F3 : zFr (zDf done) m m3 := zFr_t F2 (zFr_m f3 (fun c i z => by
        rcases z with z | z
        · exact Or.inl z
        · exact Or.inr (Or.inl (by omega))))
      have Fd3 : zFd g p q x m3 := zFd_f hF (fun i => F3.1 201 i (by unfold zDf zE; omega))
      have B3 := zturn_B (T := T) hB h6 ha hbn (show a ≠ b by omega)
      obtain ⟨m4, e4, f4, r4⟩ := ih (done + 1) d' (zturn T v a b) m3 (by omega) (by omega) (zTC_D h1 F3) Fd3 g3 B3 (fun i hi w hw => by
        have : (a, b) :: w ∈ zways (tN T) k := by
          rw [hi]
          show (a, b) :: w ∈ (zprs (tN T)).flatMap fun q => (zways (tN T) i).map fun w => q :: w
          rw [List.mem_flatMap]
          exact ⟨(a, b), List.mem_of_getElem? hq, List.mem_map.mpr ⟨w, hw, rfl⟩⟩
        have y0 := hyp0 _ this
        rw [zwalk_c] at y0
        exact y0)
      have F4 : zFr (zDf done) m m4 := zFr_t F3 (zFr_m f4 (fun c i z => by
        rcases z with z | z | z
        · exact Or.inl z
        · exact Or.inr (Or.inl (by omega))
        · exact Or.inr (Or.inr ⟨z.1, by omega⟩)))
      have v203 : mz_rd m4 203 done = nI (10 * a + b) := by
        rw [f4.1 203 done (by unfold zDf zE; omega), f3.1 203 done (by unfold zES zE; omega), f2.1 203 done (by omega), m_eq]
      have gq : ((zways (tN T) k).map fun w => (a, b) :: w).find? (fun w => zgoal T g p q x (zwalk T v w)) = ((zways (tN T) k).find? fun w => zgoal T g p q x (zwalk T (zturn T v a b) w)).map fun w => (a, b) :: w := by
        have cc : ((fun w => zgoal T g p q x (zwalk T v w)) ∘ fun w => (a, b) :: w) = fun w => zgoal T g p q x (zwalk T (zturn T v a b) w) := by
          funext w
          show zgoal T g p q x (zwalk T v ((a, b) :: w)) = _
          rw [zwalk_c]
        rw [List.find?_map, cc]
      have e4' : R_X5_reaches d' (nI (done + 1)) (nI (done + (k + 1))) m3 = some (zb ((zways (tN T) k).find? fun w => zgoal T g p q x (zwalk T (zturn T v a b) w)).isSome, m4) := by
        rw [show done + (k + 1) = done + 1 + k by omega]
        exact e4
      have body : (R_X6_copyFrom (d' + 1) (204 + 4 * (done + 1)) (204 + 4 * done) (mz_wr y 203 done (nI (10 * a + b)))).bind (fun m17 => mz_g (decide (done + 1 < 4)) ((R_X3_putThrough (d' + 1) (204 + 4 * (done + 1)) (nI a) (nI b) m17).bind (fun m21 => (R_X5_reaches d' (nI (done + 1)) (nI (done + (k + 1))) m21).bind (fun u26 => if u26.1 = 0 then (H_X5_reaches_39 (d' + 1) (nI done) (nI (done + (k + 1))) (nI a) (nI (b + 1)) u26.2) else (some (1, u26.2)))))) = match ((zways (tN T) k).find? fun w => zgoal T g p q x (zwalk T (zturn T v a b) w)).isSome with
          | true => some (1, m4)
          | false => H_X5_reaches_39 (d' + 1) (nI done) (nI (done + (k + 1))) (nI a) (nI (b + 1)) m4 := by
        rw [e2, Option.bind_some, n_gd (show done + 1 < 4 by omega), e3, Option.bind_some, e4', Option.bind_some]
        dsimp only
        cases ((zways (tN T) k).find? fun w => zgoal T g p q x (zwalk T (zturn T v a b) w)).isSome <;> rfl
      -- the end of the body
      have fin : ∀ z, z = (match ((zways (tN T) k).find? fun w => zgoal T g p q x (zwalk T (zturn T v a b) w)).isSome with
          | true => some ((1 : Int32), m4)
          | false => H_X5_reaches_39 (d' + 1) (nI done) (nI (done + (k + 1))) (nI a) (nI (b + 1)) m4) → (∃ y', (zFr (zDf done) m y' ∧ (((zprs (tN T)).take (j + 1)).flatMap fun q => (zways (tN T) k).map fun w => q :: w).find? (fun w => zgoal T g p q x (zwalk T v w)) = none) ∧ z = H_X5_reaches_39 (d' + 1) (nI done) (nI (done + (k + 1))) (nI a) (nI (b + 1)) y') ∨ (∃ r, z = some r ∧ r.1 = zb ((zways (tN T) (k + 1)).find? fun w => zgoal T g p q x (zwalk T v w)).isSome ∧ zFr (zDf done) m r.2 ∧ ∀ w, ((zways (tN T) (k + 1)).find? fun w => zgoal T g p q x (zwalk T v w)) = some w → ∀ i a b, w[i]? = some (a, b) → mz_rd r.2 203 (done + i) = nI (10 * a + b)) := by
        intro z hz
        cases hf : (zways (tN T) k).find? (fun w => zgoal T g p q x (zwalk T (zturn T v a b) w)) with
        | none =>
          rw [hf] at hz gq
          exact Or.inl ⟨m4, ⟨F4, zfm_n hq N gq⟩, hz⟩
        | some w0 =>
          have hr := r4 w0 hf
          rw [hf] at hz gq
          have tot : ((zways (tN T) (k + 1)).find? fun w => zgoal T g p q x (zwalk T v w)) = some ((a, b) :: w0) := zfm_s hq N gq
          refine Or.inr ⟨(1, m4), hz, ?_, F4, ?_⟩
          · rw [tot]; rfl
          · intro w hw i c e hi
            rw [tot] at hw
            have hw := Option.some.inj hw
            subst hw
            cases i with
            | zero =>
              simp at hi
              obtain ⟨rfl, rfl⟩ := hi
              exact v203
            | succ i =>
              simp at hi
              have := hr i c e hi
              rw [show done + (i + 1) = done + 1 + i by omega]
              exact this
      show (∃ y', (zFr (zDf done) m y' ∧ (((zprs (tN T)).take (j + 1)).flatMap fun q => (zways (tN T) k).map fun w => q :: w).find? (fun w => zgoal T g p q x (zwalk T v w)) = none) ∧ H_X5_reaches_39 (d' + 1) (nI done) (nI (done + (k + 1))) (nI a) (nI b) y = H_X5_reaches_39 (d' + 1) (nI done) (nI (done + (k + 1))) (nI a) (nI (b + 1)) y') ∨ (∃ r, H_X5_reaches_39 (d' + 1) (nI done) (nI (done + (k + 1))) (nI a) (nI b) y = some r ∧ _)
      have gd : ∀ (r : Option (Int32 × MzM)), mz_g (mz_ok (nI done) 3) r = r := fun r => by rw [n_ok (by omega), n_gd (by omega)]
      have gd4 : ∀ (r : Option (Int32 × MzM)), mz_g (mz_ok (nI done) 4) r = r := fun r => by rw [n_ok (by omega), n_gd (by omega)]
      have gd5 : ∀ (r : Option (Int32 × MzM)), mz_g (decide (done + 1 < 4)) r = r := fun r => n_gd (by omega) r
      have ok1 : mz_ok (nI (done + 1)) 4 = decide (done + 1 < 4) := n_ok (by omega)
      by_cases c : 0 < k
      · refine fin (H_X5_reaches_39 (d' + 1) (nI done) (nI (done + (k + 1))) (nI a) (nI b) y) ?_
        · rw [H_X5_reaches_39_eq, Ty.2.1, if_neg (nI_ge hbn (by omega)), nI_1, nI_1, if_pos (nI_lt (by omega) (by omega)), gd, ok1, gd5, gd4, nI_clamp (show done + 1 < 2 ^ 31 by omega), nI_clamp (show done < 2 ^ 31 by omega), z_mul10, nI_add]
          exact body
      · have k0 : k = 0 := by omega
        -- the last turn
        have cm : R_X5_canMakeSo (d' + 1) (nI a) (nI b) y = some (zb (!decide (g = 1 ∧ a ≠ p ∧ b ≠ p)), y) := by
          have g31 : g < 2 ^ 31 := by rcases hg with z | z | z <;> omega
          have p31 : p < 2 ^ 31 := by rcases hg with z | z | z <;> omega
          rw [R_X5_canMakeSo_eq, Fy.1, Fy.2.1]
          by_cases q1 : g = 1
          · subst q1
            rw [if_neg (by decide)]
            by_cases q2 : a = p
            · rw [if_pos (show nI a = nI p by rw [q2]), decide_eq_false (fun z => z.2.1 q2)]; rfl
            · rw [if_neg (show ¬ nI a = nI p from fun z => q2 ((nI_eq (by omega) p31).mp z))]
              by_cases q3 : b = p
              · rw [if_neg (show ¬ ¬ nI b = nI p from fun z => z (by rw [q3])), decide_eq_false (fun z => z.2.2 q3)]; rfl
              · rw [if_pos (show ¬ nI b = nI p from fun z => q3 ((nI_eq (by omega) p31).mp z)), decide_eq_true (show 1 = 1 ∧ a ≠ p ∧ b ≠ p from ⟨rfl, q2, q3⟩)]; rfl
          · rw [if_pos (show ¬ nI g = (1 : Int32) from fun z => q1 ((nI_eq (a := g) (b := 1) g31 (by omega)).mp z)), decide_eq_false (fun z => q1 z.1)]; rfl
        by_cases pr : g = 1 ∧ a ≠ p ∧ b ≠ p
        · left
          refine ⟨y, ⟨F, zfm_n hq N ?_⟩, ?_⟩
          · rw [k0] at gq ⊢
            rw [gq]
            have gv := hyp0 [] (by rw [k0]; exact List.mem_cons_self)
            rw [zwalk_0] at gv
            have gt : zgoal T g p q x (zturn T v a b) = false := by
              rcases hg with z | z | z
              · omega
              · have e : zturn T v a b (4 * p + q) = v (4 * p + q) := zturn_o (by omega) (by omega) (by omega) (fun y => pr.2.1 y.symm) (fun y => pr.2.2 y.symm) z.2.2
                rw [z.1] at gv ⊢
                show decide (x ≤ zturn T v a b (4 * p + q)) = false
                rw [e]
                exact gv
              · omega
            rw [zw0, zwalk_0, gt]
            rfl
          · rw [H_X5_reaches_39_eq, Ty.2.1, if_neg (nI_ge hbn (by omega)), nI_1, nI_1, if_neg (nI_nlt (by omega) (by omega)), cm, decide_eq_true pr, Option.bind_some]
            rfl
        · refine fin (H_X5_reaches_39 (d' + 1) (nI done) (nI (done + (k + 1))) (nI a) (nI b) y) ?_
          · rw [H_X5_reaches_39_eq, Ty.2.1, if_neg (nI_ge hbn (by omega)), nI_1, nI_1, if_neg (nI_nlt (by omega) (by omega)), cm, decide_eq_false pr, Option.bind_some]
            dsimp only
            rw [Bool.not_false, zb_t0, gd, ok1, gd5, gd4, nI_clamp (show done + 1 < 2 ^ 31 by omega), nI_clamp (show done < 2 ^ 31 by omega), z_mul10, nI_add]
            exact body
    · rintro y ⟨F, N⟩
      rw [List.take_length] at N
      have tot : ((zways (tN T) (k + 1)).find? fun w => zgoal T g p q x (zwalk T v w)) = none := N
      show ∃ r, H_X5_reaches_23 (d' + 1) _ _ (nI (tN T)) y = some r ∧ _
      rw [H_X5_reaches_23_eq, (zTC_D h1 F).2.1, if_pos (nI_le (Nat.le_refl _) (by omega)), tot]
      exact ⟨_, rfl, rfl, F, fun w hw => by cases hw⟩
end ZRw
