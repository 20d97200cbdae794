section MzHeap
variable {g : MzG} {X : MzX} {M n0 z0 : Nat} {p : Program} {l : Launch} {e : Env} {R : Room} {s : State} {m : MethodId} {args : Array Value} {below : List Frame} {meth : Method} {c : Code} {Q : State → Prop}
variable {pc : Nat} {L : MzL} {st : List Value} {h : MzH} {q : Nat × MzL × List Value × MzH}
theorem mz_get_inv {r : Nat × Nat × Nat} (H : mz_get r pc L st h = some (.inl q)) : ∃ a st', st = .ref a :: st' ∧ mz_tag h.1 a = 6 + r.1 ∧ r.2.1 < mz_len h.1 a ∧ ((r.2.2 = 2 ∧ ∃ b, h.1.2 a r.2.1 = some b ∧ q = (pc + 3, L, .ref b :: st', h)) ∨ (r.2.2 ≠ 2 ∧ q = (pc + 3, L, .int (h.2.1 a r.2.1) :: st', h))) := by
  unfold mz_get at H
  split at H
  next a st' =>
    split at H
    next hc =>
      refine ⟨a, st', rfl, hc.1, hc.2, ?_⟩
      split at H
      next e0 =>
        split at H
        next b hb => exact Or.inl ⟨e0, b, hb, mz_nx_inv H⟩
        next => cases H
      next e0 => exact Or.inr ⟨e0, mz_nx_inv H⟩
    next => cases H
  next => cases H
theorem mz_obj {H : Heap} {U : State} {a ci : Nat} (hh : mz_hr g X h U H) (ht : mz_tag h.1 a = 6 + ci) (hc : ci < 13) : a ≠ 0 ∧ h.1.1[a]? = some (6 + ci, mz_len h.1 a) ∧ va_at (g.1, g.2.1) mzCl (g.2.2.2.2 + a, .inr (ci, (List.range (mz_len h.1 a)).map fun k => mz_fv g h a k (mz_fkd ci k))) H := by
  obtain ⟨n, h1, h2⟩ := mz_tag_at ht (by omega)
  have ha := mz_ne0 hh ht (by omega)
  have h3 := hh.2.2.2.1 a _ ha h1
  refine ⟨ha, by rw [h2]; exact h1, ?_⟩
  rw [h2]
  rw [Nat.add_comm 6 ci] at h3
  exact h3
theorem mz_lt13 {ci : Nat} {r : vw_C} (h : mzCl[ci]? = some r) : ci < 13 := (List.getElem?_eq_some_iff.mp h).1
theorem mz_one {D : va_G} {cl : List vw_C} {x : Nat × va_E} {H : Heap} (h : va_at D cl x H) : va_P D cl [x] H := by
  intro k y hk
  cases k with
  | zero => cases hk; exact h
  | succ k => simp at hk
theorem mz_lt_len {H : Heap} {U : State} {a t : Nat} (hh : mz_hr g X h U H) (ht : mz_tag h.1 a = t) (hn : t < 1000) : a < 1000000 := by
  obtain ⟨n, h1, -⟩ := mz_tag_at ht hn
  have := (List.getElem?_eq_some_iff.mp h1).1
  have := hh.2.1.2
  omega
theorem mz_t_get (F : mz_fr g M p R s m args meth c) {i : Nat} {en : MzE} (hd : decode (mz_b M) pc = .ok (.getfield i, 3)) (hc : mz_rF (mz_c M) i en = true) (ha : mz_get en.2.2.2.1 pc L st h = some (.inl q)) (k : mz_K g X M n0 z0 p l e R s m args below meth c Q q) : mz_K g X M n0 z0 p l e R s m args below meth c Q (pc, L, st, h) := by
  obtain ⟨r, r1, r2, r3, r4, r5⟩ := mz_rF_ok hc
  obtain ⟨u1, u2, u3⟩ := mz_cls r1
  obtain ⟨a, st', rfl, t1, t2, t3⟩ := mz_get_inv ha
  intro ls H locs cells slots h1 h2 h3 h4 h5
  obtain ⟨a0, o1, o2⟩ := mz_obj h2 t1 (mz_lt13 r1)
  have hfs : ((List.range (mz_len h.1 a)).map fun k => mz_fv g h a k (mz_fkd en.2.2.2.1.1 k))[en.2.2.2.1.2.1]? = some (mz_fv g h a en.2.2.2.1.2.1 (mz_fkd en.2.2.2.1.1 en.2.2.2.1.2.1)) := by
    rw [List.getElem?_map, List.getElem?_range t2]; rfl
  have key : W p l e R s m args below meth c H locs cells slots Q (F0 m (pc + 3) ls (mz_fv g h a en.2.2.2.1.2.1 (mz_fkd en.2.2.2.1.1 en.2.2.2.1.2.1) :: st'.map (mz_up g))) := by
    rcases t3 with ⟨e0, b, hb, rfl⟩ | ⟨e0, rfl⟩
    · have := k ls H locs cells slots h1 h2 h3 h4 h5
      rw [← r4, e0]
      unfold mz_fv
      rw [hb]
      exact this
    · have := k ls H locs cells slots h1 h2 h3 h4 h5
      rw [← r4]
      unfold mz_fv
      split
      next e1 => exact absurd e1 e0
      next => exact this
  have hadd : mz_ad g a = g.2.2.2.2 + a := mz_ad_pos a0 (mz_lt_len h2 t1 (by have := mz_lt13 r1; omega))
  show W p l e R s m args below meth c H locs cells slots Q (F0 m pc ls (.ref (mz_ad g a) :: st'.map (mz_up g)))
  rw [hadd]
  rcases r5 with ⟨r5, -⟩ | ⟨r5, -⟩
  · exact va_get F.1 F.2.1 (ref := r.1) (C := r.1) (T := r.2.1) (N := r.2.2) F.2.2.2.2.1 (mz_U_in u1) F.2.2.2.1 F.2.2.2.2.2.2.2.1 (mz_one o2) 0 rfl r1 en.2.2.2.1.2.1 r2 (F.2.2.2.2.1 _ r5) (fun x hx => by rw [r3] at hx; exact hx) hfs hd key
  · exact va_getN F.1 F.2.1 (ref := r.1) (C := r.1) (T := r.2.1) (N := r.2.2) (host := "MincedCases") F.2.2.2.2.1 (mz_U_in u1) F.2.2.2.1 F.2.2.2.2.2.2.2.1 (mz_one o2) 0 rfl r1 en.2.2.2.1.2.1 r2 (va_Nw.use rfl (F.2.2.2.2.2.1 _ r5 rfl)) (fun x hx => by rw [r3] at hx; exact hx) hfs hd key
/-- a field is put: any of the three ways gives the new cell, the size, the rest -/
theorem mz_putW (F : mz_fr g M p R s m args meth c) {i : Nat} {en : MzE} (hd : decode (mz_b M) pc = .ok (.putfield i, 3)) (hc : mz_rF (mz_c M) i en = true) (hp : mz_rP (mz_c M) (decide ((mz_y M).name = "<init>")) en = true) {r : vw_C} (r1 : mzCl[en.2.2.2.1.1]? = some r) {ty : FieldType} (hty : parseFieldDescriptor (r.2.1 en.2.2.2.1.2.1).2.2.1 = some ty) {v : Value} (hn : narrow ty v = v) (hf : fits ty v = true)
    {H : Heap} {locs : List Loc} {cells slots a : Nat} {ls : Array Slot} {rest : List Value} {fs fs' : List Value} (o2 : va_at (g.1, g.2.1) mzCl (a, .inr (en.2.2.2.1.1, fs)) H) (hfs : ∀ j, updV (vp_V fs) en.2.2.2.1.2.1 v j = vp_V fs' j)
    (kk : ∀ (H1 : Heap) (f : Nat), va_at (g.1, g.2.1) mzCl (a, .inr (en.2.2.2.1.1, fs')) H1 → H1.size = H.size → (∀ p : Nat, p ≠ a → H1[p]? = H[p]?) → W p l e R s m args below meth c H1 (locs ++ [⟨a, f⟩]) cells slots Q (F0 m (pc + 3) ls rest)) :
    W p l e R s m args below meth c H locs cells slots Q (F0 m pc ls (v :: .ref a :: rest)) := by
  obtain ⟨r', r1', r2, r3, r4, r5⟩ := mz_rF_ok hc
  cases r1.symm.trans r1'
  obtain ⟨u1, u2, ty0, u3⟩ := mz_cls r1
  have hts := F.2.2.2.2.1
  have hin := mz_U_in u1
  have hK := F.2.2.2.2.2.2.2.1
  have hap := va_apart (own := mz_cnm (mz_c M)) hts hin ty0 u3 u2 hK r1
  obtain ⟨r'', h1, cell, q1, q2, q3, q4⟩ := o2
  have hr : r'' = r := Option.some.inj (h1.symm.trans r1)
  subst hr
  obtain ⟨hS, hfc, kC, hkC, hkind⟩ := hK.1 _ _ r1
  obtain ⟨cf, kf, fi, f, hi, hsl⟩ := hS _ r2
  have hlay := hts _ (hin _ (u_in_lay r2))
  have hst := (u_facts hfc hkC (u_lays hts hin r2) hi).1
  have hsame : s.fieldFound? r''.1 (r''.2.1 en.2.2.2.1.2.1).2.1 (r''.2.1 en.2.2.2.1.2.1).2.2.1 = some (cf, kf, fi, f) := by rw [← r3]; exact hi
  have fin : ∀ H' : Heap, H'[a]? = some (cell.setSlot f.slot v) → H'.size = H.size → (∀ q : Nat, q ≠ a → H'[q]? = H[q]?) → W p l e R s m args below meth c H' (locs ++ [⟨a, f.slot⟩]) cells slots Q (F0 m (pc + 3) ls rest) := by
    intro H' e1 e2 e3
    refine kk H' f.slot ⟨r'', r1, ?_⟩ e2 e3
    rw [hsl] at e1
    exact t_OB.to (V := updV (vp_V fs) en.2.2.2.1.2.1 v) ⟨_, e1, q2, q3, t_set q4 hap r2 v⟩ (fun j _ => hfs j)
  rcases mz_rP_ok hc hp r1 with hnf | ⟨hfi, hini, hdc, hz0⟩
  · unfold u_lay at hlay
    rw [if_neg (by rw [hnf]; decide)] at hlay
    have h6 := u_store hfc hkC hkind hlay hi hty hn hf
    rcases r5 with ⟨r5, -⟩ | ⟨r5, -⟩
    · exact W.putK F.1 F.2.1 (f := f) ⟨F.2.2.2.1, hts _ r5, ⟨_, _, _, hsame⟩, hst⟩ (by rw [q2]; exact h6) q1 q3 (by rw [hsl]; exact k2_hasslot (q4 _ r2)) rfl rfl hd fin
    · exact va_WputK F.1 F.2.1 (f := f) F.2.2.2.1 (va_Nw.use rfl (F.2.2.2.2.2.1 _ r5 rfl)) hsame hst (by rw [q2]; exact h6) q1 q3 (by rw [hsl]; exact k2_hasslot (q4 _ r2)) rfl rfl hd fin
  · unfold u_lay at hlay
    rw [if_pos hfi] at hlay
    have hcf : m.cls = cf := by
      obtain ⟨_, _, c', _, _, _, -, -, hf', -, -, -, hown2, -⟩ := Cond.laysFinal_spec hlay
      have e1 : c' = cf := by have := hi.symm.trans hf'; simp at this; exact this.1.symm
      rw [r3, hdc] at hown2
      rw [← e1]; exact Option.some.inj (F.2.2.2.1.symm.trans hown2)
    have h6 := u_fits hfc hkC hkind (Or.inr hlay) hi hty hn hf
    rcases r5 with ⟨r5, -⟩ | ⟨-, r6⟩
    · exact W.putFinK F.1 F.2.1 F.2.2.2.1 (hts _ r5) hsame hst hcf (F.2.2.2.2.2.2.2.2.2.1 (of_decide_eq_true hini)) (by rw [q2]; exact h6) q1 q3 (by rw [hsl]; exact k2_hasslot (q4 _ r2)) rfl rfl hd fin
    · unfold mz_rF at hc
      cases hq : mz_PF[en.2.2.1]? with
      | none => rw [hq] at hc; cases hc
      | some q => exact absurd (hz0 q hq) (r6 q hq)
theorem mz_put_inv {r : Nat × Nat × Nat} (H : mz_put r pc L st h = some (.inl q)) : (∃ v a st', st = .int v :: .ref a :: st' ∧ mz_tag h.1 a = 6 + r.1 ∧ r.2.1 < mz_len h.1 a ∧ (r.2.2 = 0 ∨ (r.2.2 = 1 ∧ (v = 0 ∨ v = 1))) ∧ q = (pc + 3, L, st', mz_setm h (mz_wr h.2 a r.2.1 v))) ∨
    (∃ v a st', st = .ref v :: .ref a :: st' ∧ mz_tag h.1 a = 6 + r.1 ∧ r.2.1 < mz_len h.1 a ∧ r.2.2 = 2 ∧ q = (pc + 3, L, st', ((h.1.1, mz_wq h.1.2 a r.2.1 v), h.2))) := by
  unfold mz_put at H
  split at H
  next v a st' =>
    split at H
    next hc => exact Or.inl ⟨v, a, st', rfl, hc.1, hc.2.1, hc.2.2, mz_nx_inv H⟩
    next => cases H
  next v a st' =>
    split at H
    next hc => exact Or.inr ⟨v, a, st', rfl, hc.1, hc.2.1, hc.2.2, mz_nx_inv H⟩
    next => cases H
  next => cases H
theorem mz_vpr (f : Nat → Value) (n k : Nat) (v : Value) (f' : Nat → Value) (hk : k < n) (h1 : f' k = v) (h2 : ∀ j, j ≠ k → f' j = f j) : ∀ j, updV (vp_V ((List.range n).map f)) k v j = vp_V ((List.range n).map f') j := by
  intro j
  unfold updV vp_V
  rw [List.getD_eq_getElem?_getD, List.getD_eq_getElem?_getD, List.getElem?_map, List.getElem?_map]
  by_cases e : j = k
  · subst e
    rw [if_pos rfl, List.getElem?_range hk]
    exact h1.symm
  · rw [if_neg e]
    by_cases hj : j < n
    · rw [List.getElem?_range hj]
      exact (h2 j e).symm
    · rw [List.getElem?_eq_none (by rw [List.length_range]; omega)]
      rfl
theorem mz_t_put (F : mz_fr g M p R s m args meth c) {i : Nat} {en : MzE} (hd : decode (mz_b M) pc = .ok (.putfield i, 3)) (hc : mz_rF (mz_c M) i en = true) (hp : mz_rP (mz_c M) (decide ((mz_y M).name = "<init>")) en = true) (ha : mz_put en.2.2.2.1 pc L st h = some (.inl q)) (k : mz_K g X M n0 z0 p l e R s m args below meth c Q q) : mz_K g X M n0 z0 p l e R s m args below meth c Q (pc, L, st, h) := by
  obtain ⟨r, r1, r2, r3, r4, -⟩ := mz_rF_ok hc
  obtain ⟨u1, -, -⟩ := mz_cls r1
  have hlt := mz_lt13 r1
  rcases mz_put_inv ha with ⟨v, a, st', rfl, t1, t2, t3, rfl⟩ | ⟨v, a, st', rfl, t1, t2, t3, rfl⟩
  · intro ls H locs cells slots h1 h2 h3 h4 h5
    obtain ⟨a0, o1, o2⟩ := mz_obj h2 t1 hlt
    have hadd : mz_ad g a = g.2.2.2.2 + a := mz_ad_pos a0 (mz_lt_len h2 t1 (by omega))
    have hkd : mz_fkd en.2.2.2.1.1 en.2.2.2.1.2.1 ≠ 2 := by rw [← r4]; rcases t3 with t | ⟨t, -⟩ <;> omega
    obtain ⟨ty, hty, hn, hf⟩ : ∃ ty, parseFieldDescriptor (r.2.1 en.2.2.2.1.2.1).2.2.1 = some ty ∧ narrow ty (.int v) = .int v ∧ fits ty (.int v) = true := by
      rcases mz_U_ty u1 r2 with ⟨y1, y2⟩ | ⟨y1, y2⟩ | ⟨y1, y2⟩
      · exact ⟨_, y2, rfl, rfl⟩
      · rcases t3 with t | ⟨t, hv⟩
        · rw [r4, y1] at t; omega
        · refine ⟨_, y2, ?_, ?_⟩
          · rcases hv with rfl | rfl <;> decide
          · rcases hv with rfl | rfl <;> decide
      · exact absurd y1 hkd
    show W p l e R s m args below meth c H locs cells slots Q (F0 m pc ls (.int v :: .ref (mz_ad g a) :: st'.map (mz_up g)))
    rw [hadd]
    refine mz_putW F hd hc hp r1 hty hn hf o2 (mz_vpr _ _ _ _ (fun j => mz_fv g (mz_setm h (mz_wr h.2 a en.2.2.2.1.2.1 v)) a j (mz_fkd en.2.2.2.1.1 j)) t2 ?_ ?_) (fun H1 f e1 e2 e3 => ?_)
    · unfold mz_fv
      split
      next e0 => exact absurd e0 hkd
      next =>
        show Value.int (if a = a ∧ en.2.2.2.1.2.1 = en.2.2.2.1.2.1 then v else _) = _
        rw [if_pos ⟨rfl, rfl⟩]
    · intro j hj
      unfold mz_fv
      split
      next => rfl
      next =>
        show Value.int (if a = a ∧ j = en.2.2.2.1.2.1 then v else _) = _
        rw [if_neg (fun z => hj z.2)]
    · refine k ls H1 _ cells slots h1 (mz_hr_upd h2 a0 o1 rfl (fun b hb => ⟨?_, rfl, rfl⟩) e2 e3 ?_) (mz_S_put h3 e2 e3 a0) h4 h5
      · funext j
        show (if b = a ∧ j = _ then v else h.2.1 b j) = _
        rw [if_neg (fun z => hb z.1)]
      · rw [Nat.add_comm 6]
        exact e1
  · intro ls H locs cells slots h1 h2 h3 h4 h5
    obtain ⟨a0, o1, o2⟩ := mz_obj h2 t1 hlt
    have hadd : mz_ad g a = g.2.2.2.2 + a := mz_ad_pos a0 (mz_lt_len h2 t1 (by omega))
    have hkd : mz_fkd en.2.2.2.1.1 en.2.2.2.1.2.1 = 2 := by rw [← r4]; exact t3
    obtain ⟨ty, hty, hn, hf⟩ : ∃ ty, parseFieldDescriptor (r.2.1 en.2.2.2.1.2.1).2.2.1 = some ty ∧ narrow ty (.ref (mz_ad g v)) = .ref (mz_ad g v) ∧ fits ty (.ref (mz_ad g v)) = true := by
      rcases mz_U_ty u1 r2 with ⟨y1, y2⟩ | ⟨y1, y2⟩ | ⟨y1, ty, y2, y3⟩
      · rw [hkd] at y1; omega
      · rw [hkd] at y1; omega
      · rcases y3 with ⟨n, rfl⟩ | ⟨t, rfl⟩
        · exact ⟨_, y2, rfl, rfl⟩
        · exact ⟨_, y2, rfl, rfl⟩
    show W p l e R s m args below meth c H locs cells slots Q (F0 m pc ls (.ref (mz_ad g v) :: .ref (mz_ad g a) :: st'.map (mz_up g)))
    rw [hadd]
    refine mz_putW F hd hc hp r1 hty hn hf o2 (mz_vpr _ _ _ _ (fun j => mz_fv g ((h.1.1, mz_wq h.1.2 a en.2.2.2.1.2.1 v), h.2) a j (mz_fkd en.2.2.2.1.1 j)) t2 ?_ ?_) (fun H1 f e1 e2 e3 => ?_)
    · rw [hkd]
      show va_rf (Option.map (mz_ad g) (if a = a ∧ en.2.2.2.1.2.1 = en.2.2.2.1.2.1 then some v else _)) = _
      rw [if_pos ⟨rfl, rfl⟩]
      rfl
    · intro j hj
      unfold mz_fv
      split
      next =>
        show va_rf (Option.map (mz_ad g) (if a = a ∧ j = en.2.2.2.1.2.1 then some v else h.1.2 a j)) = _
        rw [if_neg (fun z => hj z.2)]
      next => rfl
    · refine k ls H1 _ cells slots h1 (mz_hr_upd h2 a0 o1 rfl (fun b hb => ⟨rfl, rfl, ?_⟩) e2 e3 ?_) (mz_S_put h3 e2 e3 a0) h4 h5
      · funext j
        show (if b = a ∧ j = _ then some v else h.1.2 b j) = _
        rw [if_neg (fun z => hb z.1)]
      · rw [Nat.add_comm 6]
        exact e1
end MzHeap
