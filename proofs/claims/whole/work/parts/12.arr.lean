section MzArr
variable {g : MzG} {X : MzX} {M n0 z0 : Nat} {p : Program} {l : Launch} {e : Env} {R : Room} {s : State} {m : MethodId} {args : Array Value} {below : List Frame} {meth : Method} {c : Code} {Q : State → Prop}
variable {pc : Nat} {L : MzL} {st : List Value} {h : MzH} {q : Nat × MzL × List Value × MzH}
theorem mz_adT {H : Heap} {U : State} {a t : Nat} (hh : mz_hr g X h U H) (ht : mz_tag h.1 a = t) (hn : t < 99) : a ≠ 0 ∧ mz_ad g a = g.2.2.2.2 + a := by
  have ha := mz_ne0 hh ht (by omega)
  exact ⟨ha, mz_ad_pos ha (mz_lt_len hh ht (by omega))⟩
theorem mz_t_iald (F : mz_fr g M p R s m args meth c) (hd : decode (mz_b M) pc = .ok (.iaload, 1)) (ha : mz_ld 0 0 pc L st h = some (.inl q)) (k : mz_K g X M n0 z0 p l e R s m args below meth c Q q) : mz_K g X M n0 z0 p l e R s m args below meth c Q (pc, L, st, h) := by
  obtain ⟨i, a, st', rfl, t1, t2, rfl⟩ := mz_ld_inv ha
  have t1 : mz_tag h.1 a = 0 := by rcases t1 with t | t <;> exact t
  intro ls H locs cells slots h1 h2 h3 h4 h5
  obtain ⟨a0, a1⟩ := mz_adT h2 t1 (by omega)
  show W p l e R s m args below meth c H locs cells slots Q (F0 m pc ls (.int i :: .ref (mz_ad g a) :: st'.map (mz_up g)))
  rw [a1]
  exact va_iald F.1 F.2.1 F.2.2.2.2.2.2.2.1 (mz_arr h2 a0 t1 (by omega)) 0 0 rfl rfl t2 hd (k ls H locs cells slots h1 h2 h3 h4 h5)
theorem mz_t_bald (F : mz_fr g M p R s m args meth c) (hd : decode (mz_b M) pc = .ok (.baload, 1)) (ha : mz_ld 1 2 pc L st h = some (.inl q)) (k : mz_K g X M n0 z0 p l e R s m args below meth c Q q) : mz_K g X M n0 z0 p l e R s m args below meth c Q (pc, L, st, h) := by
  obtain ⟨i, a, st', rfl, t1, t2, rfl⟩ := mz_ld_inv ha
  intro ls H locs cells slots h1 h2 h3 h4 h5
  show W p l e R s m args below meth c H locs cells slots Q (F0 m pc ls (.int i :: .ref (mz_ad g a) :: st'.map (mz_up g)))
  rcases t1 with t1 | t1
  · obtain ⟨a0, a1⟩ := mz_adT h2 t1 (by omega)
    rw [a1]
    exact va_zald F.1 F.2.1 F.2.2.2.2.2.2.2.1 (mz_arr h2 a0 t1 (by omega)) 0 1 rfl rfl t2 hd (k ls H locs cells slots h1 h2 h3 h4 h5)
  · obtain ⟨a0, a1⟩ := mz_adT h2 t1 (by omega)
    rw [a1]
    exact va_bald F.1 F.2.1 F.2.2.2.2.2.2.2.1 (mz_arr h2 a0 t1 (by omega)) 0 2 rfl rfl t2 hd (k ls H locs cells slots h1 h2 h3 h4 h5)
theorem mz_t_sald (F : mz_fr g M p R s m args meth c) (hd : decode (mz_b M) pc = .ok (.saload, 1)) (ha : mz_ld 3 3 pc L st h = some (.inl q)) (k : mz_K g X M n0 z0 p l e R s m args below meth c Q q) : mz_K g X M n0 z0 p l e R s m args below meth c Q (pc, L, st, h) := by
  obtain ⟨i, a, st', rfl, t1, t2, rfl⟩ := mz_ld_inv ha
  have t1 : mz_tag h.1 a = 3 := by rcases t1 with t | t <;> exact t
  intro ls H locs cells slots h1 h2 h3 h4 h5
  obtain ⟨a0, a1⟩ := mz_adT h2 t1 (by omega)
  show W p l e R s m args below meth c H locs cells slots Q (F0 m pc ls (.int i :: .ref (mz_ad g a) :: st'.map (mz_up g)))
  rw [a1]
  exact va_sald F.1 F.2.1 F.2.2.2.2.2.2.2.1 (mz_arr h2 a0 t1 (by omega)) 0 3 rfl rfl t2 hd (k ls H locs cells slots h1 h2 h3 h4 h5)
/-- the script's own reads -/
theorem mz_t_sld (F : mz_fr g M p R s m args meth c) {x : (Nat → Int32) × Nat} {i : Int32} (hX : X = some x) (hd : decode (mz_b M) pc = .ok (.iaload, 1)) (hok : mz_ok i x.2 = true) (ha : q = (pc + 1, L, .int (x.1 i.toNatClampNeg) :: st, h)) (k : mz_K g X M n0 z0 p l e R s m args below meth c Q q) : mz_K g X M n0 z0 p l e R s m args below meth c Q (pc, L, .int i :: .ref 0 :: st, h) := by
  subst ha
  intro ls H locs cells slots h1 h2 h3 h4 h5
  obtain ⟨scr, g1, g2, g3, g4, g5⟩ := h2.2.2.2.2.2 x hX
  have hin := mz_ok_inv hok
  have hlt : i.toNatClampNeg < x.2 := Nat.not_le.mp fun q => hin (Or.inr q)
  exact W.iald (v := .int (x.1 i.toNatClampNeg)) F.1 F.2.1 g1 g2 g3 (by rw [g4]; exact hin) (g5 _ hlt) rfl rfl hd (k ls H locs cells slots h1 h2 h3 h4 h5)
theorem mz_t_slen (F : mz_fr g M p R s m args meth c) {x : (Nat → Int32) × Nat} (hX : X = some x) (hd : decode (mz_b M) pc = .ok (.arraylength, 1)) (ha : q = (pc + 1, L, .int (Int32.ofNat x.2) :: st, h)) (k : mz_K g X M n0 z0 p l e R s m args below meth c Q q) : mz_K g X M n0 z0 p l e R s m args below meth c Q (pc, L, .ref 0 :: st, h) := by
  subst ha
  intro ls H locs cells slots h1 h2 h3 h4 h5
  obtain ⟨scr, g1, g2, g3, g4, g5⟩ := h2.2.2.2.2.2 x hX
  exact W.alen (n := Int32.ofNat x.2) F.1 F.2.1 g1 g2 (by rw [g4] <;> rfl) rfl rfl hd (k ls H locs cells slots h1 h2 h3 h4 h5)
theorem mz_t_alen (F : mz_fr g M p R s m args meth c) {a : Nat} (hd : decode (mz_b M) pc = .ok (.arraylength, 1)) (ht : mz_tag h.1 a < 6) (ha : q = (pc + 1, L, .int (Int32.ofNat (mz_len h.1 a)) :: st, h)) (k : mz_K g X M n0 z0 p l e R s m args below meth c Q q) : mz_K g X M n0 z0 p l e R s m args below meth c Q (pc, L, .ref a :: st, h) := by
  subst ha
  intro ls H locs cells slots h1 h2 h3 h4 h5
  obtain ⟨a0, a1⟩ := mz_adT h2 rfl (show mz_tag h.1 a < 99 by omega)
  obtain ⟨n, o1, o2⟩ := mz_tag_at (h := h.1) (a := a) rfl (by omega)
  have o3 := h2.2.2.2.1 a _ a0 o1
  show W p l e R s m args below meth c H locs cells slots Q (F0 m pc ls (.ref (mz_ad g a) :: st.map (mz_up g)))
  rw [a1]
  have kk := k ls H locs cells slots h1 h2 h3 h4 h5
  rw [o2] at kk
  generalize mz_tag h.1 a = t at ht o3
  rcases (show t = 0 ∨ t = 1 ∨ t = 2 ∨ t = 3 ∨ t = 4 ∨ t = 5 by omega) with rfl | rfl | rfl | rfl | rfl | rfl
  · exact va_alen F.1 F.2.1 F.2.2.2.2.2.2.2.1 (mz_one o3) 0 0 rfl rfl rfl hd kk
  · exact va_alen F.1 F.2.1 F.2.2.2.2.2.2.2.1 (mz_one o3) 0 1 rfl rfl rfl hd kk
  · exact va_alen F.1 F.2.1 F.2.2.2.2.2.2.2.1 (mz_one o3) 0 2 rfl rfl rfl hd kk
  · exact va_alen F.1 F.2.1 F.2.2.2.2.2.2.2.1 (mz_one o3) 0 3 rfl rfl rfl hd kk
  · exact va_alen F.1 F.2.1 F.2.2.2.2.2.2.2.1 (mz_one o3) 0 4 rfl rfl rfl hd kk
  · exact va_alen F.1 F.2.1 F.2.2.2.2.2.2.2.1 (mz_one o3) 0 5 rfl rfl rfl hd kk
theorem mz_t_lald (F : mz_fr g M p R s m args meth c) {a : Nat} {i : Int32} (hd : decode (mz_b M) pc = .ok (.laload, 1)) (ht : mz_tag h.1 a = 4) (hok : mz_ok i (mz_len h.1 a) = true) (ha : q = (pc + 1, L, .long (h.2.2 a i.toNatClampNeg) :: st, h)) (k : mz_K g X M n0 z0 p l e R s m args below meth c Q q) : mz_K g X M n0 z0 p l e R s m args below meth c Q (pc, L, .int i :: .ref a :: st, h) := by
  subst ha
  intro ls H locs cells slots h1 h2 h3 h4 h5
  obtain ⟨a0, a1⟩ := mz_adT h2 ht (by omega)
  obtain ⟨n, o1, o2⟩ := mz_tag_at ht (by omega)
  have o3 := h2.2.2.2.1 a _ a0 o1
  rw [o2] at hok
  show W p l e R s m args below meth c H locs cells slots Q (F0 m pc ls (.int i :: .ref (mz_ad g a) :: st.map (mz_up g)))
  rw [a1]
  exact va_lald F.1 F.2.1 F.2.2.2.2.2.2.2.1 (mz_one o3) 0 4 rfl rfl (mz_ok_inv hok) hd (k ls H locs cells slots h1 h2 h3 h4 h5)
theorem mz_t_aald (F : mz_fr g M p R s m args meth c) {a b : Nat} {i : Int32} (hd : decode (mz_b M) pc = .ok (.aaload, 1)) (ht : mz_tag h.1 a = 5) (hok : mz_ok i (mz_len h.1 a) = true) (hb : h.1.2 a i.toNatClampNeg = some b) (ha : q = (pc + 1, L, .ref b :: st, h)) (k : mz_K g X M n0 z0 p l e R s m args below meth c Q q) : mz_K g X M n0 z0 p l e R s m args below meth c Q (pc, L, .int i :: .ref a :: st, h) := by
  subst ha
  intro ls H locs cells slots h1 h2 h3 h4 h5
  obtain ⟨a0, a1⟩ := mz_adT h2 ht (by omega)
  obtain ⟨n, o1, o2⟩ := mz_tag_at ht (by omega)
  have o3 := h2.2.2.2.1 a _ a0 o1
  rw [o2] at hok
  show W p l e R s m args below meth c H locs cells slots Q (F0 m pc ls (.int i :: .ref (mz_ad g a) :: st.map (mz_up g)))
  rw [a1]
  refine va_aldq F.1 F.2.1 F.2.2.2.2.2.2.2.1 (mz_one o3) 0 5 rfl rfl (mz_ok_inv hok) hd ?_
  rw [hb]
  exact k ls H locs cells slots h1 h2 h3 h4 h5
theorem mz_t_iast (F : mz_fr g M p R s m args meth c) (hd : decode (mz_b M) pc = .ok (.iastore, 1)) (ha : mz_st 0 (fun x => x) pc L st h = some (.inl q)) (k : mz_K g X M n0 z0 p l e R s m args below meth c Q q) : mz_K g X M n0 z0 p l e R s m args below meth c Q (pc, L, st, h) := by
  obtain ⟨x, i, a, st', rfl, t1, t2, rfl⟩ := mz_st_inv ha
  intro ls H locs cells slots h1 h2 h3 h4 h5
  obtain ⟨a0, a1⟩ := mz_adT h2 t1 (by omega)
  show W p l e R s m args below meth c H locs cells slots Q (F0 m pc ls (.int x :: .int i :: .ref (mz_ad g a) :: st'.map (mz_up g)))
  rw [a1]
  exact W.iast F.1 F.2.1 (mz_arr h2 a0 t1 (by omega) 0 _ rfl) ((F.2.2.2.2.2.2.2.1.2 0 _ rfl).1 _ (fun j => .int (h.2.1 a j))) (fun q => by cases q) (by show ¬ (i < 0 ∨ (arrV _ _ _).slots.size ≤ _); rw [arrV_size]; exact t2) rfl rfl hd fun H1 e1 z oq => k ls H1 _ cells slots h1 (mz_wr_hr h2 t1 (by omega) z oq e1) (mz_S_put h3 z oq a0) h4 h5
theorem mz_narI (ty : FieldType) (x : Int32) (h : ty = .boolean ∨ ty = .byte ∨ ty = .short) : narrow ty (.int x) = .int (vp_nar ty x) := by
  rcases h with rfl | rfl | rfl <;> rfl
theorem mz_t_zast (F : mz_fr g M p R s m args meth c) (hd : decode (mz_b M) pc = .ok (.bastore, 1)) (ha : mz_st 1 (vp_nar .boolean) pc L st h = some (.inl q)) (k : mz_K g X M n0 z0 p l e R s m args below meth c Q q) : mz_K g X M n0 z0 p l e R s m args below meth c Q (pc, L, st, h) := by
  obtain ⟨x, i, a, st', rfl, t1, t2, rfl⟩ := mz_st_inv ha
  intro ls H locs cells slots h1 h2 h3 h4 h5
  obtain ⟨a0, a1⟩ := mz_adT h2 t1 (by omega)
  show W p l e R s m args below meth c H locs cells slots Q (F0 m pc ls (.int x :: .int i :: .ref (mz_ad g a) :: st'.map (mz_up g)))
  rw [a1]
  exact W.zast F.1 F.2.1 (mz_arr h2 a0 t1 (by omega) 0 _ rfl) ((F.2.2.2.2.2.2.2.1.2 1 _ rfl).1 _ (fun j => .int (h.2.1 a j))) (fun q => by cases q) (by show ¬ (i < 0 ∨ (arrV _ _ _).slots.size ≤ _); rw [arrV_size]; exact t2) rfl rfl hd fun H1 e1 z oq => k ls H1 _ cells slots h1 (mz_wr_hr h2 t1 (by omega) z oq (by rw [mz_narI _ _ (Or.inl rfl)] at e1; exact e1)) (mz_S_put h3 z oq a0) h4 h5
theorem mz_t_bast (F : mz_fr g M p R s m args meth c) (hd : decode (mz_b M) pc = .ok (.bastore, 1)) (ha : mz_st 2 (vp_nar .byte) pc L st h = some (.inl q)) (k : mz_K g X M n0 z0 p l e R s m args below meth c Q q) : mz_K g X M n0 z0 p l e R s m args below meth c Q (pc, L, st, h) := by
  obtain ⟨x, i, a, st', rfl, t1, t2, rfl⟩ := mz_st_inv ha
  intro ls H locs cells slots h1 h2 h3 h4 h5
  obtain ⟨a0, a1⟩ := mz_adT h2 t1 (by omega)
  show W p l e R s m args below meth c H locs cells slots Q (F0 m pc ls (.int x :: .int i :: .ref (mz_ad g a) :: st'.map (mz_up g)))
  rw [a1]
  exact W.bast F.1 F.2.1 (mz_arr h2 a0 t1 (by omega) 0 _ rfl) ((F.2.2.2.2.2.2.2.1.2 2 _ rfl).1 _ (fun j => .int (h.2.1 a j))) (fun q => by cases q) (by show ¬ (i < 0 ∨ (arrV _ _ _).slots.size ≤ _); rw [arrV_size]; exact t2) rfl rfl hd fun H1 e1 z oq => k ls H1 _ cells slots h1 (mz_wr_hr h2 t1 (by omega) z oq (by rw [mz_narI _ _ (Or.inr (Or.inl rfl))] at e1; exact e1)) (mz_S_put h3 z oq a0) h4 h5
theorem mz_t_sast (F : mz_fr g M p R s m args meth c) (hd : decode (mz_b M) pc = .ok (.sastore, 1)) (ha : mz_st 3 (vp_nar .short) pc L st h = some (.inl q)) (k : mz_K g X M n0 z0 p l e R s m args below meth c Q q) : mz_K g X M n0 z0 p l e R s m args below meth c Q (pc, L, st, h) := by
  obtain ⟨x, i, a, st', rfl, t1, t2, rfl⟩ := mz_st_inv ha
  intro ls H locs cells slots h1 h2 h3 h4 h5
  obtain ⟨a0, a1⟩ := mz_adT h2 t1 (by omega)
  show W p l e R s m args below meth c H locs cells slots Q (F0 m pc ls (.int x :: .int i :: .ref (mz_ad g a) :: st'.map (mz_up g)))
  rw [a1]
  exact W.sast F.1 F.2.1 (mz_arr h2 a0 t1 (by omega) 0 _ rfl) ((F.2.2.2.2.2.2.2.1.2 3 _ rfl).1 _ (fun j => .int (h.2.1 a j))) (fun q => by cases q) (by show ¬ (i < 0 ∨ (arrV _ _ _).slots.size ≤ _); rw [arrV_size]; exact t2) rfl rfl hd fun H1 e1 z oq => k ls H1 _ cells slots h1 (mz_wr_hr h2 t1 (by omega) z oq (by rw [mz_narI _ _ (Or.inr (Or.inr rfl))] at e1; exact e1)) (mz_S_put h3 z oq a0) h4 h5
theorem mz_t_last (F : mz_fr g M p R s m args meth c) {a : Nat} {i : Int32} {x : Int64} (hd : decode (mz_b M) pc = .ok (.lastore, 1)) (ht : mz_tag h.1 a = 4) (hok : mz_ok i (mz_len h.1 a) = true) (ha : q = (pc + 1, L, st, mz_setm h (mz_wl h.2 a i.toNatClampNeg x))) (k : mz_K g X M n0 z0 p l e R s m args below meth c Q q) : mz_K g X M n0 z0 p l e R s m args below meth c Q (pc, L, .long x :: .int i :: .ref a :: st, h) := by
  subst ha
  intro ls H locs cells slots h1 h2 h3 h4 h5
  obtain ⟨a0, a1⟩ := mz_adT h2 ht (by omega)
  obtain ⟨n, o1, o2⟩ := mz_tag_at ht (by omega)
  have o3 := h2.2.2.2.1 a _ a0 o1
  rw [o2] at hok
  show W p l e R s m args below meth c H locs cells slots Q (F0 m pc ls (.long x :: .int i :: .ref (mz_ad g a) :: st.map (mz_up g)))
  rw [a1]
  refine W.last F.1 F.2.1 (show H[g.2.2.2.2 + a]? = some (vp_cell (g.2.2.1 4) (n, .inr (.inl (h.2.2 a)))) from o3) ((F.2.2.2.2.2.2.2.1.2 4 _ rfl).1 _ (fun j => .long (h.2.2 a j))) (fun q => by cases q) (by show ¬ (i < 0 ∨ (arrV _ _ _).slots.size ≤ _); rw [arrV_size]; exact mz_ok_inv hok) rfl rfl hd fun H1 e1 z oq => k ls H1 _ cells slots h1 (mz_hr_upd h2 a0 o1 rfl (fun b hb => ⟨rfl, ?_, rfl⟩) z oq ?_) (mz_S_put h3 z oq a0) h4 h5
  · funext j
    show (if b = a ∧ j = _ then x else h.2.2 b j) = _
    rw [if_neg (fun z => hb z.1)]
  · show H1[g.2.2.2.2 + a]? = some (vp_cell (g.2.2.1 4) (n, .inr (.inl ((mz_wl h.2 a i.toNatClampNeg x).2 a))))
    rw [e1, vp_cell_l, vp_cell_l, arrV_store]
    congr 2
    funext j
    show (if j = i.toNatClampNeg then Value.long x else Value.long (h.2.2 a j)) = Value.long (if a = a ∧ j = i.toNatClampNeg then x else h.2.2 a j)
    by_cases hj : j = i.toNatClampNeg
    · rw [if_pos hj, if_pos ⟨rfl, hj⟩]
    · rw [if_neg hj, if_neg (fun q => hj q.2)]
theorem mz_t_aast (F : mz_fr g M p R s m args meth c) {a v : Nat} {i : Int32} (hd : decode (mz_b M) pc = .ok (.aastore, 1)) (ht : mz_tag h.1 a = 5) (hv : mz_tag h.1 v = 12) (hok : mz_ok i (mz_len h.1 a) = true) (ha : q = (pc + 1, L, st, ((h.1.1, mz_wq h.1.2 a i.toNatClampNeg v), h.2))) (k : mz_K g X M n0 z0 p l e R s m args below meth c Q q) : mz_K g X M n0 z0 p l e R s m args below meth c Q (pc, L, .ref v :: .int i :: .ref a :: st, h) := by
  subst ha
  intro ls H locs cells slots h1 h2 h3 h4 h5
  obtain ⟨a0, a1⟩ := mz_adT h2 ht (by omega)
  obtain ⟨v0, v1⟩ := mz_adT h2 hv (by omega)
  obtain ⟨n, o1, o2⟩ := mz_tag_at ht (by omega)
  have o3 := h2.2.2.2.1 a _ a0 o1
  obtain ⟨-, -, w2⟩ := mz_obj (ci := 6) h2 hv (by omega)
  rw [o2] at hok
  have hin := mz_ok_inv hok
  show W p l e R s m args below meth c H locs cells slots Q (F0 m pc ls (.ref (mz_ad g v) :: .int i :: .ref (mz_ad g a) :: st.map (mz_up g)))
  rw [a1, v1]
  have hK := F.2.2.2.2.2.2.2.1
  obtain ⟨r', hr', cellV, g1, g2, g3, -⟩ := w2
  have hcls := (hK.1 6 (RX6, TX6, 8) rfl).2
  obtain ⟨kA, comp, k1, k2, k3, -⟩ := (hK.2 5 _ rfl).2
  have hcomp : comp = g.1 6 := Option.some.inj (k3.symm.trans hcls.1)
  subst hcomp
  obtain ⟨kC, hkC, -⟩ := hcls.2
  refine W.aast F.1 F.2.1 (show H[g.2.2.2.2 + a]? = some (vp_cell (g.2.2.1 5) (n, .inr (.inr (.inr (.inr fun i => (h.1.2 a i).map (mz_ad g)))))) from o3) (fun q h => by cases h) (fun h => by cases h) k1 k2 rfl hkC ⟨fun z => hin (Or.inl z), by show _ < (arrV _ _ _).slots.size; rw [arrV_size]; exact Nat.not_le.mp fun z => hin (Or.inr z)⟩ g1 (fun q h => by rw [g3] at h; cases h) (by rw [g2]; exact hkC) (by rw [g2]; exact va_assign hcls) rfl rfl hd fun H1 e1 z oq => k ls H1 _ cells slots h1 (mz_hr_upd h2 a0 o1 rfl (fun b hb => ⟨rfl, rfl, ?_⟩) z oq ?_) (mz_S_put h3 z oq a0) h4 h5
  · funext j
    show (if b = a ∧ j = _ then some v else h.1.2 b j) = _
    rw [if_neg (fun z => hb z.1)]
  · show H1[g.2.2.2.2 + a]? = some (vp_cell (g.2.2.1 5) (n, .inr (.inr (.inr (.inr fun j => (mz_wq h.1.2 a i.toNatClampNeg v a j).map (mz_ad g))))))
    rw [e1, vp_cell_q, vp_cell_q, arrV_store]
    congr 2
    funext j
    show (if j = i.toNatClampNeg then Value.ref _ else va_rf ((h.1.2 a j).map (mz_ad g))) = va_rf ((if a = a ∧ j = i.toNatClampNeg then some v else h.1.2 a j).map (mz_ad g))
    by_cases hj : j = i.toNatClampNeg
    · rw [if_pos hj, if_pos ⟨rfl, hj⟩, ← v1]
      rfl
    · rw [if_neg hj, if_neg (fun q => hj q.2)]
end MzArr
