theorem mz_sl_lt {g : MzG} {L L' : MzL} {ls : Array Slot} {n i : Nat} {v : Value} (h : mz_lr g L ls n) (hs : mz_sl L i v = some L') : i < n := by
  unfold mz_sl at hs
  split at hs
  next hc => rw [← h.1]; exact hc.1
  next => cases hs
theorem mz_s2_lt {g : MzG} {L L' : MzL} {ls : Array Slot} {n i : Nat} {v : Value} (h : mz_lr g L ls n) (hs : mz_s2 L i v = some L') : i + 1 < n := by
  unfold mz_s2 at hs
  split at hs
  next hc => rw [← h.1]; exact hc.1
  next => cases hs
section MzSteps
variable {g : MzG} {X : MzX} {M n0 z0 : Nat} {p : Program} {l : Launch} {e : Env} {R : Room} {s : State} {m : MethodId} {args : Array Value} {below : List Frame} {meth : Method} {c : Code} {Q : State → Prop}
variable {pc : Nat} {L : MzL} {st : List Value} {h : MzH} {q : Nat × MzL × List Value × MzH}

theorem mz_t_iconst (F : mz_fr g M p R s m args meth c) {n : Int} (hd : decode (mz_b M) pc = .ok (.iconst n, 1)) (ha : mz_nx (pc + 1) L (.int (Int32.ofInt n) :: st) h = some (.inl q)) (k : mz_K g X M n0 z0 p l e R s m args below meth c Q q) : mz_K g X M n0 z0 p l e R s m args below meth c Q (pc, L, st, h) := by
  obtain rfl := mz_nx_inv ha
  intro ls H locs cells slots h1 h2 h3 h4 h5
  exact lv_iconst F.1 F.2.1 hd rfl (k ls H locs cells slots h1 h2 h3 h4 h5)
theorem mz_t_bipush (F : mz_fr g M p R s m args meth c) {n : Int} (hd : decode (mz_b M) pc = .ok (.bipush n, 2)) (ha : mz_nx (pc + 2) L (.int (Int8.ofInt n).toInt32 :: st) h = some (.inl q)) (k : mz_K g X M n0 z0 p l e R s m args below meth c Q q) : mz_K g X M n0 z0 p l e R s m args below meth c Q (pc, L, st, h) := by
  obtain rfl := mz_nx_inv ha
  intro ls H locs cells slots h1 h2 h3 h4 h5
  exact lv_bipush F.1 F.2.1 hd rfl (k ls H locs cells slots h1 h2 h3 h4 h5)
theorem mz_t_sipush (F : mz_fr g M p R s m args meth c) {n : Int} (hd : decode (mz_b M) pc = .ok (.sipush n, 3)) (ha : mz_nx (pc + 3) L (.int (Int16.ofInt n).toInt32 :: st) h = some (.inl q)) (k : mz_K g X M n0 z0 p l e R s m args below meth c Q q) : mz_K g X M n0 z0 p l e R s m args below meth c Q (pc, L, st, h) := by
  obtain rfl := mz_nx_inv ha
  intro ls H locs cells slots h1 h2 h3 h4 h5
  exact lv_sipush F.1 F.2.1 hd rfl (k ls H locs cells slots h1 h2 h3 h4 h5)
theorem mz_t_lconst (F : mz_fr g M p R s m args meth c) {n : Fin 2} (hd : decode (mz_b M) pc = .ok (.lconst n, 1)) (ha : mz_nx (pc + 1) L (.long (Int64.ofNat n) :: st) h = some (.inl q)) (k : mz_K g X M n0 z0 p l e R s m args below meth c Q q) : mz_K g X M n0 z0 p l e R s m args below meth c Q (pc, L, st, h) := by
  obtain rfl := mz_nx_inv ha
  intro ls H locs cells slots h1 h2 h3 h4 h5
  exact lv_lconst F.1 F.2.1 hd rfl (k ls H locs cells slots h1 h2 h3 h4 h5)
theorem mz_t_iload (F : mz_fr g M p R s m args meth c) {i : Nat} (hd : decode (mz_b M) pc = .ok (.iload i, 2)) (ha : mz_il (pc + 2) i L st h = some (.inl q)) (k : mz_K g X M n0 z0 p l e R s m args below meth c Q q) : mz_K g X M n0 z0 p l e R s m args below meth c Q (pc, L, st, h) := by
  obtain ⟨v, hv, rfl⟩ := mz_il_inv ha
  intro ls H locs cells slots h1 h2 h3 h4 h5
  exact lv_iload F.1 F.2.1 hd (h1.2.2.2 _ _ hv) (k ls H locs cells slots h1 h2 h3 h4 h5)
theorem mz_t_iload_n (F : mz_fr g M p R s m args meth c) {i : Fin 4} (hd : decode (mz_b M) pc = .ok (.iload_n i, 1)) (ha : mz_il (pc + 1) i L st h = some (.inl q)) (k : mz_K g X M n0 z0 p l e R s m args below meth c Q q) : mz_K g X M n0 z0 p l e R s m args below meth c Q (pc, L, st, h) := by
  obtain ⟨v, hv, rfl⟩ := mz_il_inv ha
  intro ls H locs cells slots h1 h2 h3 h4 h5
  exact lv_iload_n F.1 F.2.1 hd rfl (h1.2.2.2 _ _ hv) (k ls H locs cells slots h1 h2 h3 h4 h5)
theorem mz_t_aload (F : mz_fr g M p R s m args meth c) {i : Nat} (hd : decode (mz_b M) pc = .ok (.aload i, 2)) (ha : mz_al (pc + 2) i L st h = some (.inl q)) (k : mz_K g X M n0 z0 p l e R s m args below meth c Q q) : mz_K g X M n0 z0 p l e R s m args below meth c Q (pc, L, st, h) := by
  obtain ⟨v, hv, rfl⟩ := mz_al_inv ha
  intro ls H locs cells slots h1 h2 h3 h4 h5
  exact lv_aload F.1 F.2.1 hd (h1.2.2.2 _ _ hv) (k ls H locs cells slots h1 h2 h3 h4 h5)
theorem mz_t_aload_n (F : mz_fr g M p R s m args meth c) {i : Fin 4} (hd : decode (mz_b M) pc = .ok (.aload_n i, 1)) (ha : mz_al (pc + 1) i L st h = some (.inl q)) (k : mz_K g X M n0 z0 p l e R s m args below meth c Q q) : mz_K g X M n0 z0 p l e R s m args below meth c Q (pc, L, st, h) := by
  obtain ⟨v, hv, rfl⟩ := mz_al_inv ha
  intro ls H locs cells slots h1 h2 h3 h4 h5
  exact lv_aload_n F.1 F.2.1 hd rfl (h1.2.2.2 _ _ hv) (k ls H locs cells slots h1 h2 h3 h4 h5)
theorem mz_t_lload (F : mz_fr g M p R s m args meth c) {i : Nat} (hd : decode (mz_b M) pc = .ok (.lload i, 2)) (ha : mz_ll (pc + 2) i L st h = some (.inl q)) (k : mz_K g X M n0 z0 p l e R s m args below meth c Q q) : mz_K g X M n0 z0 p l e R s m args below meth c Q (pc, L, st, h) := by
  obtain ⟨v, hv, rfl⟩ := mz_ll_inv ha
  intro ls H locs cells slots h1 h2 h3 h4 h5
  exact lv_lload F.1 F.2.1 hd (h1.2.2.2 _ _ hv) (k ls H locs cells slots h1 h2 h3 h4 h5)
theorem mz_t_lload_n (F : mz_fr g M p R s m args meth c) {i : Fin 4} (hd : decode (mz_b M) pc = .ok (.lload_n i, 1)) (ha : mz_ll (pc + 1) i L st h = some (.inl q)) (k : mz_K g X M n0 z0 p l e R s m args below meth c Q q) : mz_K g X M n0 z0 p l e R s m args below meth c Q (pc, L, st, h) := by
  obtain ⟨v, hv, rfl⟩ := mz_ll_inv ha
  intro ls H locs cells slots h1 h2 h3 h4 h5
  exact lv_lload_n F.1 F.2.1 hd rfl (h1.2.2.2 _ _ hv) (k ls H locs cells slots h1 h2 h3 h4 h5)
theorem mz_t_istore (F : mz_fr g M p R s m args meth c) {i : Nat} (hd : decode (mz_b M) pc = .ok (.istore i, 2)) (ha : mz_is (pc + 2) i L st h = some (.inl q)) (k : mz_K g X M n0 z0 p l e R s m args below meth c Q q) : mz_K g X M n0 z0 p l e R s m args below meth c Q (pc, L, st, h) := by
  obtain ⟨v, st, L1, rfl, hv, rfl⟩ := mz_is_inv ha
  intro ls H locs cells slots h1 h2 h3 h4 h5
  exact lv_istore F.1 F.2.1 hd (mz_lr_has h1) (mz_sl_lt h1 hv) rfl (fun ls2 hl2 => k ls2 H locs cells slots (mz_lr_s1 h1 hv hl2).1 h2 h3 h4 h5)
theorem mz_t_istore_n (F : mz_fr g M p R s m args meth c) {i : Fin 4} (hd : decode (mz_b M) pc = .ok (.istore_n i, 1)) (ha : mz_is (pc + 1) i L st h = some (.inl q)) (k : mz_K g X M n0 z0 p l e R s m args below meth c Q q) : mz_K g X M n0 z0 p l e R s m args below meth c Q (pc, L, st, h) := by
  obtain ⟨v, st, L1, rfl, hv, rfl⟩ := mz_is_inv ha
  intro ls H locs cells slots h1 h2 h3 h4 h5
  exact lv_istore_n F.1 F.2.1 hd rfl (mz_lr_has h1) (mz_sl_lt h1 hv) rfl (fun ls2 hl2 => k ls2 H locs cells slots (mz_lr_s1 h1 hv hl2).1 h2 h3 h4 h5)
theorem mz_t_lstore (F : mz_fr g M p R s m args meth c) {i : Nat} (hd : decode (mz_b M) pc = .ok (.lstore i, 2)) (ha : mz_ls (pc + 2) i L st h = some (.inl q)) (k : mz_K g X M n0 z0 p l e R s m args below meth c Q q) : mz_K g X M n0 z0 p l e R s m args below meth c Q (pc, L, st, h) := by
  obtain ⟨v, st, L1, rfl, hv, rfl⟩ := mz_ls_inv ha
  intro ls H locs cells slots h1 h2 h3 h4 h5
  exact lv_lstore F.1 F.2.1 hd (mz_lr_has h1) (mz_s2_lt h1 hv) rfl (fun ls2 hl2 => k ls2 H locs cells slots (mz_lr_s2 h1 hv hl2).1 h2 h3 h4 h5)
theorem mz_t_lstore_n (F : mz_fr g M p R s m args meth c) {i : Fin 4} (hd : decode (mz_b M) pc = .ok (.lstore_n i, 1)) (ha : mz_ls (pc + 1) i L st h = some (.inl q)) (k : mz_K g X M n0 z0 p l e R s m args below meth c Q q) : mz_K g X M n0 z0 p l e R s m args below meth c Q (pc, L, st, h) := by
  obtain ⟨v, st, L1, rfl, hv, rfl⟩ := mz_ls_inv ha
  intro ls H locs cells slots h1 h2 h3 h4 h5
  exact lv_lstore_n F.1 F.2.1 hd rfl (mz_lr_has h1) (mz_s2_lt h1 hv) rfl (fun ls2 hl2 => k ls2 H locs cells slots (mz_lr_s2 h1 hv hl2).1 h2 h3 h4 h5)
theorem mz_t_astore_n (F : mz_fr g M p R s m args meth c) {i : Fin 4} (hd : decode (mz_b M) pc = .ok (.astore_n i, 1)) (ha : mz_as (pc + 1) i L st h = some (.inl q)) (k : mz_K g X M n0 z0 p l e R s m args below meth c Q q) : mz_K g X M n0 z0 p l e R s m args below meth c Q (pc, L, st, h) := by
  obtain ⟨v, st, L1, rfl, hv, rfl⟩ := mz_as_inv ha
  intro ls H locs cells slots h1 h2 h3 h4 h5
  exact lv_astore_n F.1 F.2.1 hd rfl (mz_lr_has h1) (mz_sl_lt h1 hv) rfl (fun ls2 hl2 => k ls2 H locs cells slots (mz_lr_s1 h1 hv hl2).1 h2 h3 h4 h5)
theorem mz_t_iinc (F : mz_fr g M p R s m args meth c) {i : Nat} {n : Int} {v : Int32} (hd : decode (mz_b M) pc = .ok (.iinc i n, 3)) (hg : mz_gl L i = some (.int v)) (ha : mz_sto (pc + 3) (mz_sl L i (.int (v + Int32.ofInt n))) st h = some (.inl q)) (k : mz_K g X M n0 z0 p l e R s m args below meth c Q q) : mz_K g X M n0 z0 p l e R s m args below meth c Q (pc, L, st, h) := by
  obtain ⟨L1, hv, rfl⟩ := mz_sto_inv ha
  intro ls H locs cells slots h1 h2 h3 h4 h5
  obtain ⟨kk, hkk⟩ := List.getElem?_of_mem (mz_prs_mem.mpr ⟨_, mz_gl_inv hg, rfl⟩ : (i, mz_up g (.int v)) ∈ mz_prs g L)
  exact lv_iinc F.1 F.2.1 hd (mz_lr_has h1) hkk rfl (mz_sl_lt h1 hv) rfl (fun ls2 hl2 => k ls2 H locs cells slots (mz_lr_s1 h1 hv hl2).1 h2 h3 h4 h5)
theorem mz_t_iadd (F : mz_fr g M p R s m args meth c) (hd : decode (mz_b M) pc = .ok (.iadd, 1)) (ha : mz_bin (fun x y => some (x + y)) pc L st h = some (.inl q)) (k : mz_K g X M n0 z0 p l e R s m args below meth c Q q) : mz_K g X M n0 z0 p l e R s m args below meth c Q (pc, L, st, h) := by
  obtain ⟨x, y, v, st, rfl, hv, rfl⟩ := mz_bin_inv ha
  cases hv
  intro ls H locs cells slots h1 h2 h3 h4 h5
  exact lv_iadd F.1 F.2.1 hd (k ls H locs cells slots h1 h2 h3 h4 h5)
theorem mz_t_isub (F : mz_fr g M p R s m args meth c) (hd : decode (mz_b M) pc = .ok (.isub, 1)) (ha : mz_bin (fun x y => some (x - y)) pc L st h = some (.inl q)) (k : mz_K g X M n0 z0 p l e R s m args below meth c Q q) : mz_K g X M n0 z0 p l e R s m args below meth c Q (pc, L, st, h) := by
  obtain ⟨x, y, v, st, rfl, hv, rfl⟩ := mz_bin_inv ha
  cases hv
  intro ls H locs cells slots h1 h2 h3 h4 h5
  exact lv_isub F.1 F.2.1 hd (k ls H locs cells slots h1 h2 h3 h4 h5)
theorem mz_t_imul (F : mz_fr g M p R s m args meth c) (hd : decode (mz_b M) pc = .ok (.imul, 1)) (ha : mz_bin (fun x y => some (x * y)) pc L st h = some (.inl q)) (k : mz_K g X M n0 z0 p l e R s m args below meth c Q q) : mz_K g X M n0 z0 p l e R s m args below meth c Q (pc, L, st, h) := by
  obtain ⟨x, y, v, st, rfl, hv, rfl⟩ := mz_bin_inv ha
  cases hv
  intro ls H locs cells slots h1 h2 h3 h4 h5
  exact lv_imul F.1 F.2.1 hd (k ls H locs cells slots h1 h2 h3 h4 h5)
theorem mz_t_iand (F : mz_fr g M p R s m args meth c) (hd : decode (mz_b M) pc = .ok (.iand, 1)) (ha : mz_bin (fun x y => some (x &&& y)) pc L st h = some (.inl q)) (k : mz_K g X M n0 z0 p l e R s m args below meth c Q q) : mz_K g X M n0 z0 p l e R s m args below meth c Q (pc, L, st, h) := by
  obtain ⟨x, y, v, st, rfl, hv, rfl⟩ := mz_bin_inv ha
  cases hv
  intro ls H locs cells slots h1 h2 h3 h4 h5
  exact lv_iand F.1 F.2.1 hd (k ls H locs cells slots h1 h2 h3 h4 h5)
theorem mz_t_ior (F : mz_fr g M p R s m args meth c) (hd : decode (mz_b M) pc = .ok (.ior, 1)) (ha : mz_bin (fun x y => some (x ||| y)) pc L st h = some (.inl q)) (k : mz_K g X M n0 z0 p l e R s m args below meth c Q q) : mz_K g X M n0 z0 p l e R s m args below meth c Q (pc, L, st, h) := by
  obtain ⟨x, y, v, st, rfl, hv, rfl⟩ := mz_bin_inv ha
  cases hv
  intro ls H locs cells slots h1 h2 h3 h4 h5
  exact lv_ior F.1 F.2.1 hd (k ls H locs cells slots h1 h2 h3 h4 h5)
theorem mz_t_ixor (F : mz_fr g M p R s m args meth c) (hd : decode (mz_b M) pc = .ok (.ixor, 1)) (ha : mz_bin (fun x y => some (x ^^^ y)) pc L st h = some (.inl q)) (k : mz_K g X M n0 z0 p l e R s m args below meth c Q q) : mz_K g X M n0 z0 p l e R s m args below meth c Q (pc, L, st, h) := by
  obtain ⟨x, y, v, st, rfl, hv, rfl⟩ := mz_bin_inv ha
  cases hv
  intro ls H locs cells slots h1 h2 h3 h4 h5
  exact lv_ixor F.1 F.2.1 hd (k ls H locs cells slots h1 h2 h3 h4 h5)
theorem mz_t_ishl (F : mz_fr g M p R s m args meth c) (hd : decode (mz_b M) pc = .ok (.ishl, 1)) (ha : mz_bin (fun x y => some (x <<< (y &&& 31))) pc L st h = some (.inl q)) (k : mz_K g X M n0 z0 p l e R s m args below meth c Q q) : mz_K g X M n0 z0 p l e R s m args below meth c Q (pc, L, st, h) := by
  obtain ⟨x, y, v, st, rfl, hv, rfl⟩ := mz_bin_inv ha
  cases hv
  intro ls H locs cells slots h1 h2 h3 h4 h5
  exact lv_ishl F.1 F.2.1 hd (k ls H locs cells slots h1 h2 h3 h4 h5)
theorem mz_t_ishr (F : mz_fr g M p R s m args meth c) (hd : decode (mz_b M) pc = .ok (.ishr, 1)) (ha : mz_bin (fun x y => some (x >>> (y &&& 31))) pc L st h = some (.inl q)) (k : mz_K g X M n0 z0 p l e R s m args below meth c Q q) : mz_K g X M n0 z0 p l e R s m args below meth c Q (pc, L, st, h) := by
  obtain ⟨x, y, v, st, rfl, hv, rfl⟩ := mz_bin_inv ha
  cases hv
  intro ls H locs cells slots h1 h2 h3 h4 h5
  exact lv_ishr F.1 F.2.1 hd (k ls H locs cells slots h1 h2 h3 h4 h5)
theorem mz_t_iushr (F : mz_fr g M p R s m args meth c) (hd : decode (mz_b M) pc = .ok (.iushr, 1)) (ha : mz_bin (fun x y => some (x.toUInt32 >>> (y.toUInt32 &&& Int32.toUInt32 31)).toInt32) pc L st h = some (.inl q)) (k : mz_K g X M n0 z0 p l e R s m args below meth c Q q) : mz_K g X M n0 z0 p l e R s m args below meth c Q (pc, L, st, h) := by
  obtain ⟨x, y, v, st, rfl, hv, rfl⟩ := mz_bin_inv ha
  cases hv
  intro ls H locs cells slots h1 h2 h3 h4 h5
  exact lv_iushr F.1 F.2.1 hd rfl (k ls H locs cells slots h1 h2 h3 h4 h5)
theorem mz_t_idiv (F : mz_fr g M p R s m args meth c) (hd : decode (mz_b M) pc = .ok (.idiv, 1)) (ha : mz_bin (fun x y => if y = 0 then none else some (x / y)) pc L st h = some (.inl q)) (k : mz_K g X M n0 z0 p l e R s m args below meth c Q q) : mz_K g X M n0 z0 p l e R s m args below meth c Q (pc, L, st, h) := by
  obtain ⟨x, y, v, st, rfl, hv, rfl⟩ := mz_bin_inv ha
  by_cases hy : y = 0
  · rw [if_pos hy] at hv; cases hv
  rw [if_neg hy] at hv
  cases hv
  intro ls H locs cells slots h1 h2 h3 h4 h5
  exact lv_idiv F.1 F.2.1 hd hy (k ls H locs cells slots h1 h2 h3 h4 h5)
theorem mz_t_irem (F : mz_fr g M p R s m args meth c) (hd : decode (mz_b M) pc = .ok (.irem, 1)) (ha : mz_bin (fun x y => if y = 0 then none else some (x - x / y * y)) pc L st h = some (.inl q)) (k : mz_K g X M n0 z0 p l e R s m args below meth c Q q) : mz_K g X M n0 z0 p l e R s m args below meth c Q (pc, L, st, h) := by
  obtain ⟨x, y, v, st, rfl, hv, rfl⟩ := mz_bin_inv ha
  by_cases hy : y = 0
  · rw [if_pos hy] at hv; cases hv
  rw [if_neg hy] at hv
  cases hv
  intro ls H locs cells slots h1 h2 h3 h4 h5
  exact lv_irem F.1 F.2.1 hd hy (k ls H locs cells slots h1 h2 h3 h4 h5)
theorem mz_t_ladd (F : mz_fr g M p R s m args meth c) (hd : decode (mz_b M) pc = .ok (.ladd, 1)) (ha : mz_lbin (fun x y => .long (x + y)) pc L st h = some (.inl q)) (k : mz_K g X M n0 z0 p l e R s m args below meth c Q q) : mz_K g X M n0 z0 p l e R s m args below meth c Q (pc, L, st, h) := by
  obtain ⟨x, y, st, rfl, rfl⟩ := mz_lbin_inv ha
  intro ls H locs cells slots h1 h2 h3 h4 h5
  exact lv_ladd F.1 F.2.1 hd (k ls H locs cells slots h1 h2 h3 h4 h5)
theorem mz_t_lmul (F : mz_fr g M p R s m args meth c) (hd : decode (mz_b M) pc = .ok (.lmul, 1)) (ha : mz_lbin (fun x y => .long (x * y)) pc L st h = some (.inl q)) (k : mz_K g X M n0 z0 p l e R s m args below meth c Q q) : mz_K g X M n0 z0 p l e R s m args below meth c Q (pc, L, st, h) := by
  obtain ⟨x, y, st, rfl, rfl⟩ := mz_lbin_inv ha
  intro ls H locs cells slots h1 h2 h3 h4 h5
  exact lv_lmul F.1 F.2.1 hd (k ls H locs cells slots h1 h2 h3 h4 h5)
theorem mz_t_lcmp (F : mz_fr g M p R s m args meth c) (hd : decode (mz_b M) pc = .ok (.lcmp, 1)) (ha : mz_lbin (fun x y => .int (lg_cmp x y)) pc L st h = some (.inl q)) (k : mz_K g X M n0 z0 p l e R s m args below meth c Q q) : mz_K g X M n0 z0 p l e R s m args below meth c Q (pc, L, st, h) := by
  obtain ⟨x, y, st, rfl, rfl⟩ := mz_lbin_inv ha
  intro ls H locs cells slots h1 h2 h3 h4 h5
  exact W.lcmp F.1 F.2.1 hd (k ls H locs cells slots h1 h2 h3 h4 h5)
theorem mz_t_ineg (F : mz_fr g M p R s m args meth c) (hd : decode (mz_b M) pc = .ok (.ineg, 1)) (ha : mz_un (fun x => .int (-x)) pc L st h = some (.inl q)) (k : mz_K g X M n0 z0 p l e R s m args below meth c Q q) : mz_K g X M n0 z0 p l e R s m args below meth c Q (pc, L, st, h) := by
  obtain ⟨x, st, rfl, rfl⟩ := mz_un_inv ha
  intro ls H locs cells slots h1 h2 h3 h4 h5
  exact lv_ineg F.1 F.2.1 hd (k ls H locs cells slots h1 h2 h3 h4 h5)
theorem mz_t_i2l (F : mz_fr g M p R s m args meth c) (hd : decode (mz_b M) pc = .ok (.i2l, 1)) (ha : mz_un (fun x => .long x.toInt64) pc L st h = some (.inl q)) (k : mz_K g X M n0 z0 p l e R s m args below meth c Q q) : mz_K g X M n0 z0 p l e R s m args below meth c Q (pc, L, st, h) := by
  obtain ⟨x, st, rfl, rfl⟩ := mz_un_inv ha
  intro ls H locs cells slots h1 h2 h3 h4 h5
  exact lv_i2l F.1 F.2.1 hd rfl (k ls H locs cells slots h1 h2 h3 h4 h5)
theorem mz_t_i2b (F : mz_fr g M p R s m args meth c) (hd : decode (mz_b M) pc = .ok (.i2b, 1)) (ha : mz_un (fun x => .int x.toInt8.toInt32) pc L st h = some (.inl q)) (k : mz_K g X M n0 z0 p l e R s m args below meth c Q q) : mz_K g X M n0 z0 p l e R s m args below meth c Q (pc, L, st, h) := by
  obtain ⟨x, st, rfl, rfl⟩ := mz_un_inv ha
  intro ls H locs cells slots h1 h2 h3 h4 h5
  exact lv_i2b F.1 F.2.1 hd rfl (k ls H locs cells slots h1 h2 h3 h4 h5)
theorem mz_t_i2s (F : mz_fr g M p R s m args meth c) (hd : decode (mz_b M) pc = .ok (.i2s, 1)) (ha : mz_un (fun x => .int x.toInt16.toInt32) pc L st h = some (.inl q)) (k : mz_K g X M n0 z0 p l e R s m args below meth c Q q) : mz_K g X M n0 z0 p l e R s m args below meth c Q (pc, L, st, h) := by
  obtain ⟨x, st, rfl, rfl⟩ := mz_un_inv ha
  intro ls H locs cells slots h1 h2 h3 h4 h5
  exact lv_i2s F.1 F.2.1 hd rfl (k ls H locs cells slots h1 h2 h3 h4 h5)
theorem mz_t_i2c (F : mz_fr g M p R s m args meth c) (hd : decode (mz_b M) pc = .ok (.i2c, 1)) (ha : mz_un (fun x => .int (x.toUInt32 % 65536).toInt32) pc L st h = some (.inl q)) (k : mz_K g X M n0 z0 p l e R s m args below meth c Q q) : mz_K g X M n0 z0 p l e R s m args below meth c Q (pc, L, st, h) := by
  obtain ⟨x, st, rfl, rfl⟩ := mz_un_inv ha
  intro ls H locs cells slots h1 h2 h3 h4 h5
  exact lv_i2c F.1 F.2.1 hd rfl (k ls H locs cells slots h1 h2 h3 h4 h5)
theorem mz_t_goto (F : mz_fr g M p R s m args meth c) {off : Int} (hd : decode (mz_b M) pc = .ok (.goto off, 3)) (ha : mz_jp pc off L st h = some (.inl q)) (k : mz_K g X M n0 z0 p l e R s m args below meth c Q q) : mz_K g X M n0 z0 p l e R s m args below meth c Q (pc, L, st, h) := by
  obtain ⟨t, ht, rfl⟩ := mz_jp_inv ha
  intro ls H locs cells slots h1 h2 h3 h4 h5
  exact lv_goto F.1 F.2.1 hd ht (k ls H locs cells slots h1 h2 h3 h4 h5)
theorem mz_t_ifCond (F : mz_fr g M p R s m args meth c) {cnd : ClassFile.Cond} {off : Int} {x : Int32} (hd : decode (mz_b M) pc = .ok (.ifCond cnd off, 3)) (ha : mz_if cnd off pc x 0 L st h = some (.inl q)) (k : mz_K g X M n0 z0 p l e R s m args below meth c Q q) : mz_K g X M n0 z0 p l e R s m args below meth c Q (pc, L, .int x :: st, h) := by
  obtain ⟨t, ht, ⟨hc, rfl⟩ | ⟨hc, rfl⟩⟩ := mz_if_inv ha
  · intro ls H locs cells slots h1 h2 h3 h4 h5
    cases cnd
    · exact lv_if_eq F.1 F.2.1 hd ht (fun _ => (k ls H locs cells slots h1 h2 h3 h4 h5)) (fun z => absurd (of_decide_eq_true hc) z)
    · exact lv_if_ne F.1 F.2.1 hd ht (fun _ => (k ls H locs cells slots h1 h2 h3 h4 h5)) (fun z => absurd z (of_decide_eq_true hc))
    · exact lv_if_lt F.1 F.2.1 hd ht (fun _ => (k ls H locs cells slots h1 h2 h3 h4 h5)) (fun z => absurd (of_decide_eq_true hc) z)
    · exact lv_if_ge F.1 F.2.1 hd ht (fun _ => (k ls H locs cells slots h1 h2 h3 h4 h5)) (fun z => absurd (of_decide_eq_true hc) z)
    · exact lv_if_gt F.1 F.2.1 hd ht (fun _ => (k ls H locs cells slots h1 h2 h3 h4 h5)) (fun z => absurd (of_decide_eq_true hc) z)
    · exact lv_if_le F.1 F.2.1 hd ht (fun _ => (k ls H locs cells slots h1 h2 h3 h4 h5)) (fun z => absurd (of_decide_eq_true hc) z)
  · intro ls H locs cells slots h1 h2 h3 h4 h5
    cases cnd
    · exact lv_if_eq F.1 F.2.1 hd ht (fun z => absurd z (of_decide_eq_false hc)) (fun _ => (k ls H locs cells slots h1 h2 h3 h4 h5))
    · exact lv_if_ne F.1 F.2.1 hd ht (fun z => absurd z (of_decide_eq_false hc)) (fun _ => (k ls H locs cells slots h1 h2 h3 h4 h5))
    · exact lv_if_lt F.1 F.2.1 hd ht (fun z => absurd z (of_decide_eq_false hc)) (fun _ => (k ls H locs cells slots h1 h2 h3 h4 h5))
    · exact lv_if_ge F.1 F.2.1 hd ht (fun z => absurd z (of_decide_eq_false hc)) (fun _ => (k ls H locs cells slots h1 h2 h3 h4 h5))
    · exact lv_if_gt F.1 F.2.1 hd ht (fun z => absurd z (of_decide_eq_false hc)) (fun _ => (k ls H locs cells slots h1 h2 h3 h4 h5))
    · exact lv_if_le F.1 F.2.1 hd ht (fun z => absurd z (of_decide_eq_false hc)) (fun _ => (k ls H locs cells slots h1 h2 h3 h4 h5))

theorem mz_t_if_icmp (F : mz_fr g M p R s m args meth c) {cnd : ClassFile.Cond} {off : Int} {x y : Int32} (hd : decode (mz_b M) pc = .ok (.if_icmp cnd off, 3)) (ha : mz_if cnd off pc x y L st h = some (.inl q)) (k : mz_K g X M n0 z0 p l e R s m args below meth c Q q) : mz_K g X M n0 z0 p l e R s m args below meth c Q (pc, L, .int y :: .int x :: st, h) := by
  obtain ⟨t, ht, ⟨hc, rfl⟩ | ⟨hc, rfl⟩⟩ := mz_if_inv ha
  · intro ls H locs cells slots h1 h2 h3 h4 h5
    cases cnd
    · exact lv_icmp_eq F.1 F.2.1 hd ht (fun _ => (k ls H locs cells slots h1 h2 h3 h4 h5)) (fun z => absurd (of_decide_eq_true hc) z)
    · exact lv_icmp_ne F.1 F.2.1 hd ht (fun _ => (k ls H locs cells slots h1 h2 h3 h4 h5)) (fun z => absurd z (of_decide_eq_true hc))
    · exact lv_icmp_lt F.1 F.2.1 hd ht (fun _ => (k ls H locs cells slots h1 h2 h3 h4 h5)) (fun z => absurd (of_decide_eq_true hc) z)
    · exact lv_icmp_ge F.1 F.2.1 hd ht (fun _ => (k ls H locs cells slots h1 h2 h3 h4 h5)) (fun z => absurd (of_decide_eq_true hc) z)
    · exact lv_icmp_gt F.1 F.2.1 hd ht (fun _ => (k ls H locs cells slots h1 h2 h3 h4 h5)) (fun z => absurd (of_decide_eq_true hc) z)
    · exact lv_icmp_le F.1 F.2.1 hd ht (fun _ => (k ls H locs cells slots h1 h2 h3 h4 h5)) (fun z => absurd (of_decide_eq_true hc) z)
  · intro ls H locs cells slots h1 h2 h3 h4 h5
    cases cnd
    · exact lv_icmp_eq F.1 F.2.1 hd ht (fun z => absurd z (of_decide_eq_false hc)) (fun _ => (k ls H locs cells slots h1 h2 h3 h4 h5))
    · exact lv_icmp_ne F.1 F.2.1 hd ht (fun z => absurd z (of_decide_eq_false hc)) (fun _ => (k ls H locs cells slots h1 h2 h3 h4 h5))
    · exact lv_icmp_lt F.1 F.2.1 hd ht (fun z => absurd z (of_decide_eq_false hc)) (fun _ => (k ls H locs cells slots h1 h2 h3 h4 h5))
    · exact lv_icmp_ge F.1 F.2.1 hd ht (fun z => absurd z (of_decide_eq_false hc)) (fun _ => (k ls H locs cells slots h1 h2 h3 h4 h5))
    · exact lv_icmp_gt F.1 F.2.1 hd ht (fun z => absurd z (of_decide_eq_false hc)) (fun _ => (k ls H locs cells slots h1 h2 h3 h4 h5))
    · exact lv_icmp_le F.1 F.2.1 hd ht (fun z => absurd z (of_decide_eq_false hc)) (fun _ => (k ls H locs cells slots h1 h2 h3 h4 h5))

end MzSteps
