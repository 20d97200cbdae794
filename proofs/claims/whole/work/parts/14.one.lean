section MzOne
variable {g : MzG} {X : MzX} {M n0 z0 : Nat} {p : Program} {l : Launch} {e : Env} {R : Room} {s : State} {m : MethodId} {args : Array Value} {below : List Frame} {meth : Method} {c : Code} {Q : State → Prop}
variable {pc : Nat} {L : MzL} {st : List Value} {h : MzH} {q : Nat × MzL × List Value × MzH}

theorem mz_dc1 {b : ByteArray} {pc : Nat} {i : Instr} {ln : Nat} {r : Nat × Nat × Nat} {mk : List Bool} (h : mz_ckD b (pc, i, ln, r, mk) = true) {n : Nat} (hn : mz_ln i = n + 1) : decode b pc = .ok (i, n + 1) := by
  unfold mz_ckD at h
  dsimp only at h
  rw [hn] at h
  exact of_decide_eq_true h
theorem mz_dc0 {b : ByteArray} {pc : Nat} {i : Instr} {ln : Nat} {r : Nat × Nat × Nat} {mk : List Bool} (h : mz_ckD b (pc, i, ln, r, mk) = true) (hn : mz_ln i = 0) : decode b pc = .ok (i, ln) := by
  unfold mz_ckD at h
  dsimp only at h
  rw [hn] at h
  exact of_decide_eq_true h
theorem mz_t_ldc (F : mz_fr g M p R s m args meth c) {i : Nat} {en : MzE} (hd : decode (mz_b M) pc = .ok (.ldc i, 2)) (hc : mz_rC (mz_c M) i 0 en = true) (ha : mz_nx (pc + 2) L (.int (Int32.ofNat en.2.2.2.1.1) :: st) h = some (.inl q)) (k : mz_K g X M n0 z0 p l e R s m args below meth c Q q) : mz_K g X M n0 z0 p l e R s m args below meth c Q (pc, L, st, h) := by
  obtain rfl := mz_nx_inv ha
  intro ls H locs cells slots h1 h2 h3 h4 h5
  exact lv_ldc F.1 F.2.1 F.2.2.2.1 (F.2.2.2.2.1 _ (mz_rC_ok.1 hc)) hd (k ls H locs cells slots h1 h2 h3 h4 h5)
theorem mz_t_ldcw (F : mz_fr g M p R s m args meth c) {i : Nat} {en : MzE} (hd : decode (mz_b M) pc = .ok (.ldc_w i, 3)) (hc : mz_rC (mz_c M) i 0 en = true) (ha : mz_nx (pc + 3) L (.int (Int32.ofNat en.2.2.2.1.1) :: st) h = some (.inl q)) (k : mz_K g X M n0 z0 p l e R s m args below meth c Q q) : mz_K g X M n0 z0 p l e R s m args below meth c Q (pc, L, st, h) := by
  obtain rfl := mz_nx_inv ha
  intro ls H locs cells slots h1 h2 h3 h4 h5
  exact lv_ldcw F.1 F.2.1 F.2.2.2.1 (F.2.2.2.2.1 _ (mz_rC_ok.1 hc)) hd (k ls H locs cells slots h1 h2 h3 h4 h5)
theorem mz_t_ldc2 (F : mz_fr g M p R s m args meth c) {i : Nat} {en : MzE} (hd : decode (mz_b M) pc = .ok (.ldc2_w i, 3)) (hc : mz_rC (mz_c M) i 1 en = true) (ha : mz_nx (pc + 3) L (.long (Int64.ofNat en.2.2.2.1.1) :: st) h = some (.inl q)) (k : mz_K g X M n0 z0 p l e R s m args below meth c Q q) : mz_K g X M n0 z0 p l e R s m args below meth c Q (pc, L, st, h) := by
  obtain rfl := mz_nx_inv ha
  intro ls H locs cells slots h1 h2 h3 h4 h5
  exact lv_ldc2 F.1 F.2.1 F.2.2.2.1 (F.2.2.2.2.1 _ (mz_rC_ok.2 hc)) hd (k ls H locs cells slots h1 h2 h3 h4 h5)
theorem mz_t_l2i (F : mz_fr g M p R s m args meth c) {x : Int64} (hd : decode (mz_b M) pc = .ok (.l2i, 1)) (ha : mz_nx (pc + 1) L (.int x.toInt32 :: st) h = some (.inl q)) (k : mz_K g X M n0 z0 p l e R s m args below meth c Q q) : mz_K g X M n0 z0 p l e R s m args below meth c Q (pc, L, .long x :: st, h) := by
  obtain rfl := mz_nx_inv ha
  intro ls H locs cells slots h1 h2 h3 h4 h5
  exact lv_l2i F.1 F.2.1 hd rfl (k ls H locs cells slots h1 h2 h3 h4 h5)
theorem mz_t_dup (F : mz_fr g M p R s m args meth c) {v : Value} (hd : decode (mz_b M) pc = .ok (.dup, 1)) (hv : v.category = 1) (ha : mz_nx (pc + 1) L (v :: v :: st) h = some (.inl q)) (k : mz_K g X M n0 z0 p l e R s m args below meth c Q q) : mz_K g X M n0 z0 p l e R s m args below meth c Q (pc, L, v :: st, h) := by
  obtain rfl := mz_nx_inv ha
  intro ls H locs cells slots h1 h2 h3 h4 h5
  exact lv_dup F.1 F.2.1 hd (by rw [mz_up_cat]; exact hv) (k ls H locs cells slots h1 h2 h3 h4 h5)
theorem mz_t_dup2 (F : mz_fr g M p R s m args meth c) {v w : Value} (hd : decode (mz_b M) pc = .ok (.dup2, 1)) (hv : v.category = 1 ∧ w.category = 1) (ha : mz_nx (pc + 1) L (v :: w :: v :: w :: st) h = some (.inl q)) (k : mz_K g X M n0 z0 p l e R s m args below meth c Q q) : mz_K g X M n0 z0 p l e R s m args below meth c Q (pc, L, v :: w :: st, h) := by
  obtain rfl := mz_nx_inv ha
  intro ls H locs cells slots h1 h2 h3 h4 h5
  exact lv_dup2_11 F.1 F.2.1 hd (by rw [mz_up_cat]; exact hv.1) (by rw [mz_up_cat]; exact hv.2) (k ls H locs cells slots h1 h2 h3 h4 h5)
theorem mz_t_pop (F : mz_fr g M p R s m args meth c) {v : Value} (hd : decode (mz_b M) pc = .ok (.pop, 1)) (hv : v.category = 1) (ha : mz_nx (pc + 1) L st h = some (.inl q)) (k : mz_K g X M n0 z0 p l e R s m args below meth c Q q) : mz_K g X M n0 z0 p l e R s m args below meth c Q (pc, L, v :: st, h) := by
  obtain rfl := mz_nx_inv ha
  intro ls H locs cells slots h1 h2 h3 h4 h5
  exact lv_pop F.1 F.2.1 hd (by rw [mz_up_cat]; exact hv) (k ls H locs cells slots h1 h2 h3 h4 h5)
theorem mz_t_sw (F : mz_fr g M p R s m args meth c) {d lo hi : Int} {offs : Array Int} {n : Nat} {x : Int32} (hd : decode (mz_b M) pc = .ok (.tableswitch d lo hi offs, n)) (ha : mz_sw pc d lo hi offs x L st h = some (.inl q)) (k : mz_K g X M n0 z0 p l e R s m args below meth c Q q) : mz_K g X M n0 z0 p l e R s m args below meth c Q (pc, L, .int x :: st, h) := by
  unfold mz_sw at ha
  split at ha
  next hc =>
    obtain ⟨t, ht, rfl⟩ := mz_jp_inv ha
    intro ls H locs cells slots h1 h2 h3 h4 h5
    exact lv_tableOut F.1 F.2.1 hd hc ht (k ls H locs cells slots h1 h2 h3 h4 h5)
  next hc =>
    split at ha
    next off ho =>
      obtain ⟨t, ht, rfl⟩ := mz_jp_inv ha
      intro ls H locs cells slots h1 h2 h3 h4 h5
      exact lv_tableIn F.1 F.2.1 hd (fun z => hc (Or.inl z)) (fun z => hc (Or.inr z)) ho ht (k ls H locs cells slots h1 h2 h3 h4 h5)
    next => cases ha
theorem mz_t_lk (F : mz_fr g M p R s m args meth c) {d : Int} {ps : Array (Int × Int)} {n : Nat} {x : Int32} (hd : decode (mz_b M) pc = .ok (.lookupswitch d ps, n)) (ha : mz_lk pc d ps x L st h = some (.inl q)) (k : mz_K g X M n0 z0 p l e R s m args below meth c Q q) : mz_K g X M n0 z0 p l e R s m args below meth c Q (pc, L, .int x :: st, h) := by
  unfold mz_lk at ha
  split at ha
  next hc =>
    obtain ⟨t, ht, rfl⟩ := mz_jp_inv ha
    intro ls H locs cells slots h1 h2 h3 h4 h5
    exact lv_lookup F.1 F.2.1 hd hc rfl ht (k ls H locs cells slots h1 h2 h3 h4 h5)
  next hc => cases ha
theorem mz_inv_no {n k t : Nat} (H : mz_inv n k t st h = some (.inl q)) : False := by
  unfold mz_inv at H
  split at H
  next =>
    split at H
    next => cases H
    next =>
      split at H
      next =>
        split at H
        next => cases H
        next => cases H
      next => cases H
  next => cases H
/-- ONE STEP -/
theorem mz_step (F : mz_fr g M p R s m args meth c) {en : MzE} (he : mz_fd (mz_code M) pc = some en) (hb1 : q.2.2.2.1.1.length ≤ R.cells + n0) (hb2 : mz_sz q.2.2.2.1 ≤ R.slots + z0) (ha : mz_act X en.2.1 en.2.2.2.1 pc L st h = some (.inl q)) (k : mz_K g X M n0 z0 p l e R s m args below meth c Q q) : mz_K g X M n0 z0 p l e R s m args below meth c Q (pc, L, st, h) := by
  obtain ⟨e1, e2, e3⟩ := mz_ck_at he
  obtain ⟨pc', i, ln, r, mk⟩ := en
  obtain rfl : pc = pc' := e1.symm
  dsimp only at ha
  cases i with
  | iconst _ => exact mz_t_iconst F (mz_dc1 e2 rfl) ha k
  | bipush _ => exact mz_t_bipush F (mz_dc1 e2 rfl) ha k
  | sipush _ => exact mz_t_sipush F (mz_dc1 e2 rfl) ha k
  | lconst _ => exact mz_t_lconst F (mz_dc1 e2 rfl) ha k
  | iload _ => exact mz_t_iload F (mz_dc1 e2 rfl) ha k
  | iload_n _ => exact mz_t_iload_n F (mz_dc1 e2 rfl) ha k
  | aload _ => exact mz_t_aload F (mz_dc1 e2 rfl) ha k
  | aload_n _ => exact mz_t_aload_n F (mz_dc1 e2 rfl) ha k
  | lload _ => exact mz_t_lload F (mz_dc1 e2 rfl) ha k
  | lload_n _ => exact mz_t_lload_n F (mz_dc1 e2 rfl) ha k
  | istore _ => exact mz_t_istore F (mz_dc1 e2 rfl) ha k
  | istore_n _ => exact mz_t_istore_n F (mz_dc1 e2 rfl) ha k
  | lstore _ => exact mz_t_lstore F (mz_dc1 e2 rfl) ha k
  | lstore_n _ => exact mz_t_lstore_n F (mz_dc1 e2 rfl) ha k
  | astore_n _ => exact mz_t_astore_n F (mz_dc1 e2 rfl) ha k
  | iadd => exact mz_t_iadd F (mz_dc1 e2 rfl) ha k
  | isub => exact mz_t_isub F (mz_dc1 e2 rfl) ha k
  | imul => exact mz_t_imul F (mz_dc1 e2 rfl) ha k
  | iand => exact mz_t_iand F (mz_dc1 e2 rfl) ha k
  | ior => exact mz_t_ior F (mz_dc1 e2 rfl) ha k
  | ixor => exact mz_t_ixor F (mz_dc1 e2 rfl) ha k
  | ishl => exact mz_t_ishl F (mz_dc1 e2 rfl) ha k
  | ishr => exact mz_t_ishr F (mz_dc1 e2 rfl) ha k
  | iushr => exact mz_t_iushr F (mz_dc1 e2 rfl) ha k
  | idiv => exact mz_t_idiv F (mz_dc1 e2 rfl) ha k
  | irem => exact mz_t_irem F (mz_dc1 e2 rfl) ha k
  | ineg => exact mz_t_ineg F (mz_dc1 e2 rfl) ha k
  | ladd => exact mz_t_ladd F (mz_dc1 e2 rfl) ha k
  | lmul => exact mz_t_lmul F (mz_dc1 e2 rfl) ha k
  | lcmp => exact mz_t_lcmp F (mz_dc1 e2 rfl) ha k
  | i2l => exact mz_t_i2l F (mz_dc1 e2 rfl) ha k
  | i2b => exact mz_t_i2b F (mz_dc1 e2 rfl) ha k
  | i2s => exact mz_t_i2s F (mz_dc1 e2 rfl) ha k
  | i2c => exact mz_t_i2c F (mz_dc1 e2 rfl) ha k
  | goto _ => exact mz_t_goto F (mz_dc1 e2 rfl) ha k
  | iinc i n => 
    replace ha : (match mz_gl L i with
      | some (.int v) => mz_sto (pc + 3) (mz_sl L i (.int (v + Int32.ofInt n))) st h
      | _ => none) = some (.inl q) := ha
    split at ha
    next v hv => exact mz_t_iinc F (mz_dc1 e2 rfl) hv ha k
    next => cases ha
  | ifCond cnd off => 
    replace ha : (match st with
      | .int x :: st => mz_if cnd off pc x 0 L st h
      | _ => none) = some (.inl q) := ha
    split at ha
    next x st' => exact mz_t_ifCond F (mz_dc1 e2 rfl) ha k
    next => cases ha
  | if_icmp cnd off => 
    replace ha : (match st with
      | .int y :: .int x :: st => mz_if cnd off pc x y L st h
      | _ => none) = some (.inl q) := ha
    split at ha
    next x y st' => exact mz_t_if_icmp F (mz_dc1 e2 rfl) ha k
    next => cases ha
  | tableswitch d lo hi offs => 
    replace ha : (match st with
      | .int x :: st => mz_sw pc d lo hi offs x L st h
      | _ => none) = some (.inl q) := ha
    split at ha
    next x st' => exact mz_t_sw F (mz_dc0 e2 rfl) ha k
    next => cases ha
  | lookupswitch d ps => 
    replace ha : (match st with
      | .int x :: st => mz_lk pc d ps x L st h
      | _ => none) = some (.inl q) := ha
    split at ha
    next x st' => exact mz_t_lk F (mz_dc0 e2 rfl) ha k
    next => cases ha
  | l2i => 
    replace ha : (match st with
      | .long x :: st => mz_nx (pc + 1) L (.int x.toInt32 :: st) h
      | _ => none) = some (.inl q) := ha
    split at ha
    next x st' => exact mz_t_l2i F (mz_dc1 e2 rfl) ha k
    next => cases ha
  | dup => 
    replace ha : (match st with
      | v :: st => if v.category = 1 then mz_nx (pc + 1) L (v :: v :: st) h else none
      | _ => none) = some (.inl q) := ha
    split at ha
    next v st' =>
      split at ha
      next hv => exact mz_t_dup F (mz_dc1 e2 rfl) hv ha k
      next => cases ha
    next => cases ha
  | pop => 
    replace ha : (match st with
      | v :: st => if v.category = 1 then mz_nx (pc + 1) L st h else none
      | _ => none) = some (.inl q) := ha
    split at ha
    next v st' =>
      split at ha
      next hv => exact mz_t_pop F (mz_dc1 e2 rfl) hv ha k
      next => cases ha
    next => cases ha
  | dup2 => 
    replace ha : (match st with
      | v :: w :: st => if v.category = 1 ∧ w.category = 1 then mz_nx (pc + 1) L (v :: w :: v :: w :: st) h else none
      | _ => none) = some (.inl q) := ha
    split at ha
    next v w st' =>
      split at ha
      next hv => exact mz_t_dup2 F (mz_dc1 e2 rfl) hv ha k
      next => cases ha
    next => cases ha
  | ldc i => 
    replace ha : (match r.2.2 with
      | 0 => mz_nx (pc + 2) L (.int (Int32.ofNat r.1) :: st) h
      | _ => if r.1 = 1 ∨ r.1 = 2 then mz_nx (pc + 2) L (.ref (1000000 + r.1) :: st) h else none) = some (.inl q) := ha
    replace e3 : (match r.2.2 with
      | 0 => mz_rC (mz_c M) i 0 (pc, .ldc i, ln, r, mk)
      | _ => Nat.beq (mz_c M) 9 && ((Nat.beq i 77 && Nat.beq r.1 1) || (Nat.beq i 65 && Nat.beq r.1 2))) = true := e3
    split at ha
    next e0 =>
      rw [e0] at e3
      exact mz_t_ldc F (mz_dc1 e2 rfl) e3 ha k
    next hne =>
      split at ha
      next =>
        split at e3
        next z => exact absurd z hne
        next => exact mz_t_ldcS F e3 (mz_dc1 e2 rfl) ha k
      next => cases ha
  | ldc_w i => exact mz_t_ldcw F (mz_dc1 e2 rfl) e3 ha k
  | ldc2_w i => exact mz_t_ldc2 F (mz_dc1 e2 rfl) e3 ha k
  | arraylength => 
    replace ha : (match st with
      | .ref a :: st => (match a with
        | 0 => (match X with
          | some x => mz_nx (pc + 1) L (.int (Int32.ofNat x.2) :: st) h
          | none => none)
        | a => if mz_tag h.1 a < 6 then mz_nx (pc + 1) L (.int (Int32.ofNat (mz_len h.1 a)) :: st) h else none)
      | _ => none) = some (.inl q) := ha
    split at ha
    next a st' =>
      split at ha
      next =>
        split at ha
        next x => exact mz_t_slen F rfl (mz_dc1 e2 rfl) (mz_nx_inv ha) k
        next => cases ha
      next =>
        split at ha
        next ht => exact mz_t_alen F (mz_dc1 e2 rfl) ht (mz_nx_inv ha) k
        next => cases ha
    next => cases ha
  | iaload => 
    replace ha : (match st with
      | .int i :: .ref 0 :: st => (match X with
        | some x => if mz_ok i x.2 = true then mz_nx (pc + 1) L (.int (x.1 i.toNatClampNeg) :: st) h else none
        | none => none)
      | _ => mz_ld 0 0 pc L st h) = some (.inl q) := ha
    split at ha
    next i st' =>
      split at ha
      next x =>
        split at ha
        next hok => exact mz_t_sld F rfl (mz_dc1 e2 rfl) hok (mz_nx_inv ha) k
        next => cases ha
      next => cases ha
    next => exact mz_t_iald F (mz_dc1 e2 rfl) ha k
  | baload => exact mz_t_bald F (mz_dc1 e2 rfl) ha k
  | saload => exact mz_t_sald F (mz_dc1 e2 rfl) ha k
  | laload => 
    replace ha : (match st with
      | .int i :: .ref a :: st => if mz_tag h.1 a = 4 ∧ mz_ok i (mz_len h.1 a) = true then mz_nx (pc + 1) L (.long (mz_rl h.2 a i.toNatClampNeg) :: st) h else none
      | _ => none) = some (.inl q) := ha
    split at ha
    next i a st' =>
      split at ha
      next hc => exact mz_t_lald F (mz_dc1 e2 rfl) hc.1 hc.2 (mz_nx_inv ha) k
      next => cases ha
    next => cases ha
  | aaload => 
    replace ha : (match st with
      | .int i :: .ref a :: st => if mz_tag h.1 a = 5 ∧ mz_ok i (mz_len h.1 a) = true then
          (match h.1.2 a i.toNatClampNeg with
          | some q => mz_nx (pc + 1) L (.ref q :: st) h
          | none => none)
        else none
      | _ => none) = some (.inl q) := ha
    split at ha
    next i a st' =>
      split at ha
      next hc =>
        split at ha
        next b hb => exact mz_t_aald F (mz_dc1 e2 rfl) hc.1 hc.2 hb (mz_nx_inv ha) k
        next => cases ha
      next => cases ha
    next => cases ha
  | iastore => exact mz_t_iast F (mz_dc1 e2 rfl) ha k
  | sastore => exact mz_t_sast F (mz_dc1 e2 rfl) ha k
  | bastore => 
    replace ha : (match st with
      | .int _ :: .int _ :: .ref a :: _ => (match mz_tag h.1 a with
        | 1 => mz_st 1 (vp_nar .boolean) pc L st h
        | _ => mz_st 2 (vp_nar .byte) pc L st h)
      | _ => none) = some (.inl q) := ha
    split at ha
    next =>
      split at ha
      next => exact mz_t_zast F (mz_dc1 e2 rfl) ha k
      next => exact mz_t_bast F (mz_dc1 e2 rfl) ha k
    next => cases ha
  | lastore => 
    replace ha : (match st with
      | .long x :: .int i :: .ref a :: st => if mz_tag h.1 a = 4 ∧ mz_ok i (mz_len h.1 a) = true then mz_nx (pc + 1) L st (mz_setm h (mz_wl h.2 a i.toNatClampNeg x)) else none
      | _ => none) = some (.inl q) := ha
    split at ha
    next x i a st' =>
      split at ha
      next hc => exact mz_t_last F (mz_dc1 e2 rfl) hc.1 hc.2 (mz_nx_inv ha) k
      next => cases ha
    next => cases ha
  | aastore => 
    replace ha : (match st with
      | .ref v :: .int i :: .ref a :: st => if mz_tag h.1 a = 5 ∧ mz_tag h.1 v = 12 ∧ mz_ok i (mz_len h.1 a) = true then mz_nx (pc + 1) L st ((h.1.1, mz_wq h.1.2 a i.toNatClampNeg v), h.2) else none
      | _ => none) = some (.inl q) := ha
    split at ha
    next v i a st' =>
      split at ha
      next hc => exact mz_t_aast F (mz_dc1 e2 rfl) hc.1 hc.2.1 hc.2.2 (mz_nx_inv ha) k
      next => cases ha
    next => cases ha
  | getfield i => exact mz_t_get (en := (pc, .getfield i, ln, r, mk)) F (mz_dc1 e2 rfl) e3 ha k
  | putfield i => 
    replace e3 : (mz_rF (mz_c M) i (pc, .putfield i, ln, r, mk) && mz_rP (mz_c M) (decide ((mz_y M).name = "<init>")) (pc, .putfield i, ln, r, mk)) = true := e3
    simp only [Bool.and_eq_true] at e3
    exact mz_t_put (en := (pc, .putfield i, ln, r, mk)) F (mz_dc1 e2 rfl) e3.1 e3.2 ha k
  | new i => 
    replace ha : (if h.1.1.length < 900000 then mz_nx (pc + 3) L (.ref h.1.1.length :: st) (mz_new h (6 + r.1) r.2.1) else none) = some (.inl q) := ha
    split at ha
    next hb =>
      obtain rfl := mz_nx_inv ha
      exact mz_t_new (en := (pc, .new i, ln, r, mk)) F (mz_dc1 e2 rfl) e3 hb (by rw [← mz_len_new]; exact hb1) (by rw [← mz_sz_new]; exact hb2) rfl k
    next => cases ha
  | newarray t => 
    replace ha : (match st with
      | .int n :: st => if h.1.1.length < 900000 ∧ ¬ n < 0 ∧ n.toNatClampNeg ≤ 60000000 ∧ mz_atag t < 5 then mz_nx (pc + 2) L (.ref h.1.1.length :: st) (mz_new h (mz_atag t) n.toNatClampNeg) else none
      | _ => none) = some (.inl q) := ha
    split at ha
    next n st' =>
      split at ha
      next hc =>
        obtain rfl := mz_nx_inv ha
        exact mz_t_newarray F (mz_dc1 e2 rfl) hc.1 hc.2.1 hc.2.2.1 hc.2.2.2 (by rw [← mz_len_new]; exact hb1) (by rw [← mz_sz_new]; exact hb2) rfl k
      next => cases ha
    next => cases ha
  | anewarray i => 
    replace ha : (match st with
      | .int n :: st => if h.1.1.length < 900000 ∧ ¬ n < 0 ∧ n.toNatClampNeg ≤ 60000000 then mz_nx (pc + 3) L (.ref h.1.1.length :: st) (mz_new h 5 n.toNatClampNeg) else none
      | _ => none) = some (.inl q) := ha
    split at ha
    next n st' =>
      split at ha
      next hc =>
        obtain rfl := mz_nx_inv ha
        exact mz_t_anew (en := (pc, .anewarray i, ln, r, mk)) F (mz_dc1 e2 rfl) e3 hc.1 hc.2.1 hc.2.2 (by rw [← mz_len_new]; exact hb1) (by rw [← mz_sz_new]; exact hb2) rfl k
      next => cases ha
    next => cases ha
  | invokevirtual i => 
    replace ha : (match r.1 with
      | 9990 => mz_sln pc L st h
      | 9991 => mz_sch pc L st h
      | 9992 => mz_six pc L st h
      | n => mz_inv n r.2.1 r.2.2 st h) = some (.inl q) := ha
    split at ha
    next hr => exact mz_t_sln F ((mz_iv_at he).1 hr) hb1 hb2 (mz_dc1 e2 rfl) ha k
    next hr => exact mz_t_sch F ((mz_iv_at he).2.1 hr) hb1 hb2 (mz_dc1 e2 rfl) ha k
    next hr => exact mz_t_six F ((mz_iv_at he).2.2 hr) hb1 hb2 (mz_dc1 e2 rfl) ha k
    next => exact absurd (mz_inv_no ha) id
  | invokespecial i => 
    replace ha : (match r.1 with
      | 9999 => (match st with
        | .ref _ :: st => if (st.map fun v => v.category).sum ≤ 8 then mz_nx (pc + 3) L st h else none
        | _ => none)
      | n => mz_inv n r.2.1 r.2.2 st h) = some (.inl q) := ha
    replace e3 : (match r.1 with
      | 9999 => mz_rX (mz_c M) i 0 (pc, .invokespecial i, ln, r, mk)
      | _ => mz_rM (mz_c M) i 2 (pc, .invokespecial i, ln, r, mk)) = true := e3
    split at ha
    next e0 =>
      rw [e0] at e3
      split at ha
      next a st' =>
        split at ha
        next hs => exact mz_t_oini (en := (pc, .invokespecial i, ln, r, mk)) F (mz_dc1 e2 rfl) e3 hs (mz_nx_inv ha) k
        next => cases ha
      next => cases ha
    next => exact absurd (mz_inv_no ha) id
  | invokestatic i => 
    replace ha : (match r.1 with
      | 9998 => mz_cpy pc L st h
      | 9997 => mz_mth (fun x y => if x < y then y else x) pc L st h
      | 9996 => mz_mth (fun x y => if y < x then y else x) pc L st h
      | 9995 => mz_abs pc L st h
      | n => mz_inv n r.2.1 1000 st h) = some (.inl q) := ha
    replace e3 : (match r.1 with
      | 9998 => mz_rX (mz_c M) i 1 (pc, .invokestatic i, ln, r, mk)
      | 9997 => mz_rX (mz_c M) i 3 (pc, .invokestatic i, ln, r, mk)
      | 9996 => mz_rX (mz_c M) i 4 (pc, .invokestatic i, ln, r, mk)
      | 9995 => mz_rX (mz_c M) i 5 (pc, .invokestatic i, ln, r, mk)
      | _ => mz_rM (mz_c M) i 1 (pc, .invokestatic i, ln, r, mk)) = true := e3
    split at ha
    next e0 =>
      rw [e0] at e3
      exact mz_t_cpy (en := (pc, .invokestatic i, ln, r, mk)) F (mz_dc1 e2 rfl) e3 ha k
    next e0 =>
      rw [e0] at e3
      unfold mz_mth at ha
      split at ha
      next y x st' =>
        split at ha
        next hs =>
          obtain rfl := mz_nx_inv ha
          exact mz_t_max (en := (pc, .invokestatic i, ln, r, mk)) F (mz_dc1 e2 rfl) e3 hs hb1 hb2 rfl k
        next => cases ha
      next => cases ha
    next e0 =>
      rw [e0] at e3
      unfold mz_mth at ha
      split at ha
      next y x st' =>
        split at ha
        next hs =>
          obtain rfl := mz_nx_inv ha
          exact mz_t_min (en := (pc, .invokestatic i, ln, r, mk)) F (mz_dc1 e2 rfl) e3 hs hb1 hb2 rfl k
        next => cases ha
      next => cases ha
    next e0 =>
      rw [e0] at e3
      unfold mz_abs at ha
      split at ha
      next x st' =>
        split at ha
        next hs =>
          obtain rfl := mz_nx_inv ha
          exact mz_t_abs (en := (pc, .invokestatic i, ln, r, mk)) F (mz_dc1 e2 rfl) e3 hs hb1 hb2 rfl k
        next => cases ha
      next => cases ha
    next => exact absurd (mz_inv_no ha) id
  | ireturn => 
    replace ha : (match st with
      | [.int v] => (some (.inr (.inr [.int v])) : MzA)
      | _ => none) = some (.inl q) := ha
    split at ha <;> cases ha
  | lreturn => 
    replace ha : (match st with
      | [.long v] => (some (.inr (.inr [.long v])) : MzA)
      | _ => none) = some (.inl q) := ha
    split at ha <;> cases ha
  | return_ => 
    replace ha : (match st with
      | [] => (some (.inr (.inr [])) : MzA)
      | _ => none) = some (.inl q) := ha
    split at ha <;> cases ha
  | _ => exact absurd (show (none : MzA) = some (.inl q) from ha) (fun z => by cases z)
end MzOne
