def mz_sm (h : MzH) (a : (Nat × MzL × List Value × MzH) ⊕ ((Nat × List Value × List Value) ⊕ List Value)) : Prop := ∃ q, a = .inl q ∧ q.2.2.2.1.1 = h.1.1
def mz_ri (vs : List Value) : Instr := match vs with
  | [] => .return_
  | [.long _] => .lreturn
  | _ => .ireturn
section MzCases
variable {X : MzX} {pc : Nat} {L : MzL} {st : List Value} {h : MzH} {a : (Nat × MzL × List Value × MzH) ⊕ ((Nat × List Value × List Value) ⊕ List Value)}

theorem mz_nx_c (ha : mz_nx pc L st h = some a) : mz_sm h a := by
  unfold mz_nx at ha
  cases ha
  exact ⟨_, rfl, rfl⟩
theorem mz_jp_c {off : Int} (ha : mz_jp pc off L st h = some a) : mz_sm h a := by
  unfold mz_jp mz_nx at ha
  repeat' split at ha
  all_goals first | (cases ha; done) | (cases ha; exact ⟨_, rfl, rfl⟩)
theorem mz_sto_c {Lo : Option MzL} (ha : mz_sto pc Lo st h = some a) : mz_sm h a := by
  unfold mz_sto mz_nx at ha
  repeat' split at ha
  all_goals first | (cases ha; done) | (cases ha; exact ⟨_, rfl, rfl⟩)
theorem mz_il_c {i : Nat} (ha : mz_il pc i L st h = some a) : mz_sm h a := by
  unfold mz_il mz_nx at ha
  repeat' split at ha
  all_goals first | (cases ha; done) | (cases ha; exact ⟨_, rfl, rfl⟩)
theorem mz_al_c {i : Nat} (ha : mz_al pc i L st h = some a) : mz_sm h a := by
  unfold mz_al mz_nx at ha
  repeat' split at ha
  all_goals first | (cases ha; done) | (cases ha; exact ⟨_, rfl, rfl⟩)
theorem mz_ll_c {i : Nat} (ha : mz_ll pc i L st h = some a) : mz_sm h a := by
  unfold mz_ll mz_nx at ha
  repeat' split at ha
  all_goals first | (cases ha; done) | (cases ha; exact ⟨_, rfl, rfl⟩)
theorem mz_is_c {i : Nat} (ha : mz_is pc i L st h = some a) : mz_sm h a := by
  unfold mz_is mz_sto mz_nx at ha
  repeat' split at ha
  all_goals first | (cases ha; done) | (cases ha; exact ⟨_, rfl, rfl⟩)
theorem mz_as_c {i : Nat} (ha : mz_as pc i L st h = some a) : mz_sm h a := by
  unfold mz_as mz_sto mz_nx at ha
  repeat' split at ha
  all_goals first | (cases ha; done) | (cases ha; exact ⟨_, rfl, rfl⟩)
theorem mz_ls_c {i : Nat} (ha : mz_ls pc i L st h = some a) : mz_sm h a := by
  unfold mz_ls mz_sto mz_nx at ha
  repeat' split at ha
  all_goals first | (cases ha; done) | (cases ha; exact ⟨_, rfl, rfl⟩)
theorem mz_bin_c {z : Int32 → Int32 → Option Int32} (ha : mz_bin z pc L st h = some a) : mz_sm h a := by
  unfold mz_bin mz_nx at ha
  repeat' split at ha
  all_goals first | (cases ha; done) | (cases ha; exact ⟨_, rfl, rfl⟩)
theorem mz_lbin_c {z : Int64 → Int64 → Value} (ha : mz_lbin z pc L st h = some a) : mz_sm h a := by
  unfold mz_lbin mz_nx at ha
  repeat' split at ha
  all_goals first | (cases ha; done) | (cases ha; exact ⟨_, rfl, rfl⟩)
theorem mz_un_c {z : Int32 → Value} (ha : mz_un z pc L st h = some a) : mz_sm h a := by
  unfold mz_un mz_nx at ha
  repeat' split at ha
  all_goals first | (cases ha; done) | (cases ha; exact ⟨_, rfl, rfl⟩)
theorem mz_if_c {c : ClassFile.Cond} {off : Int} {x y : Int32} (ha : mz_if c off pc x y L st h = some a) : mz_sm h a := by
  unfold mz_if mz_nx at ha
  repeat' split at ha
  all_goals first | (cases ha; done) | (cases ha; exact ⟨_, rfl, rfl⟩)
theorem mz_sw_c {d lo hi : Int} {offs : Array Int} {x : Int32} (ha : mz_sw pc d lo hi offs x L st h = some a) : mz_sm h a := by
  unfold mz_sw mz_jp mz_nx at ha
  repeat' split at ha
  all_goals first | (cases ha; done) | (cases ha; exact ⟨_, rfl, rfl⟩)
theorem mz_lk_c {d : Int} {ps : Array (Int × Int)} {x : Int32} (ha : mz_lk pc d ps x L st h = some a) : mz_sm h a := by
  unfold mz_lk mz_jp mz_nx at ha
  repeat' split at ha
  all_goals first | (cases ha; done) | (cases ha; exact ⟨_, rfl, rfl⟩)
theorem mz_ld_c {t1 t2 : Nat} (ha : mz_ld t1 t2 pc L st h = some a) : mz_sm h a := by
  unfold mz_ld mz_nx at ha
  repeat' split at ha
  all_goals first | (cases ha; done) | (cases ha; exact ⟨_, rfl, rfl⟩)
theorem mz_st_c {t : Nat} {f : Int32 → Int32} (ha : mz_st t f pc L st h = some a) : mz_sm h a := by
  unfold mz_st mz_nx at ha
  repeat' split at ha
  all_goals first | (cases ha; done) | (cases ha; exact ⟨_, rfl, rfl⟩)
theorem mz_get_c {r : Nat × Nat × Nat} (ha : mz_get r pc L st h = some a) : mz_sm h a := by
  unfold mz_get mz_nx at ha
  repeat' split at ha
  all_goals first | (cases ha; done) | (cases ha; exact ⟨_, rfl, rfl⟩)
theorem mz_put_c {r : Nat × Nat × Nat} (ha : mz_put r pc L st h = some a) : mz_sm h a := by
  unfold mz_put mz_nx at ha
  repeat' split at ha
  all_goals first | (cases ha; done) | (cases ha; exact ⟨_, rfl, rfl⟩)
theorem mz_cpy_c  (ha : mz_cpy pc L st h = some a) : mz_sm h a := by
  unfold mz_cpy mz_nx at ha
  repeat' split at ha
  all_goals first | (cases ha; done) | (cases ha; exact ⟨_, rfl, rfl⟩)
theorem mz_mth_c {z : Int32 → Int32 → Int32} (ha : mz_mth z pc L st h = some a) : mz_sm h a := by
  unfold mz_mth mz_nx at ha
  repeat' split at ha
  all_goals first | (cases ha; done) | (cases ha; exact ⟨_, rfl, rfl⟩)
theorem mz_abs_c  (ha : mz_abs pc L st h = some a) : mz_sm h a := by
  unfold mz_abs mz_nx at ha
  repeat' split at ha
  all_goals first | (cases ha; done) | (cases ha; exact ⟨_, rfl, rfl⟩)
theorem mz_sln_c  (ha : mz_sln pc L st h = some a) : mz_sm h a := by
  unfold mz_sln mz_nx at ha
  repeat' split at ha
  all_goals first | (cases ha; done) | (cases ha; exact ⟨_, rfl, rfl⟩)
theorem mz_sch_c  (ha : mz_sch pc L st h = some a) : mz_sm h a := by
  unfold mz_sch mz_nx at ha
  repeat' split at ha
  all_goals first | (cases ha; done) | (cases ha; exact ⟨_, rfl, rfl⟩)
theorem mz_six_c  (ha : mz_six pc L st h = some a) : mz_sm h a := by
  unfold mz_six mz_nx at ha
  repeat' split at ha
  all_goals first | (cases ha; done) | (cases ha; exact ⟨_, rfl, rfl⟩)
theorem mz_inv_c {n k t : Nat} (ha : mz_inv n k t st h = some a) : a = .inr (.inl (n, (st.take k).reverse, st.drop k)) ∧ k ≤ st.length ∧ ((st.drop k).map fun v => v.category).sum ≤ 8 ∧ (t = 1000 ∨ ∃ b vs, (st.take k).reverse = .ref b :: vs ∧ mz_tag h.1 b = t) := by
  unfold mz_inv at ha
  split at ha
  next hc =>
    split at ha
    next => cases ha; exact ⟨rfl, hc.1, hc.2, Or.inl rfl⟩
    next =>
      split at ha
      next b vs hb =>
        split at ha
        next ht => cases ha; exact ⟨by rw [hb], hc.1, hc.2, Or.inr ⟨b, vs, hb, ht⟩⟩
        next => cases ha
      next => cases ha
  next => cases ha
/-- what an instruction can do: go on, end, or call -/
def mz_oc (i : Instr) (r : Nat × Nat × Nat) (st : List Value) (h : MzH) (a : (Nat × MzL × List Value × MzH) ⊕ ((Nat × List Value × List Value) ⊕ List Value)) : Prop :=
  (∃ q, a = .inl q ∧ h.1.1.length ≤ q.2.2.2.1.1.length ∧ mz_sz h.1 ≤ mz_sz q.2.2.2.1) ∨ (a = .inr (.inr st) ∧ i = mz_ri st ∧ (st = [] ∨ (∃ v, st = [.int v]) ∨ ∃ v, st = [.long v])) ∨
  (∃ idx, (i = .invokevirtual idx ∧ mz_inv r.1 r.2.1 r.2.2 st h = some a ∧ r.1 ≠ 9990 ∧ r.1 ≠ 9991 ∧ r.1 ≠ 9992) ∨ (i = .invokespecial idx ∧ mz_inv r.1 r.2.1 r.2.2 st h = some a ∧ r.1 ≠ 9999) ∨ (i = .invokestatic idx ∧ mz_inv r.1 r.2.1 1000 st h = some a ∧ r.1 ≠ 9998 ∧ r.1 ≠ 9997 ∧ r.1 ≠ 9996 ∧ r.1 ≠ 9995))
theorem mz_oc_sm {i : Instr} {r : Nat × Nat × Nat} (hs : mz_sm h a) : mz_oc i r st h a := by
  obtain ⟨q, rfl, hq⟩ := hs
  refine Or.inl ⟨q, rfl, by rw [hq]; exact Nat.le_refl _, ?_⟩
  unfold mz_sz
  rw [hq]
  exact Nat.le_refl _
theorem mz_oc_new {i : Instr} {r : Nat × Nat × Nat} {t n pc2 : Nat} {L2 : MzL} {st2 : List Value} (ha : mz_nx pc2 L2 st2 (mz_new h t n) = some a) : mz_oc i r st h a := by
  unfold mz_nx at ha
  cases ha
  exact Or.inl ⟨_, rfl, by show _ ≤ (mz_new h t n).1.1.length; rw [mz_len_new]; omega, by show _ ≤ mz_sz (mz_new h t n).1; rw [mz_sz_new]; omega⟩
theorem mz_act_oc {i : Instr} {r : Nat × Nat × Nat} (ha : mz_act X i r pc L st h = some a) : mz_oc i r st h a := by
  cases i with
  | iconst _ => exact mz_oc_sm (mz_nx_c ha)
  | bipush _ => exact mz_oc_sm (mz_nx_c ha)
  | sipush _ => exact mz_oc_sm (mz_nx_c ha)
  | lconst _ => exact mz_oc_sm (mz_nx_c ha)
  | ldc_w _ => exact mz_oc_sm (mz_nx_c ha)
  | ldc2_w _ => exact mz_oc_sm (mz_nx_c ha)
  | ldc i => 
    replace ha : (match r.2.2 with
      | 0 => mz_nx (pc + 2) L (.int (Int32.ofNat r.1) :: st) h
      | _ => if r.1 = 1 ∨ r.1 = 2 then mz_nx (pc + 2) L (.ref (1000000 + r.1) :: st) h else none) = some a := ha
    unfold mz_nx at ha
    refine mz_oc_sm ?_
    repeat' split at ha
    all_goals first | (cases ha; done) | (cases ha; exact ⟨_, rfl, rfl⟩)
  | iload _ => exact mz_oc_sm (mz_il_c ha)
  | iload_n _ => exact mz_oc_sm (mz_il_c ha)
  | aload _ => exact mz_oc_sm (mz_al_c ha)
  | aload_n _ => exact mz_oc_sm (mz_al_c ha)
  | lload _ => exact mz_oc_sm (mz_ll_c ha)
  | lload_n _ => exact mz_oc_sm (mz_ll_c ha)
  | istore _ => exact mz_oc_sm (mz_is_c ha)
  | istore_n _ => exact mz_oc_sm (mz_is_c ha)
  | astore_n _ => exact mz_oc_sm (mz_as_c ha)
  | lstore _ => exact mz_oc_sm (mz_ls_c ha)
  | lstore_n _ => exact mz_oc_sm (mz_ls_c ha)
  | iadd => exact mz_oc_sm (mz_bin_c (z := fun x y => some (x + y)) (pc := pc) (L := L) (st := st) ha)
  | isub => exact mz_oc_sm (mz_bin_c (z := fun x y => some (x - y)) (pc := pc) (L := L) (st := st) ha)
  | imul => exact mz_oc_sm (mz_bin_c (z := fun x y => some (x * y)) (pc := pc) (L := L) (st := st) ha)
  | iand => exact mz_oc_sm (mz_bin_c (z := fun x y => some (x &&& y)) (pc := pc) (L := L) (st := st) ha)
  | ior => exact mz_oc_sm (mz_bin_c (z := fun x y => some (x ||| y)) (pc := pc) (L := L) (st := st) ha)
  | ixor => exact mz_oc_sm (mz_bin_c (z := fun x y => some (x ^^^ y)) (pc := pc) (L := L) (st := st) ha)
  | ishl => exact mz_oc_sm (mz_bin_c (z := fun x y => some (x <<< (y &&& 31))) (pc := pc) (L := L) (st := st) ha)
  | ishr => exact mz_oc_sm (mz_bin_c (z := fun x y => some (x >>> (y &&& 31))) (pc := pc) (L := L) (st := st) ha)
  | iushr => exact mz_oc_sm (mz_bin_c (z := fun x y => some (x.toUInt32 >>> (y.toUInt32 &&& Int32.toUInt32 31)).toInt32) (pc := pc) (L := L) (st := st) ha)
  | idiv => exact mz_oc_sm (mz_bin_c (z := fun x y => if y = 0 then none else some (x / y)) (pc := pc) (L := L) (st := st) ha)
  | irem => exact mz_oc_sm (mz_bin_c (z := fun x y => if y = 0 then none else some (x - x / y * y)) (pc := pc) (L := L) (st := st) ha)
  | ladd => exact mz_oc_sm (mz_lbin_c ha)
  | lmul => exact mz_oc_sm (mz_lbin_c ha)
  | lcmp => exact mz_oc_sm (mz_lbin_c ha)
  | ineg => exact mz_oc_sm (mz_un_c ha)
  | i2l => exact mz_oc_sm (mz_un_c ha)
  | i2b => exact mz_oc_sm (mz_un_c ha)
  | i2s => exact mz_oc_sm (mz_un_c ha)
  | i2c => exact mz_oc_sm (mz_un_c ha)
  | goto _ => exact mz_oc_sm (mz_jp_c ha)
  | iinc i n => 
    replace ha : (match mz_gl L i with
      | some (.int v) => mz_sto (pc + 3) (mz_sl L i (.int (v + Int32.ofInt n))) st h
      | _ => none) = some a := ha
    refine mz_oc_sm ?_
    try unfold mz_nx at ha
    repeat' split at ha
    all_goals first | (cases ha; done) | (cases ha; exact ⟨_, rfl, rfl⟩) | exact mz_if_c ha | exact mz_sw_c ha | exact mz_lk_c ha | exact mz_sto_c ha | exact mz_st_c ha | exact mz_ld_c ha
  | l2i => 
    replace ha : (match (generalizing := false) st with
      | .long x :: st => mz_nx (pc + 1) L (.int x.toInt32 :: st) h
      | _ => none) = some a := ha
    refine mz_oc_sm ?_
    try unfold mz_nx at ha
    repeat' split at ha
    all_goals first | (cases ha; done) | (cases ha; exact ⟨_, rfl, rfl⟩) | exact mz_if_c ha | exact mz_sw_c ha | exact mz_lk_c ha | exact mz_sto_c ha | exact mz_st_c ha | exact mz_ld_c ha
  | dup => 
    replace ha : (match (generalizing := false) st with
      | v :: st => if v.category = 1 then mz_nx (pc + 1) L (v :: v :: st) h else none
      | _ => none) = some a := ha
    refine mz_oc_sm ?_
    try unfold mz_nx at ha
    repeat' split at ha
    all_goals first | (cases ha; done) | (cases ha; exact ⟨_, rfl, rfl⟩) | exact mz_if_c ha | exact mz_sw_c ha | exact mz_lk_c ha | exact mz_sto_c ha | exact mz_st_c ha | exact mz_ld_c ha
  | pop => 
    replace ha : (match (generalizing := false) st with
      | v :: st => if v.category = 1 then mz_nx (pc + 1) L st h else none
      | _ => none) = some a := ha
    refine mz_oc_sm ?_
    try unfold mz_nx at ha
    repeat' split at ha
    all_goals first | (cases ha; done) | (cases ha; exact ⟨_, rfl, rfl⟩) | exact mz_if_c ha | exact mz_sw_c ha | exact mz_lk_c ha | exact mz_sto_c ha | exact mz_st_c ha | exact mz_ld_c ha
  | dup2 => 
    replace ha : (match (generalizing := false) st with
      | v :: w :: st => if v.category = 1 ∧ w.category = 1 then mz_nx (pc + 1) L (v :: w :: v :: w :: st) h else none
      | _ => none) = some a := ha
    refine mz_oc_sm ?_
    try unfold mz_nx at ha
    repeat' split at ha
    all_goals first | (cases ha; done) | (cases ha; exact ⟨_, rfl, rfl⟩) | exact mz_if_c ha | exact mz_sw_c ha | exact mz_lk_c ha | exact mz_sto_c ha | exact mz_st_c ha | exact mz_ld_c ha
  | ifCond cnd off => 
    replace ha : (match (generalizing := false) st with
      | .int x :: st => mz_if cnd off pc x 0 L st h
      | _ => none) = some a := ha
    refine mz_oc_sm ?_
    try unfold mz_nx at ha
    repeat' split at ha
    all_goals first | (cases ha; done) | (cases ha; exact ⟨_, rfl, rfl⟩) | exact mz_if_c ha | exact mz_sw_c ha | exact mz_lk_c ha | exact mz_sto_c ha | exact mz_st_c ha | exact mz_ld_c ha
  | if_icmp cnd off => 
    replace ha : (match (generalizing := false) st with
      | .int y :: .int x :: st => mz_if cnd off pc x y L st h
      | _ => none) = some a := ha
    refine mz_oc_sm ?_
    try unfold mz_nx at ha
    repeat' split at ha
    all_goals first | (cases ha; done) | (cases ha; exact ⟨_, rfl, rfl⟩) | exact mz_if_c ha | exact mz_sw_c ha | exact mz_lk_c ha | exact mz_sto_c ha | exact mz_st_c ha | exact mz_ld_c ha
  | tableswitch d lo hi offs => 
    replace ha : (match (generalizing := false) st with
      | .int x :: st => mz_sw pc d lo hi offs x L st h
      | _ => none) = some a := ha
    refine mz_oc_sm ?_
    try unfold mz_nx at ha
    repeat' split at ha
    all_goals first | (cases ha; done) | (cases ha; exact ⟨_, rfl, rfl⟩) | exact mz_if_c ha | exact mz_sw_c ha | exact mz_lk_c ha | exact mz_sto_c ha | exact mz_st_c ha | exact mz_ld_c ha
  | lookupswitch d ps => 
    replace ha : (match (generalizing := false) st with
      | .int x :: st => mz_lk pc d ps x L st h
      | _ => none) = some a := ha
    refine mz_oc_sm ?_
    try unfold mz_nx at ha
    repeat' split at ha
    all_goals first | (cases ha; done) | (cases ha; exact ⟨_, rfl, rfl⟩) | exact mz_if_c ha | exact mz_sw_c ha | exact mz_lk_c ha | exact mz_sto_c ha | exact mz_st_c ha | exact mz_ld_c ha
  | arraylength => 
    replace ha : (match (generalizing := false) st with
      | .ref a :: st => (match (generalizing := false) a with
        | 0 => (match (generalizing := false) X with
          | some x => mz_nx (pc + 1) L (.int (Int32.ofNat x.2) :: st) h
          | none => none)
        | a => if mz_tag h.1 a < 6 then mz_nx (pc + 1) L (.int (Int32.ofNat (mz_len h.1 a)) :: st) h else none)
      | _ => none) = some a := ha
    refine mz_oc_sm ?_
    try unfold mz_nx at ha
    repeat' split at ha
    all_goals first | (cases ha; done) | (cases ha; exact ⟨_, rfl, rfl⟩) | exact mz_if_c ha | exact mz_sw_c ha | exact mz_lk_c ha | exact mz_sto_c ha | exact mz_st_c ha | exact mz_ld_c ha
  | iaload => 
    replace ha : (match (generalizing := false) st with
      | .int i :: .ref 0 :: st => (match (generalizing := false) X with
        | some x => if mz_ok i x.2 = true then mz_nx (pc + 1) L (.int (x.1 i.toNatClampNeg) :: st) h else none
        | none => none)
      | _ => mz_ld 0 0 pc L st h) = some a := ha
    refine mz_oc_sm ?_
    try unfold mz_nx at ha
    repeat' split at ha
    all_goals first | (cases ha; done) | (cases ha; exact ⟨_, rfl, rfl⟩) | exact mz_if_c ha | exact mz_sw_c ha | exact mz_lk_c ha | exact mz_sto_c ha | exact mz_st_c ha | exact mz_ld_c ha
  | baload => exact mz_oc_sm (mz_ld_c ha)
  | saload => exact mz_oc_sm (mz_ld_c ha)
  | laload => 
    replace ha : (match (generalizing := false) st with
      | .int i :: .ref a :: st => if mz_tag h.1 a = 4 ∧ mz_ok i (mz_len h.1 a) = true then mz_nx (pc + 1) L (.long (mz_rl h.2 a i.toNatClampNeg) :: st) h else none
      | _ => none) = some a := ha
    refine mz_oc_sm ?_
    try unfold mz_nx at ha
    repeat' split at ha
    all_goals first | (cases ha; done) | (cases ha; exact ⟨_, rfl, rfl⟩) | exact mz_if_c ha | exact mz_sw_c ha | exact mz_lk_c ha | exact mz_sto_c ha | exact mz_st_c ha | exact mz_ld_c ha
  | aaload => 
    replace ha : (match (generalizing := false) st with
      | .int i :: .ref a :: st => if mz_tag h.1 a = 5 ∧ mz_ok i (mz_len h.1 a) = true then
          (match h.1.2 a i.toNatClampNeg with
          | some q => mz_nx (pc + 1) L (.ref q :: st) h
          | none => none)
        else none
      | _ => none) = some a := ha
    refine mz_oc_sm ?_
    try unfold mz_nx at ha
    repeat' split at ha
    all_goals first | (cases ha; done) | (cases ha; exact ⟨_, rfl, rfl⟩) | exact mz_if_c ha | exact mz_sw_c ha | exact mz_lk_c ha | exact mz_sto_c ha | exact mz_st_c ha | exact mz_ld_c ha
  | iastore => exact mz_oc_sm (mz_st_c ha)
  | sastore => exact mz_oc_sm (mz_st_c ha)
  | bastore => 
    replace ha : (match (generalizing := false) st with
      | .int _ :: .int _ :: .ref a :: _ => (match mz_tag h.1 a with
        | 1 => mz_st 1 (vp_nar .boolean) pc L st h
        | _ => mz_st 2 (vp_nar .byte) pc L st h)
      | _ => none) = some a := ha
    refine mz_oc_sm ?_
    try unfold mz_nx at ha
    repeat' split at ha
    all_goals first | (cases ha; done) | (cases ha; exact ⟨_, rfl, rfl⟩) | exact mz_if_c ha | exact mz_sw_c ha | exact mz_lk_c ha | exact mz_sto_c ha | exact mz_st_c ha | exact mz_ld_c ha
  | lastore => 
    replace ha : (match (generalizing := false) st with
      | .long x :: .int i :: .ref a :: st => if mz_tag h.1 a = 4 ∧ mz_ok i (mz_len h.1 a) = true then mz_nx (pc + 1) L st (mz_setm h (mz_wl h.2 a i.toNatClampNeg x)) else none
      | _ => none) = some a := ha
    refine mz_oc_sm ?_
    try unfold mz_nx at ha
    repeat' split at ha
    all_goals first | (cases ha; done) | (cases ha; exact ⟨_, rfl, rfl⟩) | exact mz_if_c ha | exact mz_sw_c ha | exact mz_lk_c ha | exact mz_sto_c ha | exact mz_st_c ha | exact mz_ld_c ha
  | aastore => 
    replace ha : (match (generalizing := false) st with
      | .ref v :: .int i :: .ref a :: st => if mz_tag h.1 a = 5 ∧ mz_tag h.1 v = 12 ∧ mz_ok i (mz_len h.1 a) = true then mz_nx (pc + 1) L st ((h.1.1, mz_wq h.1.2 a i.toNatClampNeg v), h.2) else none
      | _ => none) = some a := ha
    refine mz_oc_sm ?_
    try unfold mz_nx at ha
    repeat' split at ha
    all_goals first | (cases ha; done) | (cases ha; exact ⟨_, rfl, rfl⟩) | exact mz_if_c ha | exact mz_sw_c ha | exact mz_lk_c ha | exact mz_sto_c ha | exact mz_st_c ha | exact mz_ld_c ha
  | getfield _ => exact mz_oc_sm (mz_get_c ha)
  | putfield _ => exact mz_oc_sm (mz_put_c ha)
  | new i => 
    replace ha : (if h.1.1.length < 900000 then mz_nx (pc + 3) L (.ref h.1.1.length :: st) (mz_new h (6 + r.1) r.2.1) else none) = some a := ha
    split at ha
    next => exact mz_oc_new ha
    next => cases ha
  | newarray t => 
    replace ha : (match (generalizing := false) st with
      | .int n :: st => if h.1.1.length < 900000 ∧ ¬ n < 0 ∧ n.toNatClampNeg ≤ 60000000 ∧ mz_atag t < 5 then mz_nx (pc + 2) L (.ref h.1.1.length :: st) (mz_new h (mz_atag t) n.toNatClampNeg) else none
      | _ => none) = some a := ha
    split at ha
    next =>
      split at ha
      next => exact mz_oc_new ha
      next => cases ha
    next => cases ha
  | anewarray i => 
    replace ha : (match (generalizing := false) st with
      | .int n :: st => if h.1.1.length < 900000 ∧ ¬ n < 0 ∧ n.toNatClampNeg ≤ 60000000 then mz_nx (pc + 3) L (.ref h.1.1.length :: st) (mz_new h 5 n.toNatClampNeg) else none
      | _ => none) = some a := ha
    split at ha
    next =>
      split at ha
      next => exact mz_oc_new ha
      next => cases ha
    next => cases ha
  | invokevirtual i => 
    replace ha : (match r.1 with
      | 9990 => mz_sln pc L st h
      | 9991 => mz_sch pc L st h
      | 9992 => mz_six pc L st h
      | n => mz_inv n r.2.1 r.2.2 st h) = some a := ha
    split at ha
    next => exact mz_oc_sm (mz_sln_c ha)
    next => exact mz_oc_sm (mz_sch_c ha)
    next => exact mz_oc_sm (mz_six_c ha)
    next e1 e2 e3 => exact Or.inr (Or.inr ⟨i, Or.inl ⟨rfl, ha, e1, e2, e3⟩⟩)
  | invokespecial i => 
    replace ha : (match r.1 with
      | 9999 => (match (generalizing := false) st with
        | .ref _ :: st => if (st.map fun v => v.category).sum ≤ 8 then mz_nx (pc + 3) L st h else none
        | _ => none)
      | n => mz_inv n r.2.1 r.2.2 st h) = some a := ha
    split at ha
    next =>
      refine mz_oc_sm ?_
      unfold mz_nx at ha
      repeat' split at ha
      all_goals first | (cases ha; done) | (cases ha; exact ⟨_, rfl, rfl⟩)
    next e1 => exact Or.inr (Or.inr ⟨i, Or.inr (Or.inl ⟨rfl, ha, e1⟩)⟩)
  | invokestatic i => 
    replace ha : (match r.1 with
      | 9998 => mz_cpy pc L st h
      | 9997 => mz_mth (fun x y => if x < y then y else x) pc L st h
      | 9996 => mz_mth (fun x y => if y < x then y else x) pc L st h
      | 9995 => mz_abs pc L st h
      | n => mz_inv n r.2.1 1000 st h) = some a := ha
    split at ha
    next => exact mz_oc_sm (mz_cpy_c ha)
    next => exact mz_oc_sm (mz_mth_c ha)
    next => exact mz_oc_sm (mz_mth_c ha)
    next => exact mz_oc_sm (mz_abs_c ha)
    next e1 e2 e3 e4 => exact Or.inr (Or.inr ⟨i, Or.inr (Or.inr ⟨rfl, ha, e1, e2, e3, e4⟩)⟩)
  | ireturn => 
    replace ha : (match (generalizing := false) st with
      | [.int v] => (some (.inr (.inr [.int v])) : MzA)
      | _ => none) = some a := ha
    split at ha
    next => cases ha; exact Or.inr (Or.inl ⟨rfl, rfl, Or.inr (Or.inl ⟨_, rfl⟩)⟩)
    next => cases ha
  | lreturn => 
    replace ha : (match (generalizing := false) st with
      | [.long v] => (some (.inr (.inr [.long v])) : MzA)
      | _ => none) = some a := ha
    split at ha
    next => cases ha; exact Or.inr (Or.inl ⟨rfl, rfl, Or.inr (Or.inr ⟨_, rfl⟩)⟩)
    next => cases ha
  | return_ => 
    replace ha : (match (generalizing := false) st with
      | [] => (some (.inr (.inr [])) : MzA)
      | _ => none) = some a := ha
    split at ha
    next => cases ha; exact Or.inr (Or.inl ⟨rfl, rfl, Or.inl rfl⟩)
    next => cases ha
  | _ => exact absurd (show (none : MzA) = some a from ha) (fun z => by cases z)
end MzCases
theorem mz_ex_len (X : MzX) : ∀ (n d M pc : Nat) (L : MzL) (st : List Value) (h : MzH) (r : List Value × MzH), mz_ex X n d M pc L st h = some r → h.1.1.length ≤ r.2.1.1.length ∧ mz_sz h.1 ≤ mz_sz r.2.1 := by
  intro n
  induction n with
  | zero => intro d M pc L st h r H; simp [mz_ex] at H
  | succ n ih =>
    intro d M pc L st h r H
    rw [mz_ex] at H
    cases he : mz_fd (mz_code M) pc with
    | none => rw [he] at H; cases H
    | some en =>
      rw [he] at H
      dsimp only at H
      cases ha : mz_act X en.2.1 en.2.2.2.1 pc (mz_mask en.2.2.2.2 L) st h with
      | none => rw [ha] at H; cases H
      | some a =>
        rw [ha] at H
        rcases a with q | q | vs
        · dsimp only at H
          have h1 := ih _ _ _ _ _ _ _ H
          rcases mz_act_oc ha with ⟨q', hq, h2, h3⟩ | ⟨hq, -⟩ | ⟨i, ⟨-, hq, -⟩ | ⟨-, hq, -⟩ | ⟨-, hq, -⟩⟩
          · cases hq
            exact ⟨Nat.le_trans h2 h1.1, Nat.le_trans h3 h1.2⟩
          · cases hq
          · cases (mz_inv_c hq).1
          · cases (mz_inv_c hq).1
          · cases (mz_inv_c hq).1
        · dsimp only at H
          cases hd : mz_dc M q.1 d q.2.1 with
          | none => rw [hd] at H; cases H
          | some d' =>
            rw [hd] at H
            dsimp only at H
            cases hx : mz_ex X n d' q.1 0 (mz_en (mz_xl q.1) q.2.1) [] h with
            | none => rw [hx] at H; cases H
            | some u =>
              rw [hx] at H
              have h1 := ih _ _ _ _ _ _ _ H
              have h2 := ih _ _ _ _ _ _ _ hx
              exact ⟨Nat.le_trans h2.1 h1.1, Nat.le_trans h2.2 h1.2⟩
        · dsimp only at H
          by_cases hk : mz_ko (mz_rt M) vs = true
          · rw [if_pos hk] at H
            cases H
            exact ⟨Nat.le_refl _, Nat.le_refl _⟩
          · rw [if_neg hk] at H
            cases H
