/-! EQUATIONS of the abstract machine behind the constructors: the heap's shape is fixed, its numbers are a pair of functions -/
noncomputable def mz_S0 : MzS := Classical.choose (⟨mz_h2.1, rfl⟩ : ∃ S : MzS, S = mz_h2.1)
theorem mz_S0_eq : mz_S0 = mz_h2.1 := Classical.choose_spec (⟨mz_h2.1, rfl⟩ : ∃ S : MzS, S = mz_h2.1)
noncomputable abbrev mz_T (d M pc : Nat) (L : MzL) (st : List Value) (m : MzM) : MzR := mz_At none d M pc L st (mz_S0, m)
def mz_cI (u : MzR) : Option (Int32 × MzM) := match u with
  | some ([.int v], h) => some (v, h.2)
  | _ => none
def mz_cV (u : MzR) : Option MzM := match u with
  | some ([], h) => some h.2
  | _ => none
def mz_cJ (u : MzR) : Option (Int64 × MzM) := match u with
  | some ([.long v], h) => some (v, h.2)
  | _ => none
/-- a guard -/
def mz_g {γ : Type} (b : Bool) (r : Option γ) : Option γ := match b with
  | true => r
  | false => none
noncomputable def mz_rI (d N : Nat) (vs : List Value) (m : MzM) : Option (Int32 × MzM) := mz_cI (mz_run none d N vs (mz_S0, m))
noncomputable def mz_rV (d N : Nat) (vs : List Value) (m : MzM) : Option MzM := mz_cV (mz_run none d N vs (mz_S0, m))
noncomputable def mz_rJ (d N : Nat) (vs : List Value) (m : MzM) : Option (Int64 × MzM) := mz_cJ (mz_run none d N vs (mz_S0, m))
/-! methods that make nothing keep the shape -/
def mz_na (M : Nat) : Bool := Nat.blt M 291 && !decide ((mz_y M).name = "<init>")
def mz_nae (e : MzE) : Bool := match e.2.1 with
  | .new _ | .newarray _ | .anewarray _ | .aastore | .invokespecial _ => false
  | .putfield _ => !Nat.beq e.2.2.2.1.2.2 2
  | .invokevirtual _ => Nat.beq e.2.2.2.1.1 9990 || Nat.beq e.2.2.2.1.1 9991 || Nat.beq e.2.2.2.1.1 9992 || mz_na e.2.2.2.1.1
  | .invokestatic _ => Nat.beq e.2.2.2.1.1 9998 || Nat.beq e.2.2.2.1.1 9997 || Nat.beq e.2.2.2.1.1 9996 || Nat.beq e.2.2.2.1.1 9995 || mz_na e.2.2.2.1.1
  | _ => true
theorem mz_na_ok : ((List.range 291).all fun M => !mz_na M || (mz_code M).all mz_nae) = true := by decide +kernel
theorem mz_na_at {M pc : Nat} {e : MzE} (hM : mz_na M = true) (he : mz_fd (mz_code M) pc = some e) : mz_nae e = true := by
  have hl : M < 291 := by
    unfold mz_na at hM
    simp only [Bool.and_eq_true] at hM
    exact Nat.le_of_ble_eq_true hM.1
  have h := List.all_eq_true.mp mz_na_ok M (List.mem_range.mpr hl)
  rw [hM] at h
  simp only [Bool.not_true, Bool.false_or] at h
  exact List.all_eq_true.mp h e (mz_fd_mem _ _ _ he).1
/-- what keeps the shape and the references -/
def mz_sk (h : MzH) (a : (Nat × MzL × List Value × MzH) ⊕ ((Nat × List Value × List Value) ⊕ List Value)) : Prop := ∀ q, a = .inl q → q.2.2.2.1 = h.1
section MzKeeps
variable {X : MzX} {pc : Nat} {L : MzL} {st : List Value} {h : MzH} {a : (Nat × MzL × List Value × MzH) ⊕ ((Nat × List Value × List Value) ⊕ List Value)}

theorem mz_nx_k (ha : mz_nx pc L st h = some a) : mz_sk h a := by
  unfold mz_nx at ha
  cases ha
  exact fun q hq => by cases hq; rfl
theorem mz_jp_k {off : Int} (ha : mz_jp pc off L st h = some a) : mz_sk h a := by
  unfold mz_jp mz_nx at ha
  repeat' split at ha
  all_goals first | (cases ha; done) | (cases ha; exact fun q hq => by cases hq; rfl)
theorem mz_sto_k {Lo : Option MzL} (ha : mz_sto pc Lo st h = some a) : mz_sk h a := by
  unfold mz_sto mz_nx at ha
  repeat' split at ha
  all_goals first | (cases ha; done) | (cases ha; exact fun q hq => by cases hq; rfl)
theorem mz_il_k {i : Nat} (ha : mz_il pc i L st h = some a) : mz_sk h a := by
  unfold mz_il mz_nx at ha
  repeat' split at ha
  all_goals first | (cases ha; done) | (cases ha; exact fun q hq => by cases hq; rfl)
theorem mz_al_k {i : Nat} (ha : mz_al pc i L st h = some a) : mz_sk h a := by
  unfold mz_al mz_nx at ha
  repeat' split at ha
  all_goals first | (cases ha; done) | (cases ha; exact fun q hq => by cases hq; rfl)
theorem mz_ll_k {i : Nat} (ha : mz_ll pc i L st h = some a) : mz_sk h a := by
  unfold mz_ll mz_nx at ha
  repeat' split at ha
  all_goals first | (cases ha; done) | (cases ha; exact fun q hq => by cases hq; rfl)
theorem mz_is_k {i : Nat} (ha : mz_is pc i L st h = some a) : mz_sk h a := by
  unfold mz_is mz_sto mz_nx at ha
  repeat' split at ha
  all_goals first | (cases ha; done) | (cases ha; exact fun q hq => by cases hq; rfl)
theorem mz_as_k {i : Nat} (ha : mz_as pc i L st h = some a) : mz_sk h a := by
  unfold mz_as mz_sto mz_nx at ha
  repeat' split at ha
  all_goals first | (cases ha; done) | (cases ha; exact fun q hq => by cases hq; rfl)
theorem mz_ls_k {i : Nat} (ha : mz_ls pc i L st h = some a) : mz_sk h a := by
  unfold mz_ls mz_sto mz_nx at ha
  repeat' split at ha
  all_goals first | (cases ha; done) | (cases ha; exact fun q hq => by cases hq; rfl)
theorem mz_bin_k {z : Int32 → Int32 → Option Int32} (ha : mz_bin z pc L st h = some a) : mz_sk h a := by
  unfold mz_bin mz_nx at ha
  repeat' split at ha
  all_goals first | (cases ha; done) | (cases ha; exact fun q hq => by cases hq; rfl)
theorem mz_lbin_k {z : Int64 → Int64 → Value} (ha : mz_lbin z pc L st h = some a) : mz_sk h a := by
  unfold mz_lbin mz_nx at ha
  repeat' split at ha
  all_goals first | (cases ha; done) | (cases ha; exact fun q hq => by cases hq; rfl)
theorem mz_un_k {z : Int32 → Value} (ha : mz_un z pc L st h = some a) : mz_sk h a := by
  unfold mz_un mz_nx at ha
  repeat' split at ha
  all_goals first | (cases ha; done) | (cases ha; exact fun q hq => by cases hq; rfl)
theorem mz_if_k {c : ClassFile.Cond} {off : Int} {x y : Int32} (ha : mz_if c off pc x y L st h = some a) : mz_sk h a := by
  unfold mz_if mz_nx at ha
  repeat' split at ha
  all_goals first | (cases ha; done) | (cases ha; exact fun q hq => by cases hq; rfl)
theorem mz_sw_k {d lo hi : Int} {offs : Array Int} {x : Int32} (ha : mz_sw pc d lo hi offs x L st h = some a) : mz_sk h a := by
  unfold mz_sw mz_jp mz_nx at ha
  repeat' split at ha
  all_goals first | (cases ha; done) | (cases ha; exact fun q hq => by cases hq; rfl)
theorem mz_lk_k {d : Int} {ps : Array (Int × Int)} {x : Int32} (ha : mz_lk pc d ps x L st h = some a) : mz_sk h a := by
  unfold mz_lk mz_jp mz_nx at ha
  repeat' split at ha
  all_goals first | (cases ha; done) | (cases ha; exact fun q hq => by cases hq; rfl)
theorem mz_ld_k {t1 t2 : Nat} (ha : mz_ld t1 t2 pc L st h = some a) : mz_sk h a := by
  unfold mz_ld mz_nx at ha
  repeat' split at ha
  all_goals first | (cases ha; done) | (cases ha; exact fun q hq => by cases hq; rfl)
theorem mz_st_k {t : Nat} {f : Int32 → Int32} (ha : mz_st t f pc L st h = some a) : mz_sk h a := by
  unfold mz_st mz_nx at ha
  repeat' split at ha
  all_goals first | (cases ha; done) | (cases ha; exact fun q hq => by cases hq; rfl)
theorem mz_get_k {r : Nat × Nat × Nat} (ha : mz_get r pc L st h = some a) : mz_sk h a := by
  unfold mz_get mz_nx at ha
  repeat' split at ha
  all_goals first | (cases ha; done) | (cases ha; exact fun q hq => by cases hq; rfl)
theorem mz_put_k {r : Nat × Nat × Nat} (hr : r.2.2 ≠ 2) (ha : mz_put r pc L st h = some a) : mz_sk h a := by
  unfold mz_put mz_nx at ha
  split at ha
  next =>
    split at ha
    next => cases ha; exact fun q hq => by cases hq; rfl
    next => cases ha
  next =>
    split at ha
    next hc => exact absurd hc.2.2 hr
    next => cases ha
  next => cases ha
theorem mz_cpy_k  (ha : mz_cpy pc L st h = some a) : mz_sk h a := by
  unfold mz_cpy mz_nx at ha
  repeat' split at ha
  all_goals first | (cases ha; done) | (cases ha; exact fun q hq => by cases hq; rfl)
theorem mz_mth_k {z : Int32 → Int32 → Int32} (ha : mz_mth z pc L st h = some a) : mz_sk h a := by
  unfold mz_mth mz_nx at ha
  repeat' split at ha
  all_goals first | (cases ha; done) | (cases ha; exact fun q hq => by cases hq; rfl)
theorem mz_abs_k  (ha : mz_abs pc L st h = some a) : mz_sk h a := by
  unfold mz_abs mz_nx at ha
  repeat' split at ha
  all_goals first | (cases ha; done) | (cases ha; exact fun q hq => by cases hq; rfl)
theorem mz_sln_k  (ha : mz_sln pc L st h = some a) : mz_sk h a := by
  unfold mz_sln mz_nx at ha
  repeat' split at ha
  all_goals first | (cases ha; done) | (cases ha; exact fun q hq => by cases hq; rfl)
theorem mz_sch_k  (ha : mz_sch pc L st h = some a) : mz_sk h a := by
  unfold mz_sch mz_nx at ha
  repeat' split at ha
  all_goals first | (cases ha; done) | (cases ha; exact fun q hq => by cases hq; rfl)
theorem mz_six_k  (ha : mz_six pc L st h = some a) : mz_sk h a := by
  unfold mz_six mz_nx at ha
  repeat' split at ha
  all_goals first | (cases ha; done) | (cases ha; exact fun q hq => by cases hq; rfl)
theorem mz_act_k {i : Instr} {r : Nat × Nat × Nat} {pc0 ln : Nat} {mk : List Bool} (hn : mz_nae (pc0, i, ln, r, mk) = true) (ha : mz_act X i r pc L st h = some a) : mz_sk h a := by
  cases i with
  | iconst _ => exact mz_nx_k ha
  | bipush _ => exact mz_nx_k ha
  | sipush _ => exact mz_nx_k ha
  | lconst _ => exact mz_nx_k ha
  | ldc_w _ => exact mz_nx_k ha
  | ldc2_w _ => exact mz_nx_k ha
  | ldc i => 
    replace ha : (match r.2.2 with
      | 0 => mz_nx (pc + 2) L (.int (Int32.ofNat r.1) :: st) h
      | _ => if r.1 = 1 ∨ r.1 = 2 then mz_nx (pc + 2) L (.ref (1000000 + r.1) :: st) h else none) = some a := ha
    unfold mz_nx at ha
    repeat' split at ha
    all_goals first | (cases ha; done) | (cases ha; exact fun q hq => by cases hq; rfl)
  | iload _ => exact mz_il_k ha
  | iload_n _ => exact mz_il_k ha
  | aload _ => exact mz_al_k ha
  | aload_n _ => exact mz_al_k ha
  | lload _ => exact mz_ll_k ha
  | lload_n _ => exact mz_ll_k ha
  | istore _ => exact mz_is_k ha
  | istore_n _ => exact mz_is_k ha
  | astore_n _ => exact mz_as_k ha
  | lstore _ => exact mz_ls_k ha
  | lstore_n _ => exact mz_ls_k ha
  | iadd => exact mz_bin_k (z := fun x y => some (x + y)) (pc := pc) (L := L) (st := st) ha
  | isub => exact mz_bin_k (z := fun x y => some (x - y)) (pc := pc) (L := L) (st := st) ha
  | imul => exact mz_bin_k (z := fun x y => some (x * y)) (pc := pc) (L := L) (st := st) ha
  | iand => exact mz_bin_k (z := fun x y => some (x &&& y)) (pc := pc) (L := L) (st := st) ha
  | ior => exact mz_bin_k (z := fun x y => some (x ||| y)) (pc := pc) (L := L) (st := st) ha
  | ixor => exact mz_bin_k (z := fun x y => some (x ^^^ y)) (pc := pc) (L := L) (st := st) ha
  | ishl => exact mz_bin_k (z := fun x y => some (x <<< (y &&& 31))) (pc := pc) (L := L) (st := st) ha
  | ishr => exact mz_bin_k (z := fun x y => some (x >>> (y &&& 31))) (pc := pc) (L := L) (st := st) ha
  | iushr => exact mz_bin_k (z := fun x y => some (x.toUInt32 >>> (y.toUInt32 &&& Int32.toUInt32 31)).toInt32) (pc := pc) (L := L) (st := st) ha
  | idiv => exact mz_bin_k (z := fun x y => if y = 0 then none else some (x / y)) (pc := pc) (L := L) (st := st) ha
  | irem => exact mz_bin_k (z := fun x y => if y = 0 then none else some (x - x / y * y)) (pc := pc) (L := L) (st := st) ha
  | ladd => exact mz_lbin_k ha
  | lmul => exact mz_lbin_k ha
  | lcmp => exact mz_lbin_k ha
  | ineg => exact mz_un_k ha
  | i2l => exact mz_un_k ha
  | i2b => exact mz_un_k ha
  | i2s => exact mz_un_k ha
  | i2c => exact mz_un_k ha
  | goto _ => exact mz_jp_k ha
  | iinc i n => 
    replace ha : (match mz_gl L i with
      | some (.int v) => mz_sto (pc + 3) (mz_sl L i (.int (v + Int32.ofInt n))) st h
      | _ => none) = some a := ha
    try unfold mz_nx at ha
    repeat' split at ha
    all_goals first | (cases ha; done) | (cases ha; exact fun q hq => by cases hq; rfl) | exact mz_if_k ha | exact mz_sw_k ha | exact mz_lk_k ha | exact mz_sto_k ha | exact mz_st_k ha | exact mz_ld_k ha
  | l2i => 
    replace ha : (match (generalizing := false) st with
      | .long x :: st => mz_nx (pc + 1) L (.int x.toInt32 :: st) h
      | _ => none) = some a := ha
    try unfold mz_nx at ha
    repeat' split at ha
    all_goals first | (cases ha; done) | (cases ha; exact fun q hq => by cases hq; rfl) | exact mz_if_k ha | exact mz_sw_k ha | exact mz_lk_k ha | exact mz_sto_k ha | exact mz_st_k ha | exact mz_ld_k ha
  | dup => 
    replace ha : (match (generalizing := false) st with
      | v :: st => if v.category = 1 then mz_nx (pc + 1) L (v :: v :: st) h else none
      | _ => none) = some a := ha
    try unfold mz_nx at ha
    repeat' split at ha
    all_goals first | (cases ha; done) | (cases ha; exact fun q hq => by cases hq; rfl) | exact mz_if_k ha | exact mz_sw_k ha | exact mz_lk_k ha | exact mz_sto_k ha | exact mz_st_k ha | exact mz_ld_k ha
  | pop => 
    replace ha : (match (generalizing := false) st with
      | v :: st => if v.category = 1 then mz_nx (pc + 1) L st h else none
      | _ => none) = some a := ha
    try unfold mz_nx at ha
    repeat' split at ha
    all_goals first | (cases ha; done) | (cases ha; exact fun q hq => by cases hq; rfl) | exact mz_if_k ha | exact mz_sw_k ha | exact mz_lk_k ha | exact mz_sto_k ha | exact mz_st_k ha | exact mz_ld_k ha
  | dup2 => 
    replace ha : (match (generalizing := false) st with
      | v :: w :: st => if v.category = 1 ∧ w.category = 1 then mz_nx (pc + 1) L (v :: w :: v :: w :: st) h else none
      | _ => none) = some a := ha
    try unfold mz_nx at ha
    repeat' split at ha
    all_goals first | (cases ha; done) | (cases ha; exact fun q hq => by cases hq; rfl) | exact mz_if_k ha | exact mz_sw_k ha | exact mz_lk_k ha | exact mz_sto_k ha | exact mz_st_k ha | exact mz_ld_k ha
  | ifCond cnd off => 
    replace ha : (match (generalizing := false) st with
      | .int x :: st => mz_if cnd off pc x 0 L st h
      | _ => none) = some a := ha
    try unfold mz_nx at ha
    repeat' split at ha
    all_goals first | (cases ha; done) | (cases ha; exact fun q hq => by cases hq; rfl) | exact mz_if_k ha | exact mz_sw_k ha | exact mz_lk_k ha | exact mz_sto_k ha | exact mz_st_k ha | exact mz_ld_k ha
  | if_icmp cnd off => 
    replace ha : (match (generalizing := false) st with
      | .int y :: .int x :: st => mz_if cnd off pc x y L st h
      | _ => none) = some a := ha
    try unfold mz_nx at ha
    repeat' split at ha
    all_goals first | (cases ha; done) | (cases ha; exact fun q hq => by cases hq; rfl) | exact mz_if_k ha | exact mz_sw_k ha | exact mz_lk_k ha | exact mz_sto_k ha | exact mz_st_k ha | exact mz_ld_k ha
  | tableswitch d lo hi offs => 
    replace ha : (match (generalizing := false) st with
      | .int x :: st => mz_sw pc d lo hi offs x L st h
      | _ => none) = some a := ha
    try unfold mz_nx at ha
    repeat' split at ha
    all_goals first | (cases ha; done) | (cases ha; exact fun q hq => by cases hq; rfl) | exact mz_if_k ha | exact mz_sw_k ha | exact mz_lk_k ha | exact mz_sto_k ha | exact mz_st_k ha | exact mz_ld_k ha
  | lookupswitch d ps => 
    replace ha : (match (generalizing := false) st with
      | .int x :: st => mz_lk pc d ps x L st h
      | _ => none) = some a := ha
    try unfold mz_nx at ha
    repeat' split at ha
    all_goals first | (cases ha; done) | (cases ha; exact fun q hq => by cases hq; rfl) | exact mz_if_k ha | exact mz_sw_k ha | exact mz_lk_k ha | exact mz_sto_k ha | exact mz_st_k ha | exact mz_ld_k ha
  | arraylength => 
    replace ha : (match (generalizing := false) st with
      | .ref a :: st => (match (generalizing := false) a with
        | 0 => (match (generalizing := false) X with
          | some x => mz_nx (pc + 1) L (.int (Int32.ofNat x.2) :: st) h
          | none => none)
        | a => if mz_tag h.1 a < 6 then mz_nx (pc + 1) L (.int (Int32.ofNat (mz_len h.1 a)) :: st) h else none)
      | _ => none) = some a := ha
    try unfold mz_nx at ha
    repeat' split at ha
    all_goals first | (cases ha; done) | (cases ha; exact fun q hq => by cases hq; rfl) | exact mz_if_k ha | exact mz_sw_k ha | exact mz_lk_k ha | exact mz_sto_k ha | exact mz_st_k ha | exact mz_ld_k ha
  | iaload => 
    replace ha : (match (generalizing := false) st with
      | .int i :: .ref 0 :: st => (match (generalizing := false) X with
        | some x => if mz_ok i x.2 = true then mz_nx (pc + 1) L (.int (x.1 i.toNatClampNeg) :: st) h else none
        | none => none)
      | _ => mz_ld 0 0 pc L st h) = some a := ha
    try unfold mz_nx at ha
    repeat' split at ha
    all_goals first | (cases ha; done) | (cases ha; exact fun q hq => by cases hq; rfl) | exact mz_if_k ha | exact mz_sw_k ha | exact mz_lk_k ha | exact mz_sto_k ha | exact mz_st_k ha | exact mz_ld_k ha
  | baload => exact mz_ld_k ha
  | saload => exact mz_ld_k ha
  | laload => 
    replace ha : (match (generalizing := false) st with
      | .int i :: .ref a :: st => if mz_tag h.1 a = 4 ∧ mz_ok i (mz_len h.1 a) = true then mz_nx (pc + 1) L (.long (mz_rl h.2 a i.toNatClampNeg) :: st) h else none
      | _ => none) = some a := ha
    try unfold mz_nx at ha
    repeat' split at ha
    all_goals first | (cases ha; done) | (cases ha; exact fun q hq => by cases hq; rfl) | exact mz_if_k ha | exact mz_sw_k ha | exact mz_lk_k ha | exact mz_sto_k ha | exact mz_st_k ha | exact mz_ld_k ha
  | aaload => 
    replace ha : (match (generalizing := false) st with
      | .int i :: .ref a :: st => if mz_tag h.1 a = 5 ∧ mz_ok i (mz_len h.1 a) = true then
          (match h.1.2 a i.toNatClampNeg with
          | some q => mz_nx (pc + 1) L (.ref q :: st) h
          | none => none)
        else none
      | _ => none) = some a := ha
    try unfold mz_nx at ha
    repeat' split at ha
    all_goals first | (cases ha; done) | (cases ha; exact fun q hq => by cases hq; rfl) | exact mz_if_k ha | exact mz_sw_k ha | exact mz_lk_k ha | exact mz_sto_k ha | exact mz_st_k ha | exact mz_ld_k ha
  | iastore => exact mz_st_k ha
  | sastore => exact mz_st_k ha
  | bastore => 
    replace ha : (match (generalizing := false) st with
      | .int _ :: .int _ :: .ref a :: _ => (match mz_tag h.1 a with
        | 1 => mz_st 1 (vp_nar .boolean) pc L st h
        | _ => mz_st 2 (vp_nar .byte) pc L st h)
      | _ => none) = some a := ha
    try unfold mz_nx at ha
    repeat' split at ha
    all_goals first | (cases ha; done) | (cases ha; exact fun q hq => by cases hq; rfl) | exact mz_if_k ha | exact mz_sw_k ha | exact mz_lk_k ha | exact mz_sto_k ha | exact mz_st_k ha | exact mz_ld_k ha
  | lastore => 
    replace ha : (match (generalizing := false) st with
      | .long x :: .int i :: .ref a :: st => if mz_tag h.1 a = 4 ∧ mz_ok i (mz_len h.1 a) = true then mz_nx (pc + 1) L st (mz_setm h (mz_wl h.2 a i.toNatClampNeg x)) else none
      | _ => none) = some a := ha
    try unfold mz_nx at ha
    repeat' split at ha
    all_goals first | (cases ha; done) | (cases ha; exact fun q hq => by cases hq; rfl) | exact mz_if_k ha | exact mz_sw_k ha | exact mz_lk_k ha | exact mz_sto_k ha | exact mz_st_k ha | exact mz_ld_k ha
  | aastore => exact absurd hn (by intro z; cases z)
  | getfield _ => exact mz_get_k ha
  | putfield _ => exact mz_put_k (fun z => by rw [show mz_nae (pc0, .putfield _, ln, r, mk) = !Nat.beq r.2.2 2 from rfl, z] at hn; cases hn) ha
  | new i => exact absurd hn (by intro z; cases z)
  | newarray t => exact absurd hn (by intro z; cases z)
  | anewarray i => exact absurd hn (by intro z; cases z)
  | invokevirtual i => 
    replace ha : (match r.1 with
      | 9990 => mz_sln pc L st h
      | 9991 => mz_sch pc L st h
      | 9992 => mz_six pc L st h
      | n => mz_inv n r.2.1 r.2.2 st h) = some a := ha
    split at ha
    next => exact mz_sln_k ha
    next => exact mz_sch_k ha
    next => exact mz_six_k ha
    next => exact fun q hq => by subst hq; exact absurd (mz_inv_no ha) id
  | invokespecial i => exact absurd hn (by intro z; cases z)
  | invokestatic i => 
    replace ha : (match r.1 with
      | 9998 => mz_cpy pc L st h
      | 9997 => mz_mth (fun x y => if x < y then y else x) pc L st h
      | 9996 => mz_mth (fun x y => if y < x then y else x) pc L st h
      | 9995 => mz_abs pc L st h
      | n => mz_inv n r.2.1 1000 st h) = some a := ha
    split at ha
    next => exact mz_cpy_k ha
    next => exact mz_mth_k ha
    next => exact mz_mth_k ha
    next => exact mz_abs_k ha
    next => exact fun q hq => by subst hq; exact absurd (mz_inv_no ha) id
  | ireturn => 
    replace ha : (match (generalizing := false) st with
      | [.int v] => (some (.inr (.inr [.int v])) : MzA)
      | _ => none) = some a := ha
    split at ha
    next => cases ha; exact fun q hq => by cases hq
    next => cases ha
  | lreturn => 
    replace ha : (match (generalizing := false) st with
      | [.long v] => (some (.inr (.inr [.long v])) : MzA)
      | _ => none) = some a := ha
    split at ha
    next => cases ha; exact fun q hq => by cases hq
    next => cases ha
  | return_ => 
    replace ha : (match (generalizing := false) st with
      | [] => (some (.inr (.inr [])) : MzA)
      | _ => none) = some a := ha
    split at ha
    next => cases ha; exact fun q hq => by cases hq
    next => cases ha
  | _ => exact absurd (show (none : MzA) = some a from ha) (fun z => by cases z)
end MzKeeps
theorem mz_na_call {X : MzX} {M pc : Nat} {L : MzL} {st : List Value} {h : MzH} {e : MzE} {q : Nat × List Value × List Value} (hn : mz_nae e = true) (ha : mz_act X e.2.1 e.2.2.2.1 pc L st h = some (.inr (.inl q))) : mz_na q.1 = true := by
  obtain ⟨pc0, i, ln, r, mk⟩ := e
  dsimp only at ha
  rcases mz_act_oc ha with ⟨q', hq, -⟩ | ⟨hq, -⟩ | ⟨idx, ⟨hi, hq, w1, w2, w3⟩ | ⟨hi, hq, w1⟩ | ⟨hi, hq, w1, w2, w3, w4⟩⟩
  · cases hq
  · cases hq
  · cases (mz_inv_c hq).1
    subst hi
    have hn : (Nat.beq r.1 9990 || Nat.beq r.1 9991 || Nat.beq r.1 9992 || mz_na r.1) = true := hn
    simp only [Bool.or_eq_true] at hn
    rcases hn with ((z | z) | z) | z
    · exact absurd (Nat.eq_of_beq_eq_true z) w1
    · exact absurd (Nat.eq_of_beq_eq_true z) w2
    · exact absurd (Nat.eq_of_beq_eq_true z) w3
    · exact z
  · subst hi
    cases hn
  · cases (mz_inv_c hq).1
    subst hi
    have hn : (Nat.beq r.1 9998 || Nat.beq r.1 9997 || Nat.beq r.1 9996 || Nat.beq r.1 9995 || mz_na r.1) = true := hn
    simp only [Bool.or_eq_true] at hn
    rcases hn with (((z | z) | z) | z) | z
    · exact absurd (Nat.eq_of_beq_eq_true z) w1
    · exact absurd (Nat.eq_of_beq_eq_true z) w2
    · exact absurd (Nat.eq_of_beq_eq_true z) w3
    · exact absurd (Nat.eq_of_beq_eq_true z) w4
    · exact z
theorem mz_ex_keep (X : MzX) : ∀ (n d M pc : Nat) (L : MzL) (st : List Value) (h : MzH) (r : List Value × MzH), mz_na M = true → mz_ex X n d M pc L st h = some r → r.2.1 = h.1 := by
  intro n
  induction n with
  | zero => intro d M pc L st h r _ H; simp [mz_ex] at H
  | succ n ih =>
    intro d M pc L st h r hM H
    rw [mz_ex] at H
    cases he : mz_fd (mz_code M) pc with
    | none => rw [he] at H; cases H
    | some en =>
      rw [he] at H
      dsimp only at H
      have hn := mz_na_at hM he
      cases ha : mz_act X en.2.1 en.2.2.2.1 pc (mz_mask en.2.2.2.2 L) st h with
      | none => rw [ha] at H; cases H
      | some a =>
        rw [ha] at H
        rcases a with q | q | vs
        · dsimp only at H
          have h1 := ih _ _ _ _ _ _ _ hM H
          rw [h1]
          exact mz_act_k (pc0 := en.1) (ln := en.2.2.1) (mk := en.2.2.2.2) hn ha q rfl
        · dsimp only at H
          cases hd : mz_dc M q.1 d q.2.1 with
          | none => rw [hd] at H; cases H
          | some d' =>
            rw [hd] at H
            dsimp only at H
            cases hx : mz_ex X n d' q.1 0 (mz_en (mz_xl q.1) q.2.1) [] h with
            | none => rw [hx] at H; cases H
            | some u =>
              rw [hx] at H
              have h1 := ih _ _ _ _ _ _ _ hM H
              have h2 := ih _ _ _ _ _ _ _ (mz_na_call (M := M) hn ha) hx
              rw [h1, h2]
        · dsimp only at H
          by_cases hk : mz_ko (mz_rt M) vs = true
          · rw [if_pos hk] at H
            cases H
            rfl
          · rw [if_neg hk] at H
            cases H
theorem mz_run_keep {X : MzX} {d N : Nat} {vs : List Value} {h : MzH} {u : List Value × MzH} (hN : mz_na N = true) (H : mz_run X d N vs h = some u) : u.2 = (h.1, u.2.2) ∧ mz_ko (mz_rt N) u.1 = true := by
  obtain ⟨n, hn⟩ := (mz_At_iff X).mp H
  exact ⟨by rw [← mz_ex_keep X _ _ _ _ _ _ _ _ hN hn], mz_ex_ko X _ _ _ _ _ _ _ _ hn⟩
