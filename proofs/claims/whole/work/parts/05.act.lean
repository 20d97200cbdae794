/-! an abstract machine: values with addresses counted from 0 on (0 is the script), a fixed table of shapes, and rows of numbers -/
abbrev MzL : Type := List (Option Value)
abbrev MzM : Type := (Nat → Nat → Int32) × (Nat → Nat → Int64)
abbrev MzS : Type := List (Nat × Nat) × (Nat → Nat → Option Nat)
abbrev MzH : Type := MzS × MzM
abbrev MzA : Type := Option ((Nat × MzL × List Value × MzH) ⊕ ((Nat × List Value × List Value) ⊕ List Value))
def mz_tag (h : MzS) (a : Nat) : Nat := match h.1[a]? with
  | some q => q.1
  | none => 1000
def mz_len (h : MzS) (a : Nat) : Nat := match h.1[a]? with
  | some q => q.2
  | none => 0
def mz_rd (m : MzM) (a i : Nat) : Int32 := m.1 a i
def mz_rl (m : MzM) (a i : Nat) : Int64 := m.2 a i
def mz_wr (m : MzM) (a i : Nat) (v : Int32) : MzM := (fun a' i' => if a' = a ∧ i' = i then v else m.1 a' i', m.2)
def mz_wl (m : MzM) (a i : Nat) (v : Int64) : MzM := (m.1, fun a' i' => if a' = a ∧ i' = i then v else m.2 a' i')
def mz_wq (f : Nat → Nat → Option Nat) (a i v : Nat) : Nat → Nat → Option Nat := fun a' i' => if a' = a ∧ i' = i then some v else f a' i'
/-- n elements of row a from sp on, to row b from dp on -/
def mz_cp (m : MzM) (a sp b dp n : Nat) : MzM := (fun a' i' => if a' = b ∧ dp ≤ i' ∧ i' < dp + n then m.1 a (sp + (i' - dp)) else m.1 a' i', m.2)
def mz_ok (i : Int32) (n : Nat) : Bool := !decide (i < 0) && decide (i.toNatClampNeg < n)
def mz_mask : List Bool → MzL → MzL
  | b :: bs, x :: L => (match b with
    | true => x
    | false => none) :: mz_mask bs L
  | _, L => L
def mz_gl (L : MzL) (i : Nat) : Option Value := match L[i]? with
  | some (some v) => some v
  | _ => none
def mz_pl (L : MzL) : Nat → Bool
  | 0 => false
  | i + 1 => match L[i]? with
    | some (some v) => v.category == 2
    | _ => false
def mz_sl (L : MzL) (i : Nat) (v : Value) : Option MzL := if i < L.length ∧ mz_pl L i = false then some (L.set i (some v)) else none
def mz_s2 (L : MzL) (i : Nat) (v : Value) : Option MzL := if i + 1 < L.length ∧ mz_pl L i = false then some ((L.set i (some v)).set (i + 1) none) else none
def mz_nx (pc : Nat) (L : MzL) (st : List Value) (h : MzH) : MzA := some (.inl (pc, L, st, h))
def mz_tg (pc : Nat) (off : Int) : Option Nat := if 0 ≤ (pc : Int) + off then some ((pc : Int) + off).toNat else none
def mz_jp (pc : Nat) (off : Int) (L : MzL) (st : List Value) (h : MzH) : MzA := match mz_tg pc off with
  | some t => mz_nx t L st h
  | none => none
def mz_sto (pc : Nat) (L : Option MzL) (st : List Value) (h : MzH) : MzA := match L with
  | some L => mz_nx pc L st h
  | none => none
def mz_cmp (c : ClassFile.Cond) (x y : Int32) : Bool := match c with
  | .eq => decide (x = y)
  | .ne => decide (¬ x = y)
  | .lt => decide (x < y)
  | .ge => decide (y ≤ x)
  | .gt => decide (y < x)
  | .le => decide (x ≤ y)
def mz_atag : ArrayType → Nat
  | .int => 0
  | .boolean => 1
  | .byte => 2
  | .short => 3
  | .long => 4
  | _ => 100
def mz_new (h : MzH) (tag n : Nat) : MzH := ((h.1.1 ++ [(tag, n)], h.1.2), h.2)
def mz_setm (h : MzH) (m : MzM) : MzH := (h.1, m)
/-- call of method n with k arguments, the first of which is an object of the kind t (1000: none is asked for) -/
def mz_inv (n k t : Nat) (st : List Value) (h : MzH) : MzA :=
  if k ≤ st.length ∧ ((st.drop k).map fun v => v.category).sum ≤ 8 then
    (match t with
    | 1000 => some (.inr (.inl (n, (st.take k).reverse, st.drop k)))
    | t => match (st.take k).reverse with
      | .ref b :: _ => if mz_tag h.1 b = t then some (.inr (.inl (n, (st.take k).reverse, st.drop k))) else none
      | _ => none)
  else none
def mz_cpy (pc : Nat) (L : MzL) (st : List Value) (h : MzH) : MzA := match st with
  | .int n :: .int dp :: .ref b :: .int sp :: .ref a :: st =>
    if mz_tag h.1 a = 0 ∧ mz_tag h.1 b = 0 ∧ ¬ sp < 0 ∧ ¬ dp < 0 ∧ ¬ n < 0 ∧ sp.toNatClampNeg + n.toNatClampNeg ≤ mz_len h.1 a ∧ dp.toNatClampNeg + n.toNatClampNeg ≤ mz_len h.1 b ∧ (st.map fun v => v.category).sum ≤ 8 then
      mz_nx (pc + 3) L st (mz_setm h (mz_cp h.2 a sp.toNatClampNeg b dp.toNatClampNeg n.toNatClampNeg))
    else none
  | _ => none
/-- the bytes of the two text constants -/
def mz_sb (a : Nat) : List Int32 := match a with
  | 1000001 => [112, 101, 114, 115, 111, 110, 32, 32, 115, 117, 105, 116, 32, 32, 32, 32, 115, 116, 97, 121, 115, 32, 32, 32, 113, 117, 97, 114, 114, 101, 108, 115, 100, 117, 108, 108, 115, 32, 32, 32, 99, 111, 115, 116, 115, 32, 32, 32, 112, 108, 97, 116, 101, 32, 32, 32, 116, 104, 117, 109, 98, 32, 32, 32, 115, 101, 101, 100, 32, 32, 32, 32, 105, 102, 32, 32, 32, 32, 32, 32, 116, 104, 101, 110, 32, 32, 32, 32, 101, 108, 115, 101, 32, 32, 32, 32, 115, 116, 117, 102, 102, 32, 32, 32, 102, 105, 110, 101, 32, 32, 32, 32, 100, 117, 108, 108, 32, 32, 32, 32, 114, 101, 115, 116, 32, 32, 32, 32, 97, 108, 108, 32, 32, 32, 32, 32, 97, 112, 97, 114, 116, 32, 32, 32, 100, 97, 121, 32, 32, 32, 32, 32, 116, 117, 114, 110, 115, 32, 32, 32, 109, 111, 115, 116, 32, 32, 32, 32]
  | 1000002 => [59, 61, 43, 45, 42, 47, 60, 40, 41]
  | _ => []
def mz_ixF (c : Int32) : List Int32 → Nat → Int32
  | [], _ => -1
  | b :: l, k => if b = c then nI k else mz_ixF c l (k + 1)
def mz_sln (pc : Nat) (L : MzL) (st : List Value) (h : MzH) : MzA := match st with
  | .ref a :: st => if (a = 1000001 ∨ a = 1000002) ∧ (st.map fun v => v.category).sum ≤ 8 then mz_nx (pc + 3) L (.int (nI (mz_sb a).length) :: st) h else none
  | _ => none
def mz_sch (pc : Nat) (L : MzL) (st : List Value) (h : MzH) : MzA := match st with
  | .int i :: .ref a :: st => if (a = 1000001 ∨ a = 1000002) ∧ mz_ok i (mz_sb a).length = true ∧ (st.map fun v => v.category).sum ≤ 8 then mz_nx (pc + 3) L (.int ((mz_sb a).getD i.toNatClampNeg 0) :: st) h else none
  | _ => none
def mz_six (pc : Nat) (L : MzL) (st : List Value) (h : MzH) : MzA := match st with
  | .int c :: .ref a :: st => if (a = 1000001 ∨ a = 1000002) ∧ (st.map fun v => v.category).sum ≤ 8 then mz_nx (pc + 3) L (.int (mz_ixF c (mz_sb a) 0) :: st) h else none
  | _ => none
def mz_mth (z : Int32 → Int32 → Int32) (pc : Nat) (L : MzL) (st : List Value) (h : MzH) : MzA := match st with
  | .int y :: .int x :: st => if (st.map fun v => v.category).sum ≤ 8 then mz_nx (pc + 3) L (.int (z x y) :: st) h else none
  | _ => none
def mz_abs (pc : Nat) (L : MzL) (st : List Value) (h : MzH) : MzA := match st with
  | .int x :: st => if (st.map fun v => v.category).sum ≤ 8 then mz_nx (pc + 3) L (.int (if 0 ≤ x then x else 0 - x) :: st) h else none
  | _ => none
def mz_put (r : Nat × Nat × Nat) (pc : Nat) (L : MzL) (st : List Value) (h : MzH) : MzA := match st with
  | .int v :: .ref a :: st => if mz_tag h.1 a = 6 + r.1 ∧ r.2.1 < mz_len h.1 a ∧ (r.2.2 = 0 ∨ (r.2.2 = 1 ∧ (v = 0 ∨ v = 1))) then mz_nx (pc + 3) L st (mz_setm h (mz_wr h.2 a r.2.1 v)) else none
  | .ref v :: .ref a :: st => if mz_tag h.1 a = 6 + r.1 ∧ r.2.1 < mz_len h.1 a ∧ r.2.2 = 2 then mz_nx (pc + 3) L st ((h.1.1, mz_wq h.1.2 a r.2.1 v), h.2) else none
  | _ => none
def mz_get (r : Nat × Nat × Nat) (pc : Nat) (L : MzL) (st : List Value) (h : MzH) : MzA := match st with
  | .ref a :: st => if mz_tag h.1 a = 6 + r.1 ∧ r.2.1 < mz_len h.1 a then
      (match r.2.2 with
      | 2 => (match h.1.2 a r.2.1 with
        | some q => mz_nx (pc + 3) L (.ref q :: st) h
        | none => none)
      | _ => mz_nx (pc + 3) L (.int (mz_rd h.2 a r.2.1) :: st) h)
    else none
  | _ => none
def mz_ld (t1 t2 : Nat) (pc : Nat) (L : MzL) (st : List Value) (h : MzH) : MzA := match st with
  | .int i :: .ref a :: st => if (mz_tag h.1 a = t1 ∨ mz_tag h.1 a = t2) ∧ mz_ok i (mz_len h.1 a) = true then mz_nx (pc + 1) L (.int (mz_rd h.2 a i.toNatClampNeg) :: st) h else none
  | _ => none
def mz_st (t : Nat) (f : Int32 → Int32) (pc : Nat) (L : MzL) (st : List Value) (h : MzH) : MzA := match st with
  | .int x :: .int i :: .ref a :: st => if mz_tag h.1 a = t ∧ mz_ok i (mz_len h.1 a) = true then mz_nx (pc + 1) L st (mz_setm h (mz_wr h.2 a i.toNatClampNeg (f x))) else none
  | _ => none
def mz_sw (pc : Nat) (d lo hi : Int) (offs : Array Int) (x : Int32) (L : MzL) (st : List Value) (h : MzH) : MzA :=
  if x.toInt < lo ∨ hi < x.toInt then mz_jp pc d L st h else match offs[(x.toInt - lo).toNat]? with
    | some off => mz_jp pc off L st h
    | none => none
def mz_lk (pc : Nat) (d : Int) (ps : Array (Int × Int)) (x : Int32) (L : MzL) (st : List Value) (h : MzH) : MzA :=
  if (ps.toList.zip (ps.toList.drop 1)).all (fun (a, next) => a.1 < next.1) = true then mz_jp pc (Op.lookupswitch.offset ps.toList d x.toInt) L st h else none
def mz_bin (z : Int32 → Int32 → Option Int32) (pc : Nat) (L : MzL) (st : List Value) (h : MzH) : MzA := match st with
  | .int y :: .int x :: st => (match z x y with
    | some v => mz_nx (pc + 1) L (.int v :: st) h
    | none => none)
  | _ => none
def mz_lbin (z : Int64 → Int64 → Value) (pc : Nat) (L : MzL) (st : List Value) (h : MzH) : MzA := match st with
  | .long y :: .long x :: st => mz_nx (pc + 1) L (z x y :: st) h
  | _ => none
def mz_un (z : Int32 → Value) (pc : Nat) (L : MzL) (st : List Value) (h : MzH) : MzA := match st with
  | .int x :: st => mz_nx (pc + 1) L (z x :: st) h
  | _ => none
def mz_il (pc : Nat) (i : Nat) (L : MzL) (st : List Value) (h : MzH) : MzA := match mz_gl L i with
  | some (.int v) => mz_nx pc L (.int v :: st) h
  | _ => none
def mz_al (pc : Nat) (i : Nat) (L : MzL) (st : List Value) (h : MzH) : MzA := match mz_gl L i with
  | some (.ref v) => mz_nx pc L (.ref v :: st) h
  | _ => none
def mz_ll (pc : Nat) (i : Nat) (L : MzL) (st : List Value) (h : MzH) : MzA := match mz_gl L i with
  | some (.long v) => mz_nx pc L (.long v :: st) h
  | _ => none
def mz_is (pc : Nat) (i : Nat) (L : MzL) (st : List Value) (h : MzH) : MzA := match st with
  | .int v :: st => mz_sto pc (mz_sl L i (.int v)) st h
  | _ => none
def mz_as (pc : Nat) (i : Nat) (L : MzL) (st : List Value) (h : MzH) : MzA := match st with
  | .ref v :: st => mz_sto pc (mz_sl L i (.ref v)) st h
  | _ => none
def mz_ls (pc : Nat) (i : Nat) (L : MzL) (st : List Value) (h : MzH) : MzA := match st with
  | .long v :: st => mz_sto pc (mz_s2 L i (.long v)) st h
  | _ => none
def mz_if (c : ClassFile.Cond) (off : Int) (pc : Nat) (x y : Int32) (L : MzL) (st : List Value) (h : MzH) : MzA :=
  match mz_tg pc off with
  | none => none
  | some t => match mz_cmp c x y with
    | true => mz_nx t L st h
    | false => mz_nx (pc + 3) L st h
abbrev MzX : Type := Option ((Nat → Int32) × Nat)
def mz_act (X : MzX) (i : Instr) (r : Nat × Nat × Nat) (pc : Nat) (L : MzL) (st : List Value) (h : MzH) : MzA := match i with
  | .iconst k => mz_nx (pc + 1) L (.int (Int32.ofInt k) :: st) h
  | .bipush k => mz_nx (pc + 2) L (.int (Int8.ofInt k).toInt32 :: st) h
  | .sipush k => mz_nx (pc + 3) L (.int (Int16.ofInt k).toInt32 :: st) h
  | .lconst k => mz_nx (pc + 1) L (.long (Int64.ofNat k) :: st) h
  | .ldc _ => (match r.2.2 with
    | 0 => mz_nx (pc + 2) L (.int (Int32.ofNat r.1) :: st) h
    | _ => if r.1 = 1 ∨ r.1 = 2 then mz_nx (pc + 2) L (.ref (1000000 + r.1) :: st) h else none)
  | .ldc_w _ => mz_nx (pc + 3) L (.int (Int32.ofNat r.1) :: st) h
  | .ldc2_w _ => mz_nx (pc + 3) L (.long (Int64.ofNat r.1) :: st) h
  | .iload i => mz_il (pc + 2) i L st h
  | .iload_n i => mz_il (pc + 1) i L st h
  | .aload i => mz_al (pc + 2) i L st h
  | .aload_n i => mz_al (pc + 1) i L st h
  | .lload i => mz_ll (pc + 2) i L st h
  | .lload_n i => mz_ll (pc + 1) i L st h
  | .istore i => mz_is (pc + 2) i L st h
  | .istore_n i => mz_is (pc + 1) i L st h
  | .astore_n i => mz_as (pc + 1) i L st h
  | .lstore i => mz_ls (pc + 2) i L st h
  | .lstore_n i => mz_ls (pc + 1) i L st h
  | .iinc i k => (match mz_gl L i with
    | some (.int v) => mz_sto (pc + 3) (mz_sl L i (.int (v + Int32.ofInt k))) st h
    | _ => none)
  | .iadd => mz_bin (fun x y => some (x + y)) pc L st h
  | .isub => mz_bin (fun x y => some (x - y)) pc L st h
  | .imul => mz_bin (fun x y => some (x * y)) pc L st h
  | .iand => mz_bin (fun x y => some (x &&& y)) pc L st h
  | .ior => mz_bin (fun x y => some (x ||| y)) pc L st h
  | .ixor => mz_bin (fun x y => some (x ^^^ y)) pc L st h
  | .ishl => mz_bin (fun x y => some (x <<< (y &&& 31))) pc L st h
  | .ishr => mz_bin (fun x y => some (x >>> (y &&& 31))) pc L st h
  | .iushr => mz_bin (fun x y => some (x.toUInt32 >>> (y.toUInt32 &&& Int32.toUInt32 31)).toInt32) pc L st h
  | .idiv => mz_bin (fun x y => if y = 0 then none else some (x / y)) pc L st h
  | .irem => mz_bin (fun x y => if y = 0 then none else some (x - x / y * y)) pc L st h
  | .ineg => mz_un (fun x => .int (-x)) pc L st h
  | .ladd => mz_lbin (fun x y => .long (x + y)) pc L st h
  | .lmul => mz_lbin (fun x y => .long (x * y)) pc L st h
  | .lcmp => mz_lbin (fun x y => .int (lg_cmp x y)) pc L st h
  | .i2l => mz_un (fun x => .long x.toInt64) pc L st h
  | .i2b => mz_un (fun x => .int x.toInt8.toInt32) pc L st h
  | .i2s => mz_un (fun x => .int x.toInt16.toInt32) pc L st h
  | .i2c => mz_un (fun x => .int (x.toUInt32 % 65536).toInt32) pc L st h
  | .l2i => (match st with
    | .long x :: st => mz_nx (pc + 1) L (.int x.toInt32 :: st) h
    | _ => none)
  | .dup => (match st with
    | v :: st => if v.category = 1 then mz_nx (pc + 1) L (v :: v :: st) h else none
    | _ => none)
  | .dup2 => (match st with
    | v :: w :: st => if v.category = 1 ∧ w.category = 1 then mz_nx (pc + 1) L (v :: w :: v :: w :: st) h else none
    | _ => none)
  | .pop => (match st with
    | v :: st => if v.category = 1 then mz_nx (pc + 1) L st h else none
    | _ => none)
  | .ifCond c off => (match st with
    | .int x :: st => mz_if c off pc x 0 L st h
    | _ => none)
  | .if_icmp c off => (match st with
    | .int y :: .int x :: st => mz_if c off pc x y L st h
    | _ => none)
  | .goto off => mz_jp pc off L st h
  | .tableswitch d lo hi offs => (match st with
    | .int x :: st => mz_sw pc d lo hi offs x L st h
    | _ => none)
  | .lookupswitch d ps => (match st with
    | .int x :: st => mz_lk pc d ps x L st h
    | _ => none)
  | .arraylength => (match st with
    | .ref a :: st => (match a with
      | 0 => (match X with
        | some x => mz_nx (pc + 1) L (.int (Int32.ofNat x.2) :: st) h
        | none => none)
      | a => if mz_tag h.1 a < 6 then mz_nx (pc + 1) L (.int (Int32.ofNat (mz_len h.1 a)) :: st) h else none)
    | _ => none)
  | .iaload => (match st with
    | .int i :: .ref 0 :: st => (match X with
      | some x => if mz_ok i x.2 = true then mz_nx (pc + 1) L (.int (x.1 i.toNatClampNeg) :: st) h else none
      | none => none)
    | _ => mz_ld 0 0 pc L st h)
  | .baload => mz_ld 1 2 pc L st h
  | .saload => mz_ld 3 3 pc L st h
  | .laload => (match st with
    | .int i :: .ref a :: st => if mz_tag h.1 a = 4 ∧ mz_ok i (mz_len h.1 a) = true then mz_nx (pc + 1) L (.long (mz_rl h.2 a i.toNatClampNeg) :: st) h else none
    | _ => none)
  | .aaload => (match st with
    | .int i :: .ref a :: st => if mz_tag h.1 a = 5 ∧ mz_ok i (mz_len h.1 a) = true then
        (match h.1.2 a i.toNatClampNeg with
        | some q => mz_nx (pc + 1) L (.ref q :: st) h
        | none => none)
      else none
    | _ => none)
  | .iastore => mz_st 0 (fun x => x) pc L st h
  | .bastore => (match st with
    | .int _ :: .int _ :: .ref a :: _ => (match mz_tag h.1 a with
      | 1 => mz_st 1 (vp_nar .boolean) pc L st h
      | _ => mz_st 2 (vp_nar .byte) pc L st h)
    | _ => none)
  | .sastore => mz_st 3 (vp_nar .short) pc L st h
  | .lastore => (match st with
    | .long x :: .int i :: .ref a :: st => if mz_tag h.1 a = 4 ∧ mz_ok i (mz_len h.1 a) = true then mz_nx (pc + 1) L st (mz_setm h (mz_wl h.2 a i.toNatClampNeg x)) else none
    | _ => none)
  | .aastore => (match st with
    | .ref v :: .int i :: .ref a :: st => if mz_tag h.1 a = 5 ∧ mz_tag h.1 v = 12 ∧ mz_ok i (mz_len h.1 a) = true then mz_nx (pc + 1) L st ((h.1.1, mz_wq h.1.2 a i.toNatClampNeg v), h.2) else none
    | _ => none)
  | .getfield _ => mz_get r pc L st h
  | .putfield _ => mz_put r pc L st h
  | .new _ => if h.1.1.length < 900000 then mz_nx (pc + 3) L (.ref h.1.1.length :: st) (mz_new h (6 + r.1) r.2.1) else none
  | .newarray t => (match st with
    | .int n :: st => if h.1.1.length < 900000 ∧ ¬ n < 0 ∧ n.toNatClampNeg ≤ 60000000 ∧ mz_atag t < 5 then mz_nx (pc + 2) L (.ref h.1.1.length :: st) (mz_new h (mz_atag t) n.toNatClampNeg) else none
    | _ => none)
  | .anewarray _ => (match st with
    | .int n :: st => if h.1.1.length < 900000 ∧ ¬ n < 0 ∧ n.toNatClampNeg ≤ 60000000 then mz_nx (pc + 3) L (.ref h.1.1.length :: st) (mz_new h 5 n.toNatClampNeg) else none
    | _ => none)
  | .invokevirtual _ => (match r.1 with
    | 9990 => mz_sln pc L st h
    | 9991 => mz_sch pc L st h
    | 9992 => mz_six pc L st h
    | n => mz_inv n r.2.1 r.2.2 st h)
  | .invokespecial _ => (match r.1 with
    | 9999 => (match st with
      | .ref _ :: st => if (st.map fun v => v.category).sum ≤ 8 then mz_nx (pc + 3) L st h else none
      | _ => none)
    | n => mz_inv n r.2.1 r.2.2 st h)
  | .invokestatic _ => (match r.1 with
    | 9998 => mz_cpy pc L st h
    | 9997 => mz_mth (fun x y => if x < y then y else x) pc L st h
    | 9996 => mz_mth (fun x y => if y < x then y else x) pc L st h
    | 9995 => mz_abs pc L st h
    | n => mz_inv n r.2.1 1000 st h)
  | .ireturn => (match st with
    | [.int v] => some (.inr (.inr [.int v]))
    | _ => none)
  | .lreturn => (match st with
    | [.long v] => some (.inr (.inr [.long v]))
    | _ => none)
  | .return_ => (match st with
    | [] => some (.inr (.inr []))
    | _ => none)
  | _ => none
