/-- the words, by table and place -/
def mz_tb (k : Nat) : List Jvm.Cond := match k with
  | 0 => k2_sels lw_privs
  | 1 => tables_1_1
  | 2 => tables_1_2
  | 3 => tables_1_3
  | 4 => tables_1_4
  | 5 => tables_1_5
  | 6 => tables_1_6
  | 7 => tables_1_7
  | 8 => tables_1_8
  | _ => []
def mz_w (n : Nat) : Option Jvm.Cond := (mz_tb (n / 1000))[n % 1000]?
theorem mz_tb_in (k : Nat) : ∀ w ∈ mz_tb k, w ∈ lw_tbl := by
  intro w h
  unfold lw_tbl tables_1
  match k, h with
  | 0, h => exact List.mem_append_left _ h
  | 1, h => exact List.mem_append_right _ (List.mem_append_left _ h)
  | 2, h => exact List.mem_append_right _ (List.mem_append_right _ (List.mem_append_left _ h))
  | 3, h => exact List.mem_append_right _ (List.mem_append_right _ (List.mem_append_right _ (List.mem_append_left _ h)))
  | 4, h => exact List.mem_append_right _ (List.mem_append_right _ (List.mem_append_right _ (List.mem_append_right _ (List.mem_append_left _ h))))
  | 5, h => exact List.mem_append_right _ (List.mem_append_right _ (List.mem_append_right _ (List.mem_append_right _ (List.mem_append_right _ (List.mem_append_left _ h)))))
  | 6, h => exact List.mem_append_right _ (List.mem_append_right _ (List.mem_append_right _ (List.mem_append_right _ (List.mem_append_right _ (List.mem_append_right _ (List.mem_append_left _ h))))))
  | 7, h => exact List.mem_append_right _ (List.mem_append_right _ (List.mem_append_right _ (List.mem_append_right _ (List.mem_append_right _ (List.mem_append_right _ (List.mem_append_right _ (List.mem_append_left _ h)))))))
  | 8, h => exact List.mem_append_right _ (List.mem_append_right _ (List.mem_append_right _ (List.mem_append_right _ (List.mem_append_right _ (List.mem_append_right _ (List.mem_append_right _ (List.mem_append_right _ h)))))))
  | k + 9, h => simp [mz_tb] at h
theorem mz_w_in {n : Nat} {w : Jvm.Cond} (h : mz_w n = some w) : w ∈ lw_tbl := mz_tb_in _ w (List.mem_of_getElem? h)
def mz_mi (M : Nat) : Nat × MethodName × ByteArray × Nat × Option FieldType × Nat := mz_ml.getD M (0, yX0_init, cX0_init, 0, none, 0)
def mz_c (M : Nat) : Nat := (mz_mi M).1
def mz_y (M : Nat) : MethodName := (mz_mi M).2.1
/-- the bytes of a method as its word has them -/
def mz_wb (w : Option Jvm.Cond) : ByteArray := match w with
  | some (.code _ b _ _) => b
  | _ => ⟨#[]⟩
def mz_b (M : Nat) : ByteArray := match Nat.beq M 291 with
  | true => code
  | false => mz_wb (mz_w (mz_MM.getD M (0, 0)).1)
def mz_xl (M : Nat) : Nat := (mz_mi M).2.2.2.1
def mz_rt (M : Nat) : Option FieldType := (mz_mi M).2.2.2.2.1
def mz_hg (M : Nat) : Nat := (mz_mi M).2.2.2.2.2
def mz_code (M : Nat) : List MzE := mz_cl.getD M []
def mz_fd : List MzE → Nat → Option MzE
  | [], _ => none
  | e :: t, pc => match Nat.beq e.1 pc with
    | true => some e
    | false => mz_fd t pc
def mz_keep : Jvm.Cond → Bool
  | .initialized _ | .classLink .. | .instantiable .. | .methodLink .. | .instanceMethod _ | .code .. | .fieldLink .. | .lays .. | .laysFinal .. | .selects .. | .static _ | .constant .. | .constantLong .. | .arrayClass _ | .native _ => true
  | _ => false
def mz_nest : Jvm.Cond → Bool
  | .fieldLinkNest .. | .methodLinkNest .. => true
  | _ => false
def mz_TB : List Jvm.Cond := lw_tbl.filter mz_keep
theorem mz_keep_good {w : Jvm.Cond} (h : mz_keep w = true) : goodWord w = true := by
  cases w <;> first | rfl | (simp [mz_keep] at h; done)
theorem mz_TB_good : ∀ w ∈ mz_TB, goodWord w = true := fun w h => mz_keep_good (List.mem_filter.mp h).2
theorem mz_wd {i : Nat} {w : Jvm.Cond} (h : mz_w i = some w) (hk : mz_keep w = true) : w ∈ mz_TB := List.mem_filter.mpr ⟨mz_w_in h, hk⟩
def mz_cnm (c : Nat) : String := mz_cn.getD c ""
def mz_fkd (ci k : Nat) : Nat := (mz_fkl.getD ci []).getD k 0
def mz_ckF (q : Nat × Nat × (Nat × Nat × Nat) × Nat × Nat) : Bool := match mzCl[q.2.2.1.1]? with
  | some r => decide (q.2.2.1.2.1 < r.2.2) && decide ((r.2.1 q.2.2.1.2.1).1 = r.1) && decide (q.2.2.1.2.2 = mz_fkd q.2.2.1.1 q.2.2.1.2.1) &&
    (match q.2.2.2.1 with
    | 0 => decide (mz_w (q.2.2.2.2) = some (.fieldLink (mz_cnm q.1) q.2.1 r.1 (r.2.1 q.2.2.1.2.1).2.1 (r.2.1 q.2.2.1.2.1).2.2.1))
    | _ => decide (mz_w (q.2.2.2.2) = some (.fieldLinkNest (mz_cnm q.1) q.2.1 r.1 (r.2.1 q.2.2.1.2.1).2.1 (r.2.1 q.2.2.1.2.1).2.2.1 "MincedCases")))
  | none => false
theorem mz_PF_ok : mz_PF.all mz_ckF = true := by decide +kernel
def mz_np (y : MethodName) : Nat := match parseMethodDescriptor y.desc with
  | some d => d.parameters.length
  | none => 1000
/-- what is asked of a method's row -/
def mz_ckB (N : Nat) : Bool := (match mz_w ((mz_MM.getD N (0, 0)).1) with
  | some (.code y _ n r) => decide (y = mz_y N) && Nat.beq n (mz_xl N) && decide (r = mz_rt N)
  | _ => false) && decide (mz_w ((mz_MM.getD N (0, 0)).2) = some (.initialized (mz_y N).cls)) && plainName (mz_y N).cls &&
    decide (mz_cnm (mz_c N) = (mz_y N).cls) && Nat.ble (mz_xl N) 50 && decide ((mz_y N).cls ≠ "java/lang/invoke/MethodHandle" ∧ (mz_y N).cls ≠ "java/lang/invoke/VarHandle") && (parseMethodDescriptor (mz_y N).desc).isSome
/-- what is asked of a call's row -/
def mz_ckM (q : Nat × Nat × (Nat × Nat × Nat) × Nat × Nat × (Nat × Nat × Nat)) : Bool :=
  decide (q.2.2.1.1 < 291) &&
  (match q.2.2.2.2.1 with
    | 0 => decide (mz_w (q.2.2.2.2.2.1) = some (.methodLink (mz_cnm q.1) q.2.1 (mz_y q.2.2.1.1)))
    | _ => decide (mz_w (q.2.2.2.2.2.1) = some (.methodLinkNest (mz_cnm q.1) q.2.1 (mz_y q.2.2.1.1) "MincedCases"))) &&
  (match q.2.2.2.1 with
    | 0 => decide (mz_np (mz_y q.2.2.1.1) + 1 = q.2.2.1.2.1) && decide (mz_w (q.2.2.2.2.2.2.1) = some (.instanceMethod (mz_y q.2.2.1.1))) && decide (mz_w (q.2.2.2.2.2.2.2) = some (.selects (mz_y q.2.2.1.1).cls (mz_y q.2.2.1.1) (mz_y q.2.2.1.1))) &&
      decide (6 ≤ q.2.2.1.2.2 ∧ q.2.2.1.2.2 < 19) && decide ((mzCl[q.2.2.1.2.2 - 6]?).map (fun r => r.1) = some (mz_y q.2.2.1.1).cls)
    | 1 => decide (mz_np (mz_y q.2.2.1.1) = q.2.2.1.2.1) && decide (mz_w (q.2.2.2.2.2.2.1) = some (.static (mz_y q.2.2.1.1)))
    | _ => decide (mz_np (mz_y q.2.2.1.1) + 1 = q.2.2.1.2.1) && decide (mz_w (q.2.2.2.2.2.2.1) = some (.instanceMethod (mz_y q.2.2.1.1))) && decide ((mz_y q.2.2.1.1).name = "<init>") && decide (mz_rt q.2.2.1.1 = none) &&
      decide (6 ≤ q.2.2.1.2.2 ∧ q.2.2.1.2.2 < 19))
theorem mz_PM_ok0 : ((mz_PM.drop 0).take 27).all mz_ckM = true := by decide +kernel
theorem mz_PM_ok1 : ((mz_PM.drop 27).take 27).all mz_ckM = true := by decide +kernel
theorem mz_PM_ok2 : ((mz_PM.drop 54).take 27).all mz_ckM = true := by decide +kernel
theorem mz_PM_ok3 : ((mz_PM.drop 81).take 27).all mz_ckM = true := by decide +kernel
theorem mz_PM_ok4 : ((mz_PM.drop 108).take 27).all mz_ckM = true := by decide +kernel
theorem mz_PM_ok5 : ((mz_PM.drop 135).take 27).all mz_ckM = true := by decide +kernel
theorem mz_PM_ok6 : ((mz_PM.drop 162).take 27).all mz_ckM = true := by decide +kernel
theorem mz_PM_ok7 : ((mz_PM.drop 189).take 27).all mz_ckM = true := by decide +kernel
theorem mz_PM_ok8 : ((mz_PM.drop 216).take 27).all mz_ckM = true := by decide +kernel
theorem mz_PM_ok9 : ((mz_PM.drop 243).take 27).all mz_ckM = true := by decide +kernel
theorem mz_PM_ok10 : ((mz_PM.drop 270).take 27).all mz_ckM = true := by decide +kernel
theorem mz_PM_ok11 : ((mz_PM.drop 297).take 27).all mz_ckM = true := by decide +kernel
theorem mz_drop_mem {α : Type} (l : List α) (n k : Nat) (x : α) (i : Nat) (h : l[i]? = some x) (h1 : n ≤ i) (h2 : i < n + k) : x ∈ (l.drop n).take k := by
  refine List.mem_of_getElem? (i := i - n) ?_
  rw [List.getElem?_take_of_lt (by omega), List.getElem?_drop]
  rw [show n + (i - n) = i by omega]
  exact h
theorem mz_PM_len : mz_PM.length = 324 := by decide +kernel
theorem mz_PM_at {i : Nat} {q : Nat × Nat × (Nat × Nat × Nat) × Nat × Nat × (Nat × Nat × Nat)} (h : mz_PM[i]? = some q) : mz_ckM q = true := by
  have hi : i < 324 := by rw [← mz_PM_len]; exact (List.getElem?_eq_some_iff.mp h).1
  by_cases h0 : i < 27
  · exact List.all_eq_true.mp mz_PM_ok0 q (mz_drop_mem _ 0 27 q i h (by omega) (by omega))
  by_cases h1 : i < 54
  · exact List.all_eq_true.mp mz_PM_ok1 q (mz_drop_mem _ 27 27 q i h (by omega) (by omega))
  by_cases h2 : i < 81
  · exact List.all_eq_true.mp mz_PM_ok2 q (mz_drop_mem _ 54 27 q i h (by omega) (by omega))
  by_cases h3 : i < 108
  · exact List.all_eq_true.mp mz_PM_ok3 q (mz_drop_mem _ 81 27 q i h (by omega) (by omega))
  by_cases h4 : i < 135
  · exact List.all_eq_true.mp mz_PM_ok4 q (mz_drop_mem _ 108 27 q i h (by omega) (by omega))
  by_cases h5 : i < 162
  · exact List.all_eq_true.mp mz_PM_ok5 q (mz_drop_mem _ 135 27 q i h (by omega) (by omega))
  by_cases h6 : i < 189
  · exact List.all_eq_true.mp mz_PM_ok6 q (mz_drop_mem _ 162 27 q i h (by omega) (by omega))
  by_cases h7 : i < 216
  · exact List.all_eq_true.mp mz_PM_ok7 q (mz_drop_mem _ 189 27 q i h (by omega) (by omega))
  by_cases h8 : i < 243
  · exact List.all_eq_true.mp mz_PM_ok8 q (mz_drop_mem _ 216 27 q i h (by omega) (by omega))
  by_cases h9 : i < 270
  · exact List.all_eq_true.mp mz_PM_ok9 q (mz_drop_mem _ 243 27 q i h (by omega) (by omega))
  by_cases h10 : i < 297
  · exact List.all_eq_true.mp mz_PM_ok10 q (mz_drop_mem _ 270 27 q i h (by omega) (by omega))
  by_cases h11 : i < 324
  · exact List.all_eq_true.mp mz_PM_ok11 q (mz_drop_mem _ 297 27 q i h (by omega) (by omega))
  omega
theorem mz_B_ok0 : ((List.range 30).map (· + 0)).all mz_ckB = true := by decide +kernel
theorem mz_B_ok1 : ((List.range 30).map (· + 30)).all mz_ckB = true := by decide +kernel
theorem mz_B_ok2 : ((List.range 30).map (· + 60)).all mz_ckB = true := by decide +kernel
theorem mz_B_ok3 : ((List.range 30).map (· + 90)).all mz_ckB = true := by decide +kernel
theorem mz_B_ok4 : ((List.range 30).map (· + 120)).all mz_ckB = true := by decide +kernel
theorem mz_B_ok5 : ((List.range 30).map (· + 150)).all mz_ckB = true := by decide +kernel
theorem mz_B_ok6 : ((List.range 30).map (· + 180)).all mz_ckB = true := by decide +kernel
theorem mz_B_ok7 : ((List.range 30).map (· + 210)).all mz_ckB = true := by decide +kernel
theorem mz_B_ok8 : ((List.range 30).map (· + 240)).all mz_ckB = true := by decide +kernel
theorem mz_B_ok9 : ((List.range 21).map (· + 270)).all mz_ckB = true := by decide +kernel
theorem mz_B_at : ∀ N, N < 291 → mz_ckB N = true := by
  intro M hM
  by_cases h0 : M < 30
  · exact List.all_eq_true.mp mz_B_ok0 M (List.mem_map.mpr ⟨M - 0, List.mem_range.mpr (by omega), by omega⟩)
  by_cases h1 : M < 60
  · exact List.all_eq_true.mp mz_B_ok1 M (List.mem_map.mpr ⟨M - 30, List.mem_range.mpr (by omega), by omega⟩)
  by_cases h2 : M < 90
  · exact List.all_eq_true.mp mz_B_ok2 M (List.mem_map.mpr ⟨M - 60, List.mem_range.mpr (by omega), by omega⟩)
  by_cases h3 : M < 120
  · exact List.all_eq_true.mp mz_B_ok3 M (List.mem_map.mpr ⟨M - 90, List.mem_range.mpr (by omega), by omega⟩)
  by_cases h4 : M < 150
  · exact List.all_eq_true.mp mz_B_ok4 M (List.mem_map.mpr ⟨M - 120, List.mem_range.mpr (by omega), by omega⟩)
  by_cases h5 : M < 180
  · exact List.all_eq_true.mp mz_B_ok5 M (List.mem_map.mpr ⟨M - 150, List.mem_range.mpr (by omega), by omega⟩)
  by_cases h6 : M < 210
  · exact List.all_eq_true.mp mz_B_ok6 M (List.mem_map.mpr ⟨M - 180, List.mem_range.mpr (by omega), by omega⟩)
  by_cases h7 : M < 240
  · exact List.all_eq_true.mp mz_B_ok7 M (List.mem_map.mpr ⟨M - 210, List.mem_range.mpr (by omega), by omega⟩)
  by_cases h8 : M < 270
  · exact List.all_eq_true.mp mz_B_ok8 M (List.mem_map.mpr ⟨M - 240, List.mem_range.mpr (by omega), by omega⟩)
  by_cases h9 : M < 291
  · exact List.all_eq_true.mp mz_B_ok9 M (List.mem_map.mpr ⟨M - 270, List.mem_range.mpr (by omega), by omega⟩)
  omega
def mz_ckN (q : Nat × Nat × Nat × Nat × Nat × Nat × Nat) : Bool := match mzCl[q.2.2.1]? with
  | some r => decide (r.2.2 = q.2.2.2.1) && decide (mz_w (q.2.2.2.2.1) = some (.classLink (mz_cnm q.1) q.2.1 r.1)) && decide (mz_w (q.2.2.2.2.2.1) = some (.instantiable r.1 r.2.2)) && decide (mz_w (q.2.2.2.2.2.2) = some (.initialized r.1))
  | none => false
theorem mz_PN_ok : mz_PN.all mz_ckN = true := by decide +kernel
def mz_ckC (q : Nat × Nat × Nat × Nat × Nat) : Bool := match q.2.2.2.1 with
  | 0 => decide (mz_w (q.2.2.2.2) = some (.constant (mz_cnm q.1) q.2.1 (Int32.ofNat q.2.2.1)))
  | _ => decide (mz_w (q.2.2.2.2) = some (.constantLong (mz_cnm q.1) q.2.1 (Int64.ofNat q.2.2.1)))
theorem mz_PC_ok : mz_PC.all mz_ckC = true := by decide +kernel
def mz_ckX (q : Nat × Nat × Nat × Nat) : Bool := match q.2.2.1 with
  | 0 => decide (mz_w (q.2.2.2) = some (.methodLink (mz_cnm q.1) q.2.1 objectInit))
  | 1 => decide (mz_w (q.2.2.2) = some (.methodLink (mz_cnm q.1) q.2.1 arraycopyName))
  | 2 => decide (mz_w (q.2.2.2) = some (.classLink (mz_cnm q.1) q.2.1 RX6))
  | 3 => decide (mz_w (q.2.2.2) = some (.methodLink (mz_cnm q.1) q.2.1 Lib.Math.max.name))
  | 4 => decide (mz_w (q.2.2.2) = some (.methodLink (mz_cnm q.1) q.2.1 Lib.Math.min.name))
  | 5 => decide (mz_w (q.2.2.2) = some (.methodLink (mz_cnm q.1) q.2.1 Lib.Math.abs.name))
  | _ => false
theorem mz_PX_ok : mz_PX.all mz_ckX = true := by decide +kernel
/-- the length of an instruction as the kit's rows have it; 0: it says it itself -/
def mz_ln : Instr → Nat
  | .bipush _ | .ldc _ | .iload _ | .aload _ | .lload _ | .istore _ | .lstore _ | .newarray _ => 2
  | .sipush _ | .ldc_w _ | .ldc2_w _ | .iinc _ _ | .ifCond _ _ | .if_icmp _ _ | .goto _ | .getfield _ | .putfield _ | .new _ | .anewarray _ | .invokevirtual _ | .invokespecial _ | .invokestatic _ => 3
  | .tableswitch .. | .lookupswitch .. => 0
  | _ => 1
def mz_ckD (b : ByteArray) (e : MzE) : Bool := match mz_ln e.2.1 with
  | 0 => decide (decode b e.1 = .ok (e.2.1, e.2.2.1))
  | n => decide (decode b e.1 = .ok (e.2.1, n))
/-- a row of a pool's table is that of this class, this number, this meaning -/
def mz_rF (c i : Nat) (e : MzE) : Bool := match mz_PF[e.2.2.1]? with
  | some q => Nat.beq q.1 c && Nat.beq q.2.1 i && decide (q.2.2.1 = e.2.2.2.1)
  | none => false
def mz_rM (c i k : Nat) (e : MzE) : Bool := match mz_PM[e.2.2.1]? with
  | some q => Nat.beq q.1 c && Nat.beq q.2.1 i && decide (q.2.2.1 = e.2.2.2.1) && Nat.beq q.2.2.2.1 k
  | none => false
def mz_rX (c i k : Nat) (e : MzE) : Bool := match mz_PX[e.2.2.1]? with
  | some q => Nat.beq q.1 c && Nat.beq q.2.1 i && Nat.beq q.2.2.1 k
  | none => false
def mz_rC (c i k : Nat) (e : MzE) : Bool := match mz_PC[e.2.2.1]? with
  | some q => Nat.beq q.1 c && Nat.beq q.2.1 i && Nat.beq q.2.2.1 e.2.2.2.1.1 && Nat.beq q.2.2.2.1 k
  | none => false
def mz_rN (c i : Nat) (e : MzE) : Bool := match mz_PN[e.2.2.1]? with
  | some q => Nat.beq q.1 c && Nat.beq q.2.1 i && Nat.beq q.2.2.1 e.2.2.2.1.1 && Nat.beq q.2.2.2.1 e.2.2.2.1.2.1
  | none => false
/-- a final field is put in its own class's constructor alone, and not as a nest mate's -/
def mz_rP (c : Nat) (ini : Bool) (e : MzE) : Bool := match mz_PF[e.2.2.1]? with
  | some q => (match mzCl[q.2.2.1.1]? with
    | some r => !(r.2.1 q.2.2.1.2.1).2.2.2 || (ini && decide (r.1 = mz_cnm c) && Nat.beq q.2.2.2.1 0)
    | none => false)
  | none => false
def mz_ckE (c : Nat) (ini : Bool) (e : MzE) : Bool := match e.2.1 with
  | .getfield i => mz_rF c i e
  | .putfield i => mz_rF c i e && mz_rP c ini e
  | .new i => mz_rN c i e
  | .anewarray i => mz_rX c i 2 e
  | .ldc i => (match e.2.2.2.1.2.2 with
    | 0 => mz_rC c i 0 e
    | _ => Nat.beq c 9 && ((Nat.beq i 77 && Nat.beq e.2.2.2.1.1 1) || (Nat.beq i 65 && Nat.beq e.2.2.2.1.1 2)))
  | .ldc_w i => mz_rC c i 0 e
  | .ldc2_w i => mz_rC c i 1 e
  | .invokevirtual i => (match e.2.2.2.1.1 with
    | 9990 => true
    | 9991 => true
    | 9992 => true
    | _ => mz_rM c i 0 e)
  | .invokespecial i => (match e.2.2.2.1.1 with
    | 9999 => mz_rX c i 0 e
    | _ => mz_rM c i 2 e)
  | .invokestatic i => (match e.2.2.2.1.1 with
    | 9998 => mz_rX c i 1 e
    | 9997 => mz_rX c i 3 e
    | 9996 => mz_rX c i 4 e
    | 9995 => mz_rX c i 5 e
    | _ => mz_rM c i 1 e)
  | _ => true
def mz_ckL (b : ByteArray) (c : Nat) (ini : Bool) (l : List MzE) : Bool := l.all fun e => mz_ckD b e && mz_ckE c ini e
def mz_ckA (M : Nat) : Bool := mz_ckL (mz_b M) (mz_c M) (decide ((mz_y M).name = "<init>")) (mz_code M)
theorem mz_ck_app {b : ByteArray} {c : Nat} {i : Bool} {l k : List MzE} (h1 : mz_ckL b c i l = true) (h2 : mz_ckL b c i k = true) : mz_ckL b c i (l ++ k) = true := by
  unfold mz_ckL at h1 h2 ⊢
  rw [List.all_append, h1, h2]
  rfl
