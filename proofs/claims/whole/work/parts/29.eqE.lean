set_option maxRecDepth 10000 in
theorem R_X12_feed_eq (d : Nat) (x0 : Int32) (x1 : Int32) (x2 : Int32) (x3 : Int32) (x4 : Int32) (m : MzM)  : R_X12_feed d x0 x1 x2 x3 x4 m = if ((mz_rd m 239 2) + 20) ≤ 2000 then ((R_X12_lays d x0 m).bind (fun m2 => (R_X12_lays d x1 m2).bind (fun m5 => (R_X12_lays d x2 m5).bind (fun m8 => (R_X12_lays d x3 m8).bind (fun m11 => (R_X12_lays d x4 m11).bind (fun m14 => some ((mz_rd m14 239 2), m14))))))) else (some ((-1), m)) := by
  show mz_cI (mz_T d 174 0 (mz_en (mz_xl 174) [.ref 239, .int x0, .int x1, .int x2, .int x3, .int x4]) [] m) = _
  rw [show mz_en (mz_xl 174) [.ref 239, .int x0, .int x1, .int x2, .int x3, .int x4] = [some (.ref 239), some (.int x0), some (.int x1), some (.int x2), some (.int x3), some (.int x4)] from by rw [show mz_xl 174 = 6 from by decide +kernel]; rfl]
  refine q_o (mz_fe (e := (0, .aload_n 0, 1, (0, 0, 0), [])) (by decide +kernel)) (pc2 := 1) rfl ?_
  refine q_getI (mz_fe (e := (1, .getfield 170, 162, (12, 2, 0), [])) (by decide +kernel)) rfl (by decide) tg_239 (by rw [ln_239]; decide) ?_
  refine q_bi (v := 20) (mz_fe (e := (4, .bipush 20, 2, (0, 0, 0), [])) (by decide +kernel)) (by decide) ?_
  refine q_o (mz_fe (e := (6, .iadd, 1, (0, 0, 0), [])) (by decide +kernel)) (pc2 := 7) rfl ?_
  refine q_si (v := 2000) (mz_fe (e := (7, .sipush 2000, 3, (0, 0, 0), [])) (by decide +kernel)) (by decide) ?_
  refine q_if (c := .le) (off := 5) (t := 15) (x := ((mz_rd m 239 2) + 20)) (y := 2000) (st := []) (mz_fe (e := (10, .if_icmp .le 5, 3, (0, 0, 0), [])) (by decide +kernel)) (fun _ => rfl) rfl rfl rfl (fun c1 => ?_) (fun c1 => ?_)
  · refine q_o (mz_fe (e := (15, .aload_n 0, 1, (0, 0, 0), [])) (by decide +kernel)) (pc2 := 16) rfl ?_
    refine q_o (mz_fe (e := (16, .iload_n 1, 1, (0, 0, 0), [])) (by decide +kernel)) (pc2 := 17) rfl ?_
    refine q_callV (N := 175) (vs := [.ref 239, .int x0]) (rest := []) (L' := [some (.ref 239), some (.int x0), some (.int x1), some (.int x2), some (.int x3), some (.int x4)]) rfl (mz_fe (e := (17, .invokevirtual 173, 170, (175, 2, 18), [])) (by decide +kernel)) rfl (mz_inv_virt (N := 175) (k := 2) (t := 18) (st := [.int x0, .ref 239]) (rest := []) (b := 239) (vs := [.int x0]) (h := (mz_S0, m)) rfl rfl (Nat.le_of_ble_eq_true rfl) (Nat.le_of_ble_eq_true rfl) tg_239 (by decide)) (mz_dc_lt (n := 2) rfl (by decide +kernel) (by decide +kernel)) (by decide +kernel) (by decide +kernel) (fun m2 => ?_)
    refine q_o (mz_fe (e := (20, .aload_n 0, 1, (0, 0, 0), [])) (by decide +kernel)) (pc2 := 21) rfl ?_
    refine q_o (mz_fe (e := (21, .iload_n 2, 1, (0, 0, 0), [])) (by decide +kernel)) (pc2 := 22) rfl ?_
    refine q_callV (N := 175) (vs := [.ref 239, .int x1]) (rest := []) (L' := [some (.ref 239), some (.int x0), some (.int x1), some (.int x2), some (.int x3), some (.int x4)]) rfl (mz_fe (e := (22, .invokevirtual 173, 170, (175, 2, 18), [])) (by decide +kernel)) rfl (mz_inv_virt (N := 175) (k := 2) (t := 18) (st := [.int x1, .ref 239]) (rest := []) (b := 239) (vs := [.int x1]) (h := (mz_S0, m2)) rfl rfl (Nat.le_of_ble_eq_true rfl) (Nat.le_of_ble_eq_true rfl) tg_239 (by decide)) (mz_dc_lt (n := 2) rfl (by decide +kernel) (by decide +kernel)) (by decide +kernel) (by decide +kernel) (fun m5 => ?_)
    refine q_o (mz_fe (e := (25, .aload_n 0, 1, (0, 0, 0), [])) (by decide +kernel)) (pc2 := 26) rfl ?_
    refine q_o (mz_fe (e := (26, .iload_n 3, 1, (0, 0, 0), [])) (by decide +kernel)) (pc2 := 27) rfl ?_
    refine q_callV (N := 175) (vs := [.ref 239, .int x2]) (rest := []) (L' := [some (.ref 239), some (.int x0), some (.int x1), some (.int x2), some (.int x3), some (.int x4)]) rfl (mz_fe (e := (27, .invokevirtual 173, 170, (175, 2, 18), [])) (by decide +kernel)) rfl (mz_inv_virt (N := 175) (k := 2) (t := 18) (st := [.int x2, .ref 239]) (rest := []) (b := 239) (vs := [.int x2]) (h := (mz_S0, m5)) rfl rfl (Nat.le_of_ble_eq_true rfl) (Nat.le_of_ble_eq_true rfl) tg_239 (by decide)) (mz_dc_lt (n := 2) rfl (by decide +kernel) (by decide +kernel)) (by decide +kernel) (by decide +kernel) (fun m8 => ?_)
    refine q_o (mz_fe (e := (30, .aload_n 0, 1, (0, 0, 0), [])) (by decide +kernel)) (pc2 := 31) rfl ?_
    refine q_o (mz_fe (e := (31, .iload 4, 2, (0, 0, 0), [])) (by decide +kernel)) (pc2 := 33) rfl ?_
    refine q_callV (N := 175) (vs := [.ref 239, .int x3]) (rest := []) (L' := [some (.ref 239), some (.int x0), some (.int x1), some (.int x2), some (.int x3), some (.int x4)]) rfl (mz_fe (e := (33, .invokevirtual 173, 170, (175, 2, 18), [])) (by decide +kernel)) rfl (mz_inv_virt (N := 175) (k := 2) (t := 18) (st := [.int x3, .ref 239]) (rest := []) (b := 239) (vs := [.int x3]) (h := (mz_S0, m8)) rfl rfl (Nat.le_of_ble_eq_true rfl) (Nat.le_of_ble_eq_true rfl) tg_239 (by decide)) (mz_dc_lt (n := 2) rfl (by decide +kernel) (by decide +kernel)) (by decide +kernel) (by decide +kernel) (fun m11 => ?_)
    refine q_o (mz_fe (e := (36, .aload_n 0, 1, (0, 0, 0), [])) (by decide +kernel)) (pc2 := 37) rfl ?_
    refine q_o (mz_fe (e := (37, .iload 5, 2, (0, 0, 0), [])) (by decide +kernel)) (pc2 := 39) rfl ?_
    refine q_callV (N := 175) (vs := [.ref 239, .int x4]) (rest := []) (L' := [some (.ref 239), some (.int x0), some (.int x1), some (.int x2), some (.int x3), some (.int x4)]) rfl (mz_fe (e := (39, .invokevirtual 173, 170, (175, 2, 18), [])) (by decide +kernel)) rfl (mz_inv_virt (N := 175) (k := 2) (t := 18) (st := [.int x4, .ref 239]) (rest := []) (b := 239) (vs := [.int x4]) (h := (mz_S0, m11)) rfl rfl (Nat.le_of_ble_eq_true rfl) (Nat.le_of_ble_eq_true rfl) tg_239 (by decide)) (mz_dc_lt (n := 2) rfl (by decide +kernel) (by decide +kernel)) (by decide +kernel) (by decide +kernel) (fun m14 => ?_)
    refine q_o (mz_fe (e := (42, .aload_n 0, 1, (0, 0, 0), [])) (by decide +kernel)) (pc2 := 43) rfl ?_
    refine q_getI (mz_fe (e := (43, .getfield 170, 162, (12, 2, 0), [])) (by decide +kernel)) rfl (by decide) tg_239 (by rw [ln_239]; decide) ?_
    exact q_retI (mz_fe (e := (46, .ireturn, 1, (0, 0, 0), [])) (by decide +kernel)) (by decide +kernel)
  · refine q_ic (v := (-1)) (mz_fe (e := (13, .iconst (-1), 1, (0, 0, 0), [])) (by decide +kernel)) (by decide) ?_
    exact q_retI (mz_fe (e := (14, .ireturn, 1, (0, 0, 0), [])) (by decide +kernel)) (by decide +kernel)
set_option maxRecDepth 10000 in
theorem R_X12_back_eq (d : Nat) (x0 : Int32) (m : MzM)  : R_X12_back d x0 m = if x0 < 0 then (some ((-1), m)) else (if x0 ≤ (mz_rd m 239 2) then (some ((mz_rd (mz_wr m 239 2 ((mz_rd m 239 2) - x0)) 239 2), (mz_wr m 239 2 ((mz_rd m 239 2) - x0)))) else (some ((-1), m))) := by
  show mz_cI (mz_T d 176 0 (mz_en (mz_xl 176) [.ref 239, .int x0]) [] m) = _
  rw [show mz_en (mz_xl 176) [.ref 239, .int x0] = [some (.ref 239), some (.int x0)] from by rw [show mz_xl 176 = 2 from by decide +kernel]; rfl]
  refine q_o (mz_fe (e := (0, .iload_n 1, 1, (0, 0, 0), [])) (by decide +kernel)) (pc2 := 1) rfl ?_
  refine q_if (c := .lt) (off := 11) (t := 12) (x := x0) (y := 0) (st := []) (mz_fe (e := (1, .ifCond .lt 11, 3, (0, 0, 0), [])) (by decide +kernel)) (fun _ => rfl) rfl rfl rfl (fun c1 => ?_) (fun c1 => ?_)
  · refine q_ic (v := (-1)) (mz_fe (e := (12, .iconst (-1), 1, (0, 0, 0), [])) (by decide +kernel)) (by decide) ?_
    exact q_retI (mz_fe (e := (13, .ireturn, 1, (0, 0, 0), [])) (by decide +kernel)) (by decide +kernel)
  · refine q_o (mz_fe (e := (4, .iload_n 1, 1, (0, 0, 0), [])) (by decide +kernel)) (pc2 := 5) rfl ?_
    refine q_o (mz_fe (e := (5, .aload_n 0, 1, (0, 0, 0), [])) (by decide +kernel)) (pc2 := 6) rfl ?_
    refine q_getI (mz_fe (e := (6, .getfield 170, 162, (12, 2, 0), [])) (by decide +kernel)) rfl (by decide) tg_239 (by rw [ln_239]; decide) ?_
    refine q_if (c := .le) (off := 5) (t := 14) (x := x0) (y := (mz_rd m 239 2)) (st := []) (mz_fe (e := (9, .if_icmp .le 5, 3, (0, 0, 0), [])) (by decide +kernel)) (fun _ => rfl) rfl rfl rfl (fun c2 => ?_) (fun c2 => ?_)
    · refine q_o (mz_fe (e := (14, .aload_n 0, 1, (0, 0, 0), [])) (by decide +kernel)) (pc2 := 15) rfl ?_
      refine q_o (mz_fe (e := (15, .dup, 1, (0, 0, 0), [])) (by decide +kernel)) (pc2 := 16) rfl ?_
      refine q_getI (mz_fe (e := (16, .getfield 170, 162, (12, 2, 0), [])) (by decide +kernel)) rfl (by decide) tg_239 (by rw [ln_239]; decide) ?_
      refine q_o (mz_fe (e := (19, .iload_n 1, 1, (0, 0, 0), [])) (by decide +kernel)) (pc2 := 20) rfl ?_
      refine q_o (mz_fe (e := (20, .isub, 1, (0, 0, 0), [])) (by decide +kernel)) (pc2 := 21) rfl ?_
      refine q_putI (mz_fe (e := (21, .putfield 170, 162, (12, 2, 0), [])) (by decide +kernel)) rfl tg_239 (by rw [ln_239]; decide) ?_
      refine q_o (mz_fe (e := (24, .aload_n 0, 1, (0, 0, 0), [])) (by decide +kernel)) (pc2 := 25) rfl ?_
      refine q_getI (mz_fe (e := (25, .getfield 170, 162, (12, 2, 0), [])) (by decide +kernel)) rfl (by decide) tg_239 (by rw [ln_239]; decide) ?_
      exact q_retI (mz_fe (e := (28, .ireturn, 1, (0, 0, 0), [])) (by decide +kernel)) (by decide +kernel)
    · refine q_ic (v := (-1)) (mz_fe (e := (12, .iconst (-1), 1, (0, 0, 0), [])) (by decide +kernel)) (by decide) ?_
      exact q_retI (mz_fe (e := (13, .ireturn, 1, (0, 0, 0), [])) (by decide +kernel)) (by decide +kernel)
set_option maxRecDepth 10000 in
theorem R_X12_isDigit_eq (d : Nat) (x0 : Int32) (m : MzM)  : R_X12_isDigit d x0 m = if x0 < 48 then (some (0, m)) else (if (57 : Int32) < x0 then (some (0, m)) else (some (1, m))) := by
  show mz_cI (mz_T d 178 0 (mz_en (mz_xl 178) [.int x0]) [] m) = _
  rw [show mz_en (mz_xl 178) [.int x0] = [some (.int x0)] from by rw [show mz_xl 178 = 1 from by decide +kernel]; rfl]
  refine q_o (mz_fe (e := (0, .iload_n 0, 1, (0, 0, 0), [])) (by decide +kernel)) (pc2 := 1) rfl ?_
  refine q_bi (v := 48) (mz_fe (e := (1, .bipush 48, 2, (0, 0, 0), [])) (by decide +kernel)) (by decide) ?_
  refine q_if (c := .lt) (off := 13) (t := 16) (x := x0) (y := 48) (st := []) (mz_fe (e := (3, .if_icmp .lt 13, 3, (0, 0, 0), [])) (by decide +kernel)) (fun _ => rfl) rfl rfl rfl (fun c1 => ?_) (fun c1 => ?_)
  · refine q_ic (v := 0) (mz_fe (e := (16, .iconst 0, 1, (0, 0, 0), [])) (by decide +kernel)) (by decide) ?_
    exact q_retZ (mz_fe (e := (17, .ireturn, 1, (0, 0, 0), [])) (by decide +kernel)) (by decide +kernel) (by decide)
  · refine q_o (mz_fe (e := (6, .iload_n 0, 1, (0, 0, 0), [])) (by decide +kernel)) (pc2 := 7) rfl ?_
    refine q_bi (v := 57) (mz_fe (e := (7, .bipush 57, 2, (0, 0, 0), [])) (by decide +kernel)) (by decide) ?_
    refine q_if (c := .gt) (off := 7) (t := 16) (x := x0) (y := 57) (st := []) (mz_fe (e := (9, .if_icmp .gt 7, 3, (0, 0, 0), [])) (by decide +kernel)) (fun _ => rfl) rfl rfl rfl (fun c2 => ?_) (fun c2 => ?_)
    · refine q_ic (v := 0) (mz_fe (e := (16, .iconst 0, 1, (0, 0, 0), [])) (by decide +kernel)) (by decide) ?_
      exact q_retZ (mz_fe (e := (17, .ireturn, 1, (0, 0, 0), [])) (by decide +kernel)) (by decide +kernel) (by decide)
    · refine q_ic (v := 1) (mz_fe (e := (12, .iconst 1, 1, (0, 0, 0), [])) (by decide +kernel)) (by decide) ?_
      refine q_o (mz_fe (e := (13, .goto 4, 3, (0, 0, 0), [])) (by decide +kernel)) (pc2 := 17) rfl ?_
      exact q_retZ (mz_fe (e := (17, .ireturn, 1, (0, 0, 0), [])) (by decide +kernel)) (by decide +kernel) (by decide)
set_option maxRecDepth 10000 in
theorem R_X12_appends_eq (d : Nat) (x0 : Int64) (x1 : Int32) (m : MzM)  : R_X12_appends d x0 x1 m = if ¬ x1 = 0 then (some (((27 * x0) + (((x1 - 97) + 1) : Int32).toInt64), m)) else (some (x0, m)) := by
  show mz_cJ (mz_T d 180 0 (mz_en (mz_xl 180) [.long x0, .int x1]) [] m) = _
  rw [show mz_en (mz_xl 180) [.long x0, .int x1] = [some (.long x0), none, some (.int x1)] from by rw [show mz_xl 180 = 3 from by decide +kernel]; rfl]
  refine q_o (mz_fe (e := (0, .iload_n 2, 1, (0, 0, 0), [])) (by decide +kernel)) (pc2 := 1) rfl ?_
  refine q_if (c := .ne) (off := 7) (t := 8) (x := x1) (y := 0) (st := []) (mz_fe (e := (1, .ifCond .ne 7, 3, (0, 0, 0), [])) (by decide +kernel)) (fun _ => rfl) rfl rfl rfl (fun c1 => ?_) (fun c1 => ?_)
  · refine q_ld2 (v := 27) (mz_fe (e := (8, .ldc2_w 179, 3, (27, 0, 0), [])) (by decide +kernel)) (by decide) ?_
    refine q_o (mz_fe (e := (11, .lload_n 0, 1, (0, 0, 0), [])) (by decide +kernel)) (pc2 := 12) rfl ?_
    refine q_o (mz_fe (e := (12, .lmul, 1, (0, 0, 0), [])) (by decide +kernel)) (pc2 := 13) rfl ?_
    refine q_o (mz_fe (e := (13, .iload_n 2, 1, (0, 0, 0), [])) (by decide +kernel)) (pc2 := 14) rfl ?_
    refine q_bi (v := 97) (mz_fe (e := (14, .bipush 97, 2, (0, 0, 0), [])) (by decide +kernel)) (by decide) ?_
    refine q_o (mz_fe (e := (16, .isub, 1, (0, 0, 0), [])) (by decide +kernel)) (pc2 := 17) rfl ?_
    refine q_ic (v := 1) (mz_fe (e := (17, .iconst 1, 1, (0, 0, 0), [])) (by decide +kernel)) (by decide) ?_
    refine q_o (mz_fe (e := (18, .iadd, 1, (0, 0, 0), [])) (by decide +kernel)) (pc2 := 19) rfl ?_
    refine q_o (mz_fe (e := (19, .i2l, 1, (0, 0, 0), [])) (by decide +kernel)) (pc2 := 20) rfl ?_
    refine q_o (mz_fe (e := (20, .ladd, 1, (0, 0, 0), [])) (by decide +kernel)) (pc2 := 21) rfl ?_
    exact q_retJ (mz_fe (e := (21, .lreturn, 1, (0, 0, 0), [])) (by decide +kernel)) (by decide +kernel)
  · refine q_o (mz_fe (e := (4, .lload_n 0, 1, (0, 0, 0), [])) (by decide +kernel)) (pc2 := 5) rfl ?_
    refine q_o (mz_fe (e := (5, .goto 16, 3, (0, 0, 0), [])) (by decide +kernel)) (pc2 := 21) rfl ?_
    exact q_retJ (mz_fe (e := (21, .lreturn, 1, (0, 0, 0), [])) (by decide +kernel)) (by decide +kernel)
set_option maxRecDepth 10000 in
theorem R_X12_token_eq (d : Nat) (x0 : Int32) (x1 : Int32) (x2 : Int32) (x3 : Int64) (m : MzM)  : R_X12_token d x0 x1 x2 x3 m = mz_g (mz_ok (mz_rd m 239 10) 403) (mz_g (mz_ok (mz_rd (mz_wr m 242 ((mz_rd m 239 10) : Int32).toNatClampNeg x0) 239 10) 403) (mz_g (mz_ok (mz_rd (mz_wr (mz_wr m 242 ((mz_rd m 239 10) : Int32).toNatClampNeg x0) 243 ((mz_rd (mz_wr m 242 ((mz_rd m 239 10) : Int32).toNatClampNeg x0) 239 10) : Int32).toNatClampNeg x1) 239 10) 403) (mz_g (mz_ok (mz_rd (mz_wr (mz_wr (mz_wr m 242 ((mz_rd m 239 10) : Int32).toNatClampNeg x0) 243 ((mz_rd (mz_wr m 242 ((mz_rd m 239 10) : Int32).toNatClampNeg x0) 239 10) : Int32).toNatClampNeg x1) 244 ((mz_rd (mz_wr (mz_wr m 242 ((mz_rd m 239 10) : Int32).toNatClampNeg x0) 243 ((mz_rd (mz_wr m 242 ((mz_rd m 239 10) : Int32).toNatClampNeg x0) 239 10) : Int32).toNatClampNeg x1) 239 10) : Int32).toNatClampNeg x2) 239 10) 403) (some (mz_wr (mz_wl (mz_wr (mz_wr (mz_wr m 242 ((mz_rd m 239 10) : Int32).toNatClampNeg x0) 243 ((mz_rd (mz_wr m 242 ((mz_rd m 239 10) : Int32).toNatClampNeg x0) 239 10) : Int32).toNatClampNeg x1) 244 ((mz_rd (mz_wr (mz_wr m 242 ((mz_rd m 239 10) : Int32).toNatClampNeg x0) 243 ((mz_rd (mz_wr m 242 ((mz_rd m 239 10) : Int32).toNatClampNeg x0) 239 10) : Int32).toNatClampNeg x1) 239 10) : Int32).toNatClampNeg x2) 245 ((mz_rd (mz_wr (mz_wr (mz_wr m 242 ((mz_rd m 239 10) : Int32).toNatClampNeg x0) 243 ((mz_rd (mz_wr m 242 ((mz_rd m 239 10) : Int32).toNatClampNeg x0) 239 10) : Int32).toNatClampNeg x1) 244 ((mz_rd (mz_wr (mz_wr m 242 ((mz_rd m 239 10) : Int32).toNatClampNeg x0) 243 ((mz_rd (mz_wr m 242 ((mz_rd m 239 10) : Int32).toNatClampNeg x0) 239 10) : Int32).toNatClampNeg x1) 239 10) : Int32).toNatClampNeg x2) 239 10) : Int32).toNatClampNeg x3) 239 10 ((mz_rd (mz_wl (mz_wr (mz_wr (mz_wr m 242 ((mz_rd m 239 10) : Int32).toNatClampNeg x0) 243 ((mz_rd (mz_wr m 242 ((mz_rd m 239 10) : Int32).toNatClampNeg x0) 239 10) : Int32).toNatClampNeg x1) 244 ((mz_rd (mz_wr (mz_wr m 242 ((mz_rd m 239 10) : Int32).toNatClampNeg x0) 243 ((mz_rd (mz_wr m 242 ((mz_rd m 239 10) : Int32).toNatClampNeg x0) 239 10) : Int32).toNatClampNeg x1) 239 10) : Int32).toNatClampNeg x2) 245 ((mz_rd (mz_wr (mz_wr (mz_wr m 242 ((mz_rd m 239 10) : Int32).toNatClampNeg x0) 243 ((mz_rd (mz_wr m 242 ((mz_rd m 239 10) : Int32).toNatClampNeg x0) 239 10) : Int32).toNatClampNeg x1) 244 ((mz_rd (mz_wr (mz_wr m 242 ((mz_rd m 239 10) : Int32).toNatClampNeg x0) 243 ((mz_rd (mz_wr m 242 ((mz_rd m 239 10) : Int32).toNatClampNeg x0) 239 10) : Int32).toNatClampNeg x1) 239 10) : Int32).toNatClampNeg x2) 239 10) : Int32).toNatClampNeg x3) 239 10) + 1)))))) := by
  show mz_cV (mz_T d 182 0 (mz_en (mz_xl 182) [.ref 239, .int x0, .int x1, .int x2, .long x3]) [] m) = _
  rw [show mz_en (mz_xl 182) [.ref 239, .int x0, .int x1, .int x2, .long x3] = [some (.ref 239), some (.int x0), some (.int x1), some (.int x2), some (.long x3), none] from by rw [show mz_xl 182 = 6 from by decide +kernel]; rfl]
  refine q_o (mz_fe (e := (0, .aload_n 0, 1, (0, 0, 0), [])) (by decide +kernel)) (pc2 := 1) rfl ?_
  refine q_getR (b := 242) (mz_fe (e := (1, .getfield 20, 119, (12, 5, 2), [])) (by decide +kernel)) rfl tg_239 (by rw [ln_239]; decide) (mz_rfS (by decide +kernel)) ?_
  refine q_o (mz_fe (e := (4, .aload_n 0, 1, (0, 0, 0), [])) (by decide +kernel)) (pc2 := 5) rfl ?_
  refine q_getI (mz_fe (e := (5, .getfield 181, 164, (12, 10, 0), [])) (by decide +kernel)) rfl (by decide) tg_239 (by rw [ln_239]; decide) ?_
  refine q_o (mz_fe (e := (8, .iload_n 1, 1, (0, 0, 0), [])) (by decide +kernel)) (pc2 := 9) rfl ?_
  refine q_stAg (f := (fun x => x)) rfl (mz_fe (e := (9, .iastore, 1, (0, 0, 0), [])) (by decide +kernel)) (fun _ => rfl) rfl tg_242 ln_242 (fun g1 => ?_)
  refine q_o (mz_fe (e := (10, .aload_n 0, 1, (0, 0, 0), [])) (by decide +kernel)) (pc2 := 11) rfl ?_
  refine q_getR (b := 243) (mz_fe (e := (11, .getfield 24, 120, (12, 6, 2), [])) (by decide +kernel)) rfl tg_239 (by rw [ln_239]; decide) (mz_rfS (by decide +kernel)) ?_
  refine q_o (mz_fe (e := (14, .aload_n 0, 1, (0, 0, 0), [])) (by decide +kernel)) (pc2 := 15) rfl ?_
  refine q_getI (mz_fe (e := (15, .getfield 181, 164, (12, 10, 0), [])) (by decide +kernel)) rfl (by decide) tg_239 (by rw [ln_239]; decide) ?_
  refine q_o (mz_fe (e := (18, .iload_n 2, 1, (0, 0, 0), [])) (by decide +kernel)) (pc2 := 19) rfl ?_
  refine q_stAg (f := (fun x => x)) rfl (mz_fe (e := (19, .iastore, 1, (0, 0, 0), [])) (by decide +kernel)) (fun _ => rfl) rfl tg_243 ln_243 (fun g2 => ?_)
  refine q_o (mz_fe (e := (20, .aload_n 0, 1, (0, 0, 0), [])) (by decide +kernel)) (pc2 := 21) rfl ?_
  refine q_getR (b := 244) (mz_fe (e := (21, .getfield 27, 121, (12, 7, 2), [])) (by decide +kernel)) rfl tg_239 (by rw [ln_239]; decide) (mz_rfS (by decide +kernel)) ?_
  refine q_o (mz_fe (e := (24, .aload_n 0, 1, (0, 0, 0), [])) (by decide +kernel)) (pc2 := 25) rfl ?_
  refine q_getI (mz_fe (e := (25, .getfield 181, 164, (12, 10, 0), [])) (by decide +kernel)) rfl (by decide) tg_239 (by rw [ln_239]; decide) ?_
  refine q_o (mz_fe (e := (28, .iload_n 3, 1, (0, 0, 0), [])) (by decide +kernel)) (pc2 := 29) rfl ?_
  refine q_stAg (f := (fun x => x)) rfl (mz_fe (e := (29, .iastore, 1, (0, 0, 0), [])) (by decide +kernel)) (fun _ => rfl) rfl tg_244 ln_244 (fun g3 => ?_)
  refine q_o (mz_fe (e := (30, .aload_n 0, 1, (0, 0, 0), [])) (by decide +kernel)) (pc2 := 31) rfl ?_
  refine q_getR (b := 245) (mz_fe (e := (31, .getfield 30, 122, (12, 8, 2), [])) (by decide +kernel)) rfl tg_239 (by rw [ln_239]; decide) (mz_rfS (by decide +kernel)) ?_
  refine q_o (mz_fe (e := (34, .aload_n 0, 1, (0, 0, 0), [])) (by decide +kernel)) (pc2 := 35) rfl ?_
  refine q_getI (mz_fe (e := (35, .getfield 181, 164, (12, 10, 0), [])) (by decide +kernel)) rfl (by decide) tg_239 (by rw [ln_239]; decide) ?_
  refine q_o (mz_fe (e := (38, .lload 4, 2, (0, 0, 0), [])) (by decide +kernel)) (pc2 := 40) rfl ?_
  refine q_lastg rfl (mz_fe (e := (40, .lastore, 1, (0, 0, 0), [])) (by decide +kernel)) rfl tg_245 ln_245 (fun g4 => ?_)
  refine q_o (mz_fe (e := (41, .aload_n 0, 1, (0, 0, 0), [])) (by decide +kernel)) (pc2 := 42) rfl ?_
  refine q_o (mz_fe (e := (42, .dup, 1, (0, 0, 0), [])) (by decide +kernel)) (pc2 := 43) rfl ?_
  refine q_getI (mz_fe (e := (43, .getfield 181, 164, (12, 10, 0), [])) (by decide +kernel)) rfl (by decide) tg_239 (by rw [ln_239]; decide) ?_
  refine q_ic (v := 1) (mz_fe (e := (46, .iconst 1, 1, (0, 0, 0), [])) (by decide +kernel)) (by decide) ?_
  refine q_o (mz_fe (e := (47, .iadd, 1, (0, 0, 0), [])) (by decide +kernel)) (pc2 := 48) rfl ?_
  refine q_putI (mz_fe (e := (48, .putfield 181, 164, (12, 10, 0), [])) (by decide +kernel)) rfl tg_239 (by rw [ln_239]; decide) ?_
  exact q_retV (mz_fe (e := (51, .return_, 1, (0, 0, 0), [])) (by decide +kernel)) (by decide +kernel)
set_option maxRecDepth 10000 in
theorem R_X12_sign_eq (d : Nat) (x0 : Int32) (x1 : Int32) (x2 : Int32) (m : MzM)  : R_X12_sign d x0 x1 x2 m = if ¬ x1 = 59 then (if ¬ x1 = 61 then (if ¬ x1 = 40 then (if ¬ x1 = 41 then (if ¬ x1 = 43 then (if ¬ x1 = 45 then (if ¬ x1 = 42 then (if ¬ x1 = 47 then (if ¬ x1 = 60 then ((R_X12_token d 3 x0 0 0 m).bind (fun m10 => some (1, m10))) else ((R_X12_token d 13 x0 0 0 m).bind (fun m13 => some (1, m13)))) else (if ¬ x1 = 60 then ((R_X12_token d 15 x0 0 0 m).bind (fun m17 => some (1, m17))) else ((R_X12_token d 13 x0 0 0 m).bind (fun m20 => some (1, m20))))) else (if ¬ x1 = 47 then (if ¬ x1 = 60 then ((R_X12_token d 10 x0 0 0 m).bind (fun m25 => some (1, m25))) else ((R_X12_token d 13 x0 0 0 m).bind (fun m28 => some (1, m28)))) else (if ¬ x1 = 60 then ((R_X12_token d 15 x0 0 0 m).bind (fun m32 => some (1, m32))) else ((R_X12_token d 13 x0 0 0 m).bind (fun m35 => some (1, m35)))))) else (if ¬ x1 = 42 then (if ¬ x1 = 47 then (if ¬ x1 = 60 then ((R_X12_token d 9 x0 0 0 m).bind (fun m41 => some (1, m41))) else ((R_X12_token d 13 x0 0 0 m).bind (fun m44 => some (1, m44)))) else (if ¬ x1 = 60 then ((R_X12_token d 15 x0 0 0 m).bind (fun m48 => some (1, m48))) else ((R_X12_token d 13 x0 0 0 m).bind (fun m51 => some (1, m51))))) else (if ¬ x1 = 47 then (if ¬ x1 = 60 then ((R_X12_token d 10 x0 0 0 m).bind (fun m56 => some (1, m56))) else ((R_X12_token d 13 x0 0 0 m).bind (fun m59 => some (1, m59)))) else (if ¬ x1 = 60 then ((R_X12_token d 15 x0 0 0 m).bind (fun m63 => some (1, m63))) else ((R_X12_token d 13 x0 0 0 m).bind (fun m66 => some (1, m66))))))) else (if ¬ x1 = 45 then (if ¬ x1 = 42 then (if ¬ x1 = 47 then (if ¬ x1 = 60 then ((R_X12_token d 8 x0 0 0 m).bind (fun m73 => some (1, m73))) else ((R_X12_token d 13 x0 0 0 m).bind (fun m76 => some (1, m76)))) else (if ¬ x1 = 60 then ((R_X12_token d 15 x0 0 0 m).bind (fun m80 => some (1, m80))) else ((R_X12_token d 13 x0 0 0 m).bind (fun m83 => some (1, m83))))) else (if ¬ x1 = 47 then (if ¬ x1 = 60 then ((R_X12_token d 10 x0 0 0 m).bind (fun m88 => some (1, m88))) else ((R_X12_token d 13 x0 0 0 m).bind (fun m91 => some (1, m91)))) else (if ¬ x1 = 60 then ((R_X12_token d 15 x0 0 0 m).bind (fun m95 => some (1, m95))) else ((R_X12_token d 13 x0 0 0 m).bind (fun m98 => some (1, m98)))))) else (if ¬ x1 = 42 then (if ¬ x1 = 47 then (if ¬ x1 = 60 then ((R_X12_token d 9 x0 0 0 m).bind (fun m104 => some (1, m104))) else ((R_X12_token d 13 x0 0 0 m).bind (fun m107 => some (1, m107)))) else (if ¬ x1 = 60 then ((R_X12_token d 15 x0 0 0 m).bind (fun m111 => some (1, m111))) else ((R_X12_token d 13 x0 0 0 m).bind (fun m114 => some (1, m114))))) else (if ¬ x1 = 47 then (if ¬ x1 = 60 then ((R_X12_token d 10 x0 0 0 m).bind (fun m119 => some (1, m119))) else ((R_X12_token d 13 x0 0 0 m).bind (fun m122 => some (1, m122)))) else (if ¬ x1 = 60 then ((R_X12_token d 15 x0 0 0 m).bind (fun m126 => some (1, m126))) else ((R_X12_token d 13 x0 0 0 m).bind (fun m129 => some (1, m129)))))))) else (if ¬ x1 = 43 then (if ¬ x1 = 45 then (if ¬ x1 = 42 then (if ¬ x1 = 47 then (if ¬ x1 = 60 then ((R_X12_token d 7 x0 0 0 m).bind (fun m137 => some (1, m137))) else ((R_X12_token d 13 x0 0 0 m).bind (fun m140 => some (1, m140)))) else (if ¬ x1 = 60 then ((R_X12_token d 15 x0 0 0 m).bind (fun m144 => some (1, m144))) else ((R_X12_token d 13 x0 0 0 m).bind (fun m147 => some (1, m147))))) else (if ¬ x1 = 47 then (if ¬ x1 = 60 then ((R_X12_token d 10 x0 0 0 m).bind (fun m152 => some (1, m152))) else ((R_X12_token d 13 x0 0 0 m).bind (fun m155 => some (1, m155)))) else (if ¬ x1 = 60 then ((R_X12_token d 15 x0 0 0 m).bind (fun m159 => some (1, m159))) else ((R_X12_token d 13 x0 0 0 m).bind (fun m162 => some (1, m162)))))) else (if ¬ x1 = 42 then (if ¬ x1 = 47 then (if ¬ x1 = 60 then ((R_X12_token d 9 x0 0 0 m).bind (fun m168 => some (1, m168))) else ((R_X12_token d 13 x0 0 0 m).bind (fun m171 => some (1, m171)))) else (if ¬ x1 = 60 then ((R_X12_token d 15 x0 0 0 m).bind (fun m175 => some (1, m175))) else ((R_X12_token d 13 x0 0 0 m).bind (fun m178 => some (1, m178))))) else (if ¬ x1 = 47 then (if ¬ x1 = 60 then ((R_X12_token d 10 x0 0 0 m).bind (fun m183 => some (1, m183))) else ((R_X12_token d 13 x0 0 0 m).bind (fun m186 => some (1, m186)))) else (if ¬ x1 = 60 then ((R_X12_token d 15 x0 0 0 m).bind (fun m190 => some (1, m190))) else ((R_X12_token d 13 x0 0 0 m).bind (fun m193 => some (1, m193))))))) else (if ¬ x1 = 45 then (if ¬ x1 = 42 then (if ¬ x1 = 47 then (if ¬ x1 = 60 then ((R_X12_token d 8 x0 0 0 m).bind (fun m200 => some (1, m200))) else ((R_X12_token d 13 x0 0 0 m).bind (fun m203 => some (1, m203)))) else (if ¬ x1 = 60 then ((R_X12_token d 15 x0 0 0 m).bind (fun m207 => some (1, m207))) else ((R_X12_token d 13 x0 0 0 m).bind (fun m210 => some (1, m210))))) else (if ¬ x1 = 47 then (if ¬ x1 = 60 then ((R_X12_token d 10 x0 0 0 m).bind (fun m215 => some (1, m215))) else ((R_X12_token d 13 x0 0 0 m).bind (fun m218 => some (1, m218)))) else (if ¬ x1 = 60 then ((R_X12_token d 15 x0 0 0 m).bind (fun m222 => some (1, m222))) else ((R_X12_token d 13 x0 0 0 m).bind (fun m225 => some (1, m225)))))) else (if ¬ x1 = 42 then (if ¬ x1 = 47 then (if ¬ x1 = 60 then ((R_X12_token d 9 x0 0 0 m).bind (fun m231 => some (1, m231))) else ((R_X12_token d 13 x0 0 0 m).bind (fun m234 => some (1, m234)))) else (if ¬ x1 = 60 then ((R_X12_token d 15 x0 0 0 m).bind (fun m238 => some (1, m238))) else ((R_X12_token d 13 x0 0 0 m).bind (fun m241 => some (1, m241))))) else (if ¬ x1 = 47 then (if ¬ x1 = 60 then ((R_X12_token d 10 x0 0 0 m).bind (fun m246 => some (1, m246))) else ((R_X12_token d 13 x0 0 0 m).bind (fun m249 => some (1, m249)))) else (if ¬ x1 = 60 then ((R_X12_token d 15 x0 0 0 m).bind (fun m253 => some (1, m253))) else ((R_X12_token d 13 x0 0 0 m).bind (fun m256 => some (1, m256))))))))) else (if ¬ x1 = 43 then (if ¬ x1 = 45 then (if ¬ x1 = 42 then (if ¬ x1 = 47 then (if ¬ x1 = 60 then ((R_X12_token d 6 x0 0 0 m).bind (fun m264 => some (1, m264))) else ((R_X12_token d 13 x0 0 0 m).bind (fun m267 => some (1, m267)))) else (if ¬ x1 = 60 then ((R_X12_token d 15 x0 0 0 m).bind (fun m271 => some (1, m271))) else ((R_X12_token d 13 x0 0 0 m).bind (fun m274 => some (1, m274))))) else (if ¬ x1 = 47 then (if ¬ x1 = 60 then ((R_X12_token d 10 x0 0 0 m).bind (fun m279 => some (1, m279))) else ((R_X12_token d 13 x0 0 0 m).bind (fun m282 => some (1, m282)))) else (if ¬ x1 = 60 then ((R_X12_token d 15 x0 0 0 m).bind (fun m286 => some (1, m286))) else ((R_X12_token d 13 x0 0 0 m).bind (fun m289 => some (1, m289)))))) else (if ¬ x1 = 42 then (if ¬ x1 = 47 then (if ¬ x1 = 60 then ((R_X12_token d 9 x0 0 0 m).bind (fun m295 => some (1, m295))) else ((R_X12_token d 13 x0 0 0 m).bind (fun m298 => some (1, m298)))) else (if ¬ x1 = 60 then ((R_X12_token d 15 x0 0 0 m).bind (fun m302 => some (1, m302))) else ((R_X12_token d 13 x0 0 0 m).bind (fun m305 => some (1, m305))))) else (if ¬ x1 = 47 then (if ¬ x1 = 60 then ((R_X12_token d 10 x0 0 0 m).bind (fun m310 => some (1, m310))) else ((R_X12_token d 13 x0 0 0 m).bind (fun m313 => some (1, m313)))) else (if ¬ x1 = 60 then ((R_X12_token d 15 x0 0 0 m).bind (fun m317 => some (1, m317))) else ((R_X12_token d 13 x0 0 0 m).bind (fun m320 => some (1, m320))))))) else (if ¬ x1 = 45 then (if ¬ x1 = 42 then (if ¬ x1 = 47 then (if ¬ x1 = 60 then ((R_X12_token d 8 x0 0 0 m).bind (fun m327 => some (1, m327))) else ((R_X12_token d 13 x0 0 0 m).bind (fun m330 => some (1, m330)))) else (if ¬ x1 = 60 then ((R_X12_token d 15 x0 0 0 m).bind (fun m334 => some (1, m334))) else ((R_X12_token d 13 x0 0 0 m).bind (fun m337 => some (1, m337))))) else (if ¬ x1 = 47 then (if ¬ x1 = 60 then ((R_X12_token d 10 x0 0 0 m).bind (fun m342 => some (1, m342))) else ((R_X12_token d 13 x0 0 0 m).bind (fun m345 => some (1, m345)))) else (if ¬ x1 = 60 then ((R_X12_token d 15 x0 0 0 m).bind (fun m349 => some (1, m349))) else ((R_X12_token d 13 x0 0 0 m).bind (fun m352 => some (1, m352)))))) else (if ¬ x1 = 42 then (if ¬ x1 = 47 then (if ¬ x1 = 60 then ((R_X12_token d 9 x0 0 0 m).bind (fun m358 => some (1, m358))) else ((R_X12_token d 13 x0 0 0 m).bind (fun m361 => some (1, m361)))) else (if ¬ x1 = 60 then ((R_X12_token d 15 x0 0 0 m).bind (fun m365 => some (1, m365))) else ((R_X12_token d 13 x0 0 0 m).bind (fun m368 => some (1, m368))))) else (if ¬ x1 = 47 then (if ¬ x1 = 60 then ((R_X12_token d 10 x0 0 0 m).bind (fun m373 => some (1, m373))) else ((R_X12_token d 13 x0 0 0 m).bind (fun m376 => some (1, m376)))) else (if ¬ x1 = 60 then ((R_X12_token d 15 x0 0 0 m).bind (fun m380 => some (1, m380))) else ((R_X12_token d 13 x0 0 0 m).bind (fun m383 => some (1, m383))))))))) else (if ¬ x1 = 43 then (if ¬ x1 = 45 then (if ¬ x1 = 42 then (if ¬ x1 = 47 then (if ¬ x1 = 60 then ((R_X12_token d 5 x0 0 0 m).bind (fun m391 => some (1, m391))) else ((R_X12_token d 13 x0 0 0 m).bind (fun m394 => some (1, m394)))) else (if ¬ x1 = 60 then ((R_X12_token d 15 x0 0 0 m).bind (fun m398 => some (1, m398))) else ((R_X12_token d 13 x0 0 0 m).bind (fun m401 => some (1, m401))))) else (if ¬ x1 = 47 then (if ¬ x1 = 60 then ((R_X12_token d 10 x0 0 0 m).bind (fun m406 => some (1, m406))) else ((R_X12_token d 13 x0 0 0 m).bind (fun m409 => some (1, m409)))) else (if ¬ x1 = 60 then ((R_X12_token d 15 x0 0 0 m).bind (fun m413 => some (1, m413))) else ((R_X12_token d 13 x0 0 0 m).bind (fun m416 => some (1, m416)))))) else (if ¬ x1 = 42 then (if ¬ x1 = 47 then (if ¬ x1 = 60 then ((R_X12_token d 9 x0 0 0 m).bind (fun m422 => some (1, m422))) else ((R_X12_token d 13 x0 0 0 m).bind (fun m425 => some (1, m425)))) else (if ¬ x1 = 60 then ((R_X12_token d 15 x0 0 0 m).bind (fun m429 => some (1, m429))) else ((R_X12_token d 13 x0 0 0 m).bind (fun m432 => some (1, m432))))) else (if ¬ x1 = 47 then (if ¬ x1 = 60 then ((R_X12_token d 10 x0 0 0 m).bind (fun m437 => some (1, m437))) else ((R_X12_token d 13 x0 0 0 m).bind (fun m440 => some (1, m440)))) else (if ¬ x1 = 60 then ((R_X12_token d 15 x0 0 0 m).bind (fun m444 => some (1, m444))) else ((R_X12_token d 13 x0 0 0 m).bind (fun m447 => some (1, m447))))))) else (if ¬ x1 = 45 then (if ¬ x1 = 42 then (if ¬ x1 = 47 then (if ¬ x1 = 60 then ((R_X12_token d 8 x0 0 0 m).bind (fun m454 => some (1, m454))) else ((R_X12_token d 13 x0 0 0 m).bind (fun m457 => some (1, m457)))) else (if ¬ x1 = 60 then ((R_X12_token d 15 x0 0 0 m).bind (fun m461 => some (1, m461))) else ((R_X12_token d 13 x0 0 0 m).bind (fun m464 => some (1, m464))))) else (if ¬ x1 = 47 then (if ¬ x1 = 60 then ((R_X12_token d 10 x0 0 0 m).bind (fun m469 => some (1, m469))) else ((R_X12_token d 13 x0 0 0 m).bind (fun m472 => some (1, m472)))) else (if ¬ x1 = 60 then ((R_X12_token d 15 x0 0 0 m).bind (fun m476 => some (1, m476))) else ((R_X12_token d 13 x0 0 0 m).bind (fun m479 => some (1, m479)))))) else (if ¬ x1 = 42 then (if ¬ x1 = 47 then (if ¬ x1 = 60 then ((R_X12_token d 9 x0 0 0 m).bind (fun m485 => some (1, m485))) else ((R_X12_token d 13 x0 0 0 m).bind (fun m488 => some (1, m488)))) else (if ¬ x1 = 60 then ((R_X12_token d 15 x0 0 0 m).bind (fun m492 => some (1, m492))) else ((R_X12_token d 13 x0 0 0 m).bind (fun m495 => some (1, m495))))) else (if ¬ x1 = 47 then (if ¬ x1 = 60 then ((R_X12_token d 10 x0 0 0 m).bind (fun m500 => some (1, m500))) else ((R_X12_token d 13 x0 0 0 m).bind (fun m503 => some (1, m503)))) else (if ¬ x1 = 60 then ((R_X12_token d 15 x0 0 0 m).bind (fun m507 => some (1, m507))) else ((R_X12_token d 13 x0 0 0 m).bind (fun m510 => some (1, m510))))))))) else (if ¬ x1 = 43 then (if ¬ x1 = 45 then (if ¬ x1 = 42 then (if ¬ x1 = 47 then (if ¬ x1 = 60 then ((R_X12_token d 4 x0 0 0 m).bind (fun m518 => some (1, m518))) else ((R_X12_token d 13 x0 0 0 m).bind (fun m521 => some (1, m521)))) else (if ¬ x1 = 60 then ((R_X12_token d 15 x0 0 0 m).bind (fun m525 => some (1, m525))) else ((R_X12_token d 13 x0 0 0 m).bind (fun m528 => some (1, m528))))) else (if ¬ x1 = 47 then (if ¬ x1 = 60 then ((R_X12_token d 10 x0 0 0 m).bind (fun m533 => some (1, m533))) else ((R_X12_token d 13 x0 0 0 m).bind (fun m536 => some (1, m536)))) else (if ¬ x1 = 60 then ((R_X12_token d 15 x0 0 0 m).bind (fun m540 => some (1, m540))) else ((R_X12_token d 13 x0 0 0 m).bind (fun m543 => some (1, m543)))))) else (if ¬ x1 = 42 then (if ¬ x1 = 47 then (if ¬ x1 = 60 then ((R_X12_token d 9 x0 0 0 m).bind (fun m549 => some (1, m549))) else ((R_X12_token d 13 x0 0 0 m).bind (fun m552 => some (1, m552)))) else (if ¬ x1 = 60 then ((R_X12_token d 15 x0 0 0 m).bind (fun m556 => some (1, m556))) else ((R_X12_token d 13 x0 0 0 m).bind (fun m559 => some (1, m559))))) else (if ¬ x1 = 47 then (if ¬ x1 = 60 then ((R_X12_token d 10 x0 0 0 m).bind (fun m564 => some (1, m564))) else ((R_X12_token d 13 x0 0 0 m).bind (fun m567 => some (1, m567)))) else (if ¬ x1 = 60 then ((R_X12_token d 15 x0 0 0 m).bind (fun m571 => some (1, m571))) else ((R_X12_token d 13 x0 0 0 m).bind (fun m574 => some (1, m574))))))) else (if ¬ x1 = 45 then (if ¬ x1 = 42 then (if ¬ x1 = 47 then (if ¬ x1 = 60 then ((R_X12_token d 8 x0 0 0 m).bind (fun m581 => some (1, m581))) else ((R_X12_token d 13 x0 0 0 m).bind (fun m584 => some (1, m584)))) else (if ¬ x1 = 60 then ((R_X12_token d 15 x0 0 0 m).bind (fun m588 => some (1, m588))) else ((R_X12_token d 13 x0 0 0 m).bind (fun m591 => some (1, m591))))) else (if ¬ x1 = 47 then (if ¬ x1 = 60 then ((R_X12_token d 10 x0 0 0 m).bind (fun m596 => some (1, m596))) else ((R_X12_token d 13 x0 0 0 m).bind (fun m599 => some (1, m599)))) else (if ¬ x1 = 60 then ((R_X12_token d 15 x0 0 0 m).bind (fun m603 => some (1, m603))) else ((R_X12_token d 13 x0 0 0 m).bind (fun m606 => some (1, m606)))))) else (if ¬ x1 = 42 then (if ¬ x1 = 47 then (if ¬ x1 = 60 then ((R_X12_token d 9 x0 0 0 m).bind (fun m612 => some (1, m612))) else ((R_X12_token d 13 x0 0 0 m).bind (fun m615 => some (1, m615)))) else (if ¬ x1 = 60 then ((R_X12_token d 15 x0 0 0 m).bind (fun m619 => some (1, m619))) else ((R_X12_token d 13 x0 0 0 m).bind (fun m622 => some (1, m622))))) else (if ¬ x1 = 47 then (if ¬ x1 = 60 then ((R_X12_token d 10 x0 0 0 m).bind (fun m627 => some (1, m627))) else ((R_X12_token d 13 x0 0 0 m).bind (fun m630 => some (1, m630)))) else (if ¬ x1 = 60 then ((R_X12_token d 15 x0 0 0 m).bind (fun m634 => some (1, m634))) else ((R_X12_token d 13 x0 0 0 m).bind (fun m637 => some (1, m637)))))))) := by
  show mz_cI (mz_T d 184 0 (mz_en (mz_xl 184) [.ref 239, .int x0, .int x1, .int x2]) [] m) = _
  rw [show mz_en (mz_xl 184) [.ref 239, .int x0, .int x1, .int x2] = [some (.ref 239), some (.int x0), some (.int x1), some (.int x2), none] from by rw [show mz_xl 184 = 5 from by decide +kernel]; rfl]
  refine q_o (mz_fe (e := (0, .iload_n 2, 1, (0, 0, 0), [])) (by decide +kernel)) (pc2 := 1) rfl ?_
  refine q_bi (v := 59) (mz_fe (e := (1, .bipush 59, 2, (0, 0, 0), [])) (by decide +kernel)) (by decide) ?_
  refine q_if (c := .ne) (off := 7) (t := 10) (x := x1) (y := 59) (st := []) (mz_fe (e := (3, .if_icmp .ne 7, 3, (0, 0, 0), [])) (by decide +kernel)) (fun _ => rfl) rfl rfl rfl (fun c1 => ?_) (fun c1 => ?_)
  · refine q_o (mz_fe (e := (10, .iload_n 2, 1, (0, 0, 0), [])) (by decide +kernel)) (pc2 := 11) rfl ?_
    refine q_bi (v := 61) (mz_fe (e := (11, .bipush 61, 2, (0, 0, 0), [])) (by decide +kernel)) (by decide) ?_
    refine q_if (c := .ne) (off := 7) (t := 20) (x := x1) (y := 61) (st := []) (mz_fe (e := (13, .if_icmp .ne 7, 3, (0, 0, 0), [])) (by decide +kernel)) (fun _ => rfl) rfl rfl rfl (fun c2 => ?_) (fun c2 => ?_)
    · refine q_o (mz_fe (e := (20, .iload_n 2, 1, (0, 0, 0), [])) (by decide +kernel)) (pc2 := 21) rfl ?_
      refine q_bi (v := 40) (mz_fe (e := (21, .bipush 40, 2, (0, 0, 0), [])) (by decide +kernel)) (by decide) ?_
      refine q_if (c := .ne) (off := 8) (t := 31) (x := x1) (y := 40) (st := []) (mz_fe (e := (23, .if_icmp .ne 8, 3, (0, 0, 0), [])) (by decide +kernel)) (fun _ => rfl) rfl rfl rfl (fun c3 => ?_) (fun c3 => ?_)
      · refine q_o (mz_fe (e := (31, .iload_n 2, 1, (0, 0, 0), [])) (by decide +kernel)) (pc2 := 32) rfl ?_
        refine q_bi (v := 41) (mz_fe (e := (32, .bipush 41, 2, (0, 0, 0), [])) (by decide +kernel)) (by decide) ?_
        refine q_if (c := .ne) (off := 8) (t := 42) (x := x1) (y := 41) (st := []) (mz_fe (e := (34, .if_icmp .ne 8, 3, (0, 0, 0), [])) (by decide +kernel)) (fun _ => rfl) rfl rfl rfl (fun c4 => ?_) (fun c4 => ?_)
        · refine q_ic (v := 3) (mz_fe (e := (42, .iconst 3, 1, (0, 0, 0), [])) (by decide +kernel)) (by decide) ?_
          refine q_s (mz_fe (e := (43, .istore 4, 2, (0, 0, 0), [])) (by decide +kernel)) (pc' := 45) (L' := [some (.ref 239), some (.int x0), some (.int x1), some (.int x2), some (.int 3)]) (st' := []) rfl ?_
          refine q_o (mz_fe (e := (45, .iload_n 2, 1, (0, 0, 0), [])) (by decide +kernel)) (pc2 := 46) rfl ?_
          refine q_bi (v := 43) (mz_fe (e := (46, .bipush 43, 2, (0, 0, 0), [])) (by decide +kernel)) (by decide) ?_
          refine q_if (c := .ne) (off := 7) (t := 55) (x := x1) (y := 43) (st := []) (mz_fe (e := (48, .if_icmp .ne 7, 3, (0, 0, 0), [])) (by decide +kernel)) (fun _ => rfl) rfl rfl rfl (fun c5 => ?_) (fun c5 => ?_)
          · refine q_o (mz_fe (e := (55, .iload_n 2, 1, (0, 0, 0), [])) (by decide +kernel)) (pc2 := 56) rfl ?_
            refine q_bi (v := 45) (mz_fe (e := (56, .bipush 45, 2, (0, 0, 0), [])) (by decide +kernel)) (by decide) ?_
            refine q_if (c := .ne) (off := 7) (t := 65) (x := x1) (y := 45) (st := []) (mz_fe (e := (58, .if_icmp .ne 7, 3, (0, 0, 0), [])) (by decide +kernel)) (fun _ => rfl) rfl rfl rfl (fun c6 => ?_) (fun c6 => ?_)
            · refine q_o (mz_fe (e := (65, .iload_n 2, 1, (0, 0, 0), [])) (by decide +kernel)) (pc2 := 66) rfl ?_
              refine q_bi (v := 42) (mz_fe (e := (66, .bipush 42, 2, (0, 0, 0), [])) (by decide +kernel)) (by decide) ?_
              refine q_if (c := .ne) (off := 7) (t := 75) (x := x1) (y := 42) (st := []) (mz_fe (e := (68, .if_icmp .ne 7, 3, (0, 0, 0), [])) (by decide +kernel)) (fun _ => rfl) rfl rfl rfl (fun c7 => ?_) (fun c7 => ?_)
              · refine q_o (mz_fe (e := (75, .iload_n 2, 1, (0, 0, 0), [])) (by decide +kernel)) (pc2 := 76) rfl ?_
                refine q_bi (v := 47) (mz_fe (e := (76, .bipush 47, 2, (0, 0, 0), [])) (by decide +kernel)) (by decide) ?_
                refine q_if (c := .ne) (off := 7) (t := 85) (x := x1) (y := 47) (st := []) (mz_fe (e := (78, .if_icmp .ne 7, 3, (0, 0, 0), [])) (by decide +kernel)) (fun _ => rfl) rfl rfl rfl (fun c8 => ?_) (fun c8 => ?_)
                · refine q_o (mz_fe (e := (85, .iload_n 2, 1, (0, 0, 0), [])) (by decide +kernel)) (pc2 := 86) rfl ?_
                  refine q_bi (v := 60) (mz_fe (e := (86, .bipush 60, 2, (0, 0, 0), [])) (by decide +kernel)) (by decide) ?_
                  refine q_if (c := .ne) (off := 7) (t := 95) (x := x1) (y := 60) (st := []) (mz_fe (e := (88, .if_icmp .ne 7, 3, (0, 0, 0), [])) (by decide +kernel)) (fun _ => rfl) rfl rfl rfl (fun c9 => ?_) (fun c9 => ?_)
                  · refine q_o (mz_fe (e := (95, .aload_n 0, 1, (0, 0, 0), [])) (by decide +kernel)) (pc2 := 96) rfl ?_
                    refine q_o (mz_fe (e := (96, .iload 4, 2, (0, 0, 0), [])) (by decide +kernel)) (pc2 := 98) rfl ?_
                    refine q_o (mz_fe (e := (98, .iload_n 1, 1, (0, 0, 0), [])) (by decide +kernel)) (pc2 := 99) rfl ?_
                    refine q_ic (v := 0) (mz_fe (e := (99, .iconst 0, 1, (0, 0, 0), [])) (by decide +kernel)) (by decide) ?_
                    refine q_o (mz_fe (e := (100, .lconst 0, 1, (0, 0, 0), [])) (by decide +kernel)) (pc2 := 101) (st2 := [.long 0, .int 0, .int x0, .int 3, .ref 239]) rfl ?_
                    refine q_callV (N := 182) (vs := [.ref 239, .int 3, .int x0, .int 0, .long 0]) (rest := []) (L' := [some (.ref 239), some (.int x0), some (.int x1), some (.int x2), some (.int 3)]) rfl (mz_fe (e := (101, .invokevirtual 188, 172, (182, 5, 18), [])) (by decide +kernel)) rfl (mz_inv_virt (N := 182) (k := 5) (t := 18) (st := [.long 0, .int 0, .int x0, .int 3, .ref 239]) (rest := []) (b := 239) (vs := [.int 3, .int x0, .int 0, .long 0]) (h := (mz_S0, m)) rfl rfl (Nat.le_of_ble_eq_true rfl) (Nat.le_of_ble_eq_true rfl) tg_239 (by decide)) (mz_dc_lt (n := 6) rfl (by decide +kernel) (by decide +kernel)) (by decide +kernel) (by decide +kernel) (fun m10 => ?_)
                    refine q_ic (v := 1) (mz_fe (e := (104, .iconst 1, 1, (0, 0, 0), [])) (by decide +kernel)) (by decide) ?_
                    exact q_retI (mz_fe (e := (105, .ireturn, 1, (0, 0, 0), [])) (by decide +kernel)) (by decide +kernel)
                  · refine q_bi (v := 13) (mz_fe (e := (91, .bipush 13, 2, (0, 0, 0), [])) (by decide +kernel)) (by decide) ?_
                    refine q_s (mz_fe (e := (93, .istore 4, 2, (0, 0, 0), [])) (by decide +kernel)) (pc' := 95) (L' := [some (.ref 239), some (.int x0), some (.int x1), some (.int x2), some (.int 13)]) (st' := []) rfl ?_
                    refine q_o (mz_fe (e := (95, .aload_n 0, 1, (0, 0, 0), [])) (by decide +kernel)) (pc2 := 96) rfl ?_
                    refine q_o (mz_fe (e := (96, .iload 4, 2, (0, 0, 0), [])) (by decide +kernel)) (pc2 := 98) rfl ?_
                    refine q_o (mz_fe (e := (98, .iload_n 1, 1, (0, 0, 0), [])) (by decide +kernel)) (pc2 := 99) rfl ?_
                    refine q_ic (v := 0) (mz_fe (e := (99, .iconst 0, 1, (0, 0, 0), [])) (by decide +kernel)) (by decide) ?_
                    refine q_o (mz_fe (e := (100, .lconst 0, 1, (0, 0, 0), [])) (by decide +kernel)) (pc2 := 101) (st2 := [.long 0, .int 0, .int x0, .int 13, .ref 239]) rfl ?_
                    refine q_callV (N := 182) (vs := [.ref 239, .int 13, .int x0, .int 0, .long 0]) (rest := []) (L' := [some (.ref 239), some (.int x0), some (.int x1), some (.int x2), some (.int 13)]) rfl (mz_fe (e := (101, .invokevirtual 188, 172, (182, 5, 18), [])) (by decide +kernel)) rfl (mz_inv_virt (N := 182) (k := 5) (t := 18) (st := [.long 0, .int 0, .int x0, .int 13, .ref 239]) (rest := []) (b := 239) (vs := [.int 13, .int x0, .int 0, .long 0]) (h := (mz_S0, m)) rfl rfl (Nat.le_of_ble_eq_true rfl) (Nat.le_of_ble_eq_true rfl) tg_239 (by decide)) (mz_dc_lt (n := 6) rfl (by decide +kernel) (by decide +kernel)) (by decide +kernel) (by decide +kernel) (fun m13 => ?_)
                    refine q_ic (v := 1) (mz_fe (e := (104, .iconst 1, 1, (0, 0, 0), [])) (by decide +kernel)) (by decide) ?_
                    exact q_retI (mz_fe (e := (105, .ireturn, 1, (0, 0, 0), [])) (by decide +kernel)) (by decide +kernel)
                · refine q_bi (v := 15) (mz_fe (e := (81, .bipush 15, 2, (0, 0, 0), [])) (by decide +kernel)) (by decide) ?_
                  refine q_s (mz_fe (e := (83, .istore 4, 2, (0, 0, 0), [])) (by decide +kernel)) (pc' := 85) (L' := [some (.ref 239), some (.int x0), some (.int x1), some (.int x2), some (.int 15)]) (st' := []) rfl ?_
                  refine q_o (mz_fe (e := (85, .iload_n 2, 1, (0, 0, 0), [])) (by decide +kernel)) (pc2 := 86) rfl ?_
                  refine q_bi (v := 60) (mz_fe (e := (86, .bipush 60, 2, (0, 0, 0), [])) (by decide +kernel)) (by decide) ?_
                  refine q_if (c := .ne) (off := 7) (t := 95) (x := x1) (y := 60) (st := []) (mz_fe (e := (88, .if_icmp .ne 7, 3, (0, 0, 0), [])) (by decide +kernel)) (fun _ => rfl) rfl rfl rfl (fun c16 => ?_) (fun c16 => ?_)
                  · refine q_o (mz_fe (e := (95, .aload_n 0, 1, (0, 0, 0), [])) (by decide +kernel)) (pc2 := 96) rfl ?_
                    refine q_o (mz_fe (e := (96, .iload 4, 2, (0, 0, 0), [])) (by decide +kernel)) (pc2 := 98) rfl ?_
                    refine q_o (mz_fe (e := (98, .iload_n 1, 1, (0, 0, 0), [])) (by decide +kernel)) (pc2 := 99) rfl ?_
                    refine q_ic (v := 0) (mz_fe (e := (99, .iconst 0, 1, (0, 0, 0), [])) (by decide +kernel)) (by decide) ?_
                    refine q_o (mz_fe (e := (100, .lconst 0, 1, (0, 0, 0), [])) (by decide +kernel)) (pc2 := 101) (st2 := [.long 0, .int 0, .int x0, .int 15, .ref 239]) rfl ?_
                    refine q_callV (N := 182) (vs := [.ref 239, .int 15, .int x0, .int 0, .long 0]) (rest := []) (L' := [some (.ref 239), some (.int x0), some (.int x1), some (.int x2), some (.int 15)]) rfl (mz_fe (e := (101, .invokevirtual 188, 172, (182, 5, 18), [])) (by decide +kernel)) rfl (mz_inv_virt (N := 182) (k := 5) (t := 18) (st := [.long 0, .int 0, .int x0, .int 15, .ref 239]) (rest := []) (b := 239) (vs := [.int 15, .int x0, .int 0, .long 0]) (h := (mz_S0, m)) rfl rfl (Nat.le_of_ble_eq_true rfl) (Nat.le_of_ble_eq_true rfl) tg_239 (by decide)) (mz_dc_lt (n := 6) rfl (by decide +kernel) (by decide +kernel)) (by decide +kernel) (by decide +kernel) (fun m17 => ?_)
                    refine q_ic (v := 1) (mz_fe (e := (104, .iconst 1, 1, (0, 0, 0), [])) (by decide +kernel)) (by decide) ?_
                    exact q_retI (mz_fe (e := (105, .ireturn, 1, (0, 0, 0), [])) (by decide +kernel)) (by decide +kernel)
                  · refine q_bi (v := 13) (mz_fe (e := (91, .bipush 13, 2, (0, 0, 0), [])) (by decide +kernel)) (by decide) ?_
                    refine q_s (mz_fe (e := (93, .istore 4, 2, (0, 0, 0), [])) (by decide +kernel)) (pc' := 95) (L' := [some (.ref 239), some (.int x0), some (.int x1), some (.int x2), some (.int 13)]) (st' := []) rfl ?_
                    refine q_o (mz_fe (e := (95, .aload_n 0, 1, (0, 0, 0), [])) (by decide +kernel)) (pc2 := 96) rfl ?_
                    refine q_o (mz_fe (e := (96, .iload 4, 2, (0, 0, 0), [])) (by decide +kernel)) (pc2 := 98) rfl ?_
                    refine q_o (mz_fe (e := (98, .iload_n 1, 1, (0, 0, 0), [])) (by decide +kernel)) (pc2 := 99) rfl ?_
                    refine q_ic (v := 0) (mz_fe (e := (99, .iconst 0, 1, (0, 0, 0), [])) (by decide +kernel)) (by decide) ?_
                    refine q_o (mz_fe (e := (100, .lconst 0, 1, (0, 0, 0), [])) (by decide +kernel)) (pc2 := 101) (st2 := [.long 0, .int 0, .int x0, .int 13, .ref 239]) rfl ?_
                    refine q_callV (N := 182) (vs := [.ref 239, .int 13, .int x0, .int 0, .long 0]) (rest := []) (L' := [some (.ref 239), some (.int x0), some (.int x1), some (.int x2), some (.int 13)]) rfl (mz_fe (e := (101, .invokevirtual 188, 172, (182, 5, 18), [])) (by decide +kernel)) rfl (mz_inv_virt (N := 182) (k := 5) (t := 18) (st := [.long 0, .int 0, .int x0, .int 13, .ref 239]) (rest := []) (b := 239) (vs := [.int 13, .int x0, .int 0, .long 0]) (h := (mz_S0, m)) rfl rfl (Nat.le_of_ble_eq_true rfl) (Nat.le_of_ble_eq_true rfl) tg_239 (by decide)) (mz_dc_lt (n := 6) rfl (by decide +kernel) (by decide +kernel)) (by decide +kernel) (by decide +kernel) (fun m20 => ?_)
                    refine q_ic (v := 1) (mz_fe (e := (104, .iconst 1, 1, (0, 0, 0), [])) (by decide +kernel)) (by decide) ?_
                    exact q_retI (mz_fe (e := (105, .ireturn, 1, (0, 0, 0), [])) (by decide +kernel)) (by decide +kernel)
              · refine q_bi (v := 10) (mz_fe (e := (71, .bipush 10, 2, (0, 0, 0), [])) (by decide +kernel)) (by decide) ?_
                refine q_s (mz_fe (e := (73, .istore 4, 2, (0, 0, 0), [])) (by decide +kernel)) (pc' := 75) (L' := [some (.ref 239), some (.int x0), some (.int x1), some (.int x2), some (.int 10)]) (st' := []) rfl ?_
                refine q_o (mz_fe (e := (75, .iload_n 2, 1, (0, 0, 0), [])) (by decide +kernel)) (pc2 := 76) rfl ?_
                refine q_bi (v := 47) (mz_fe (e := (76, .bipush 47, 2, (0, 0, 0), [])) (by decide +kernel)) (by decide) ?_
                refine q_if (c := .ne) (off := 7) (t := 85) (x := x1) (y := 47) (st := []) (mz_fe (e := (78, .if_icmp .ne 7, 3, (0, 0, 0), [])) (by decide +kernel)) (fun _ => rfl) rfl rfl rfl (fun c23 => ?_) (fun c23 => ?_)
                · refine q_o (mz_fe (e := (85, .iload_n 2, 1, (0, 0, 0), [])) (by decide +kernel)) (pc2 := 86) rfl ?_
                  refine q_bi (v := 60) (mz_fe (e := (86, .bipush 60, 2, (0, 0, 0), [])) (by decide +kernel)) (by decide) ?_
                  refine q_if (c := .ne) (off := 7) (t := 95) (x := x1) (y := 60) (st := []) (mz_fe (e := (88, .if_icmp .ne 7, 3, (0, 0, 0), [])) (by decide +kernel)) (fun _ => rfl) rfl rfl rfl (fun c24 => ?_) (fun c24 => ?_)
                  · refine q_o (mz_fe (e := (95, .aload_n 0, 1, (0, 0, 0), [])) (by decide +kernel)) (pc2 := 96) rfl ?_
                    refine q_o (mz_fe (e := (96, .iload 4, 2, (0, 0, 0), [])) (by decide +kernel)) (pc2 := 98) rfl ?_
                    refine q_o (mz_fe (e := (98, .iload_n 1, 1, (0, 0, 0), [])) (by decide +kernel)) (pc2 := 99) rfl ?_
                    refine q_ic (v := 0) (mz_fe (e := (99, .iconst 0, 1, (0, 0, 0), [])) (by decide +kernel)) (by decide) ?_
                    refine q_o (mz_fe (e := (100, .lconst 0, 1, (0, 0, 0), [])) (by decide +kernel)) (pc2 := 101) (st2 := [.long 0, .int 0, .int x0, .int 10, .ref 239]) rfl ?_
                    refine q_callV (N := 182) (vs := [.ref 239, .int 10, .int x0, .int 0, .long 0]) (rest := []) (L' := [some (.ref 239), some (.int x0), some (.int x1), some (.int x2), some (.int 10)]) rfl (mz_fe (e := (101, .invokevirtual 188, 172, (182, 5, 18), [])) (by decide +kernel)) rfl (mz_inv_virt (N := 182) (k := 5) (t := 18) (st := [.long 0, .int 0, .int x0, .int 10, .ref 239]) (rest := []) (b := 239) (vs := [.int 10, .int x0, .int 0, .long 0]) (h := (mz_S0, m)) rfl rfl (Nat.le_of_ble_eq_true rfl) (Nat.le_of_ble_eq_true rfl) tg_239 (by decide)) (mz_dc_lt (n := 6) rfl (by decide +kernel) (by decide +kernel)) (by decide +kernel) (by decide +kernel) (fun m25 => ?_)
                    refine q_ic (v := 1) (mz_fe (e := (104, .iconst 1, 1, (0, 0, 0), [])) (by decide +kernel)) (by decide) ?_
                    exact q_retI (mz_fe (e := (105, .ireturn, 1, (0, 0, 0), [])) (by decide +kernel)) (by decide +kernel)
                  · refine q_bi (v := 13) (mz_fe (e := (91, .bipush 13, 2, (0, 0, 0), [])) (by decide +kernel)) (by decide) ?_
                    refine q_s (mz_fe (e := (93, .istore 4, 2, (0, 0, 0), [])) (by decide +kernel)) (pc' := 95) (L' := [some (.ref 239), some (.int x0), some (.int x1), some (.int x2), some (.int 13)]) (st' := []) rfl ?_
                    refine q_o (mz_fe (e := (95, .aload_n 0, 1, (0, 0, 0), [])) (by decide +kernel)) (pc2 := 96) rfl ?_
                    refine q_o (mz_fe (e := (96, .iload 4, 2, (0, 0, 0), [])) (by decide +kernel)) (pc2 := 98) rfl ?_
                    refine q_o (mz_fe (e := (98, .iload_n 1, 1, (0, 0, 0), [])) (by decide +kernel)) (pc2 := 99) rfl ?_
                    refine q_ic (v := 0) (mz_fe (e := (99, .iconst 0, 1, (0, 0, 0), [])) (by decide +kernel)) (by decide) ?_
                    refine q_o (mz_fe (e := (100, .lconst 0, 1, (0, 0, 0), [])) (by decide +kernel)) (pc2 := 101) (st2 := [.long 0, .int 0, .int x0, .int 13, .ref 239]) rfl ?_
                    refine q_callV (N := 182) (vs := [.ref 239, .int 13, .int x0, .int 0, .long 0]) (rest := []) (L' := [some (.ref 239), some (.int x0), some (.int x1), some (.int x2), some (.int 13)]) rfl (mz_fe (e := (101, .invokevirtual 188, 172, (182, 5, 18), [])) (by decide +kernel)) rfl (mz_inv_virt (N := 182) (k := 5) (t := 18) (st := [.long 0, .int 0, .int x0, .int 13, .ref 239]) (rest := []) (b := 239) (vs := [.int 13, .int x0, .int 0, .long 0]) (h := (mz_S0, m)) rfl rfl (Nat.le_of_ble_eq_true rfl) (Nat.le_of_ble_eq_true rfl) tg_239 (by decide)) (mz_dc_lt (n := 6) rfl (by decide +kernel) (by decide +kernel)) (by decide +kernel) (by decide +kernel) (fun m28 => ?_)
                    refine q_ic (v := 1) (mz_fe (e := (104, .iconst 1, 1, (0, 0, 0), [])) (by decide +kernel)) (by decide) ?_
                    exact q_retI (mz_fe (e := (105, .ireturn, 1, (0, 0, 0), [])) (by decide +kernel)) (by decide +kernel)
                · refine q_bi (v := 15) (mz_fe (e := (81, .bipush 15, 2, (0, 0, 0), [])) (by decide +kernel)) (by decide) ?_
                  refine q_s (mz_fe (e := (83, .istore 4, 2, (0, 0, 0), [])) (by decide +kernel)) (pc' := 85) (L' := [some (.ref 239), some (.int x0), some (.int x1), some (.int x2), some (.int 15)]) (st' := []) rfl ?_
                  refine q_o (mz_fe (e := (85, .iload_n 2, 1, (0, 0, 0), [])) (by decide +kernel)) (pc2 := 86) rfl ?_
                  refine q_bi (v := 60) (mz_fe (e := (86, .bipush 60, 2, (0, 0, 0), [])) (by decide +kernel)) (by decide) ?_
                  refine q_if (c := .ne) (off := 7) (t := 95) (x := x1) (y := 60) (st := []) (mz_fe (e := (88, .if_icmp .ne 7, 3, (0, 0, 0), [])) (by decide +kernel)) (fun _ => rfl) rfl rfl rfl (fun c31 => ?_) (fun c31 => ?_)
                  · refine q_o (mz_fe (e := (95, .aload_n 0, 1, (0, 0, 0), [])) (by decide +kernel)) (pc2 := 96) rfl ?_
                    refine q_o (mz_fe (e := (96, .iload 4, 2, (0, 0, 0), [])) (by decide +kernel)) (pc2 := 98) rfl ?_
                    refine q_o (mz_fe (e := (98, .iload_n 1, 1, (0, 0, 0), [])) (by decide +kernel)) (pc2 := 99) rfl ?_
                    refine q_ic (v := 0) (mz_fe (e := (99, .iconst 0, 1, (0, 0, 0), [])) (by decide +kernel)) (by decide) ?_
                    refine q_o (mz_fe (e := (100, .lconst 0, 1, (0, 0, 0), [])) (by decide +kernel)) (pc2 := 101) (st2 := [.long 0, .int 0, .int x0, .int 15, .ref 239]) rfl ?_
                    refine q_callV (N := 182) (vs := [.ref 239, .int 15, .int x0, .int 0, .long 0]) (rest := []) (L' := [some (.ref 239), some (.int x0), some (.int x1), some (.int x2), some (.int 15)]) rfl (mz_fe (e := (101, .invokevirtual 188, 172, (182, 5, 18), [])) (by decide +kernel)) rfl (mz_inv_virt (N := 182) (k := 5) (t := 18) (st := [.long 0, .int 0, .int x0, .int 15, .ref 239]) (rest := []) (b := 239) (vs := [.int 15, .int x0, .int 0, .long 0]) (h := (mz_S0, m)) rfl rfl (Nat.le_of_ble_eq_true rfl) (Nat.le_of_ble_eq_true rfl) tg_239 (by decide)) (mz_dc_lt (n := 6) rfl (by decide +kernel) (by decide +kernel)) (by decide +kernel) (by decide +kernel) (fun m32 => ?_)
                    refine q_ic (v := 1) (mz_fe (e := (104, .iconst 1, 1, (0, 0, 0), [])) (by decide +kernel)) (by decide) ?_
                    exact q_retI (mz_fe (e := (105, .ireturn, 1, (0, 0, 0), [])) (by decide +kernel)) (by decide +kernel)
                  · refine q_bi (v := 13) (mz_fe (e := (91, .bipush 13, 2, (0, 0, 0), [])) (by decide +kernel)) (by decide) ?_
                    refine q_s (mz_fe (e := (93, .istore 4, 2, (0, 0, 0), [])) (by decide +kernel)) (pc' := 95) (L' := [some (.ref 239), some (.int x0), some (.int x1), some (.int x2), some (.int 13)]) (st' := []) rfl ?_
                    refine q_o (mz_fe (e := (95, .aload_n 0, 1, (0, 0, 0), [])) (by decide +kernel)) (pc2 := 96) rfl ?_
                    refine q_o (mz_fe (e := (96, .iload 4, 2, (0, 0, 0), [])) (by decide +kernel)) (pc2 := 98) rfl ?_
                    refine q_o (mz_fe (e := (98, .iload_n 1, 1, (0, 0, 0), [])) (by decide +kernel)) (pc2 := 99) rfl ?_
                    refine q_ic (v := 0) (mz_fe (e := (99, .iconst 0, 1, (0, 0, 0), [])) (by decide +kernel)) (by decide) ?_
                    refine q_o (mz_fe (e := (100, .lconst 0, 1, (0, 0, 0), [])) (by decide +kernel)) (pc2 := 101) (st2 := [.long 0, .int 0, .int x0, .int 13, .ref 239]) rfl ?_
                    refine q_callV (N := 182) (vs := [.ref 239, .int 13, .int x0, .int 0, .long 0]) (rest := []) (L' := [some (.ref 239), some (.int x0), some (.int x1), some (.int x2), some (.int 13)]) rfl (mz_fe (e := (101, .invokevirtual 188, 172, (182, 5, 18), [])) (by decide +kernel)) rfl (mz_inv_virt (N := 182) (k := 5) (t := 18) (st := [.long 0, .int 0, .int x0, .int 13, .ref 239]) (rest := []) (b := 239) (vs := [.int 13, .int x0, .int 0, .long 0]) (h := (mz_S0, m)) rfl rfl (Nat.le_of_ble_eq_true rfl) (Nat.le_of_ble_eq_true rfl) tg_239 (by decide)) (mz_dc_lt (n := 6) rfl (by decide +kernel) (by decide +kernel)) (by decide +kernel) (by decide +kernel) (fun m35 => ?_)
                    refine q_ic (v := 1) (mz_fe (e := (104, .iconst 1, 1, (0, 0, 0), [])) (by decide +kernel)) (by decide) ?_
                    exact q_retI (mz_fe (e := (105, .ireturn, 1, (0, 0, 0), [])) (by decide +kernel)) (by decide +kernel)
            · refine q_bi (v := 9) (mz_fe (e := (61, .bipush 9, 2, (0, 0, 0), [])) (by decide +kernel)) (by decide) ?_
              refine q_s (mz_fe (e := (63, .istore 4, 2, (0, 0, 0), [])) (by decide +kernel)) (pc' := 65) (L' := [some (.ref 239), some (.int x0), some (.int x1), some (.int x2), some (.int 9)]) (st' := []) rfl ?_
              refine q_o (mz_fe (e := (65, .iload_n 2, 1, (0, 0, 0), [])) (by decide +kernel)) (pc2 := 66) rfl ?_
              refine q_bi (v := 42) (mz_fe (e := (66, .bipush 42, 2, (0, 0, 0), [])) (by decide +kernel)) (by decide) ?_
              refine q_if (c := .ne) (off := 7) (t := 75) (x := x1) (y := 42) (st := []) (mz_fe (e := (68, .if_icmp .ne 7, 3, (0, 0, 0), [])) (by decide +kernel)) (fun _ => rfl) rfl rfl rfl (fun c38 => ?_) (fun c38 => ?_)
              · refine q_o (mz_fe (e := (75, .iload_n 2, 1, (0, 0, 0), [])) (by decide +kernel)) (pc2 := 76) rfl ?_
                refine q_bi (v := 47) (mz_fe (e := (76, .bipush 47, 2, (0, 0, 0), [])) (by decide +kernel)) (by decide) ?_
                refine q_if (c := .ne) (off := 7) (t := 85) (x := x1) (y := 47) (st := []) (mz_fe (e := (78, .if_icmp .ne 7, 3, (0, 0, 0), [])) (by decide +kernel)) (fun _ => rfl) rfl rfl rfl (fun c39 => ?_) (fun c39 => ?_)
                · refine q_o (mz_fe (e := (85, .iload_n 2, 1, (0, 0, 0), [])) (by decide +kernel)) (pc2 := 86) rfl ?_
                  refine q_bi (v := 60) (mz_fe (e := (86, .bipush 60, 2, (0, 0, 0), [])) (by decide +kernel)) (by decide) ?_
                  refine q_if (c := .ne) (off := 7) (t := 95) (x := x1) (y := 60) (st := []) (mz_fe (e := (88, .if_icmp .ne 7, 3, (0, 0, 0), [])) (by decide +kernel)) (fun _ => rfl) rfl rfl rfl (fun c40 => ?_) (fun c40 => ?_)
                  · refine q_o (mz_fe (e := (95, .aload_n 0, 1, (0, 0, 0), [])) (by decide +kernel)) (pc2 := 96) rfl ?_
                    refine q_o (mz_fe (e := (96, .iload 4, 2, (0, 0, 0), [])) (by decide +kernel)) (pc2 := 98) rfl ?_
                    refine q_o (mz_fe (e := (98, .iload_n 1, 1, (0, 0, 0), [])) (by decide +kernel)) (pc2 := 99) rfl ?_
                    refine q_ic (v := 0) (mz_fe (e := (99, .iconst 0, 1, (0, 0, 0), [])) (by decide +kernel)) (by decide) ?_
                    refine q_o (mz_fe (e := (100, .lconst 0, 1, (0, 0, 0), [])) (by decide +kernel)) (pc2 := 101) (st2 := [.long 0, .int 0, .int x0, .int 9, .ref 239]) rfl ?_
                    refine q_callV (N := 182) (vs := [.ref 239, .int 9, .int x0, .int 0, .long 0]) (rest := []) (L' := [some (.ref 239), some (.int x0), some (.int x1), some (.int x2), some (.int 9)]) rfl (mz_fe (e := (101, .invokevirtual 188, 172, (182, 5, 18), [])) (by decide +kernel)) rfl (mz_inv_virt (N := 182) (k := 5) (t := 18) (st := [.long 0, .int 0, .int x0, .int 9, .ref 239]) (rest := []) (b := 239) (vs := [.int 9, .int x0, .int 0, .long 0]) (h := (mz_S0, m)) rfl rfl (Nat.le_of_ble_eq_true rfl) (Nat.le_of_ble_eq_true rfl) tg_239 (by decide)) (mz_dc_lt (n := 6) rfl (by decide +kernel) (by decide +kernel)) (by decide +kernel) (by decide +kernel) (fun m41 => ?_)
                    refine q_ic (v := 1) (mz_fe (e := (104, .iconst 1, 1, (0, 0, 0), [])) (by decide +kernel)) (by decide) ?_
                    exact q_retI (mz_fe (e := (105, .ireturn, 1, (0, 0, 0), [])) (by decide +kernel)) (by decide +kernel)
                  · refine q_bi (v := 13) (mz_fe (e := (91, .bipush 13, 2, (0, 0, 0), [])) (by decide +kernel)) (by decide) ?_
                    refine q_s (mz_fe (e := (93, .istore 4, 2, (0, 0, 0), [])) (by decide +kernel)) (pc' := 95) (L' := [some (.ref 239), some (.int x0), some (.int x1), some (.int x2), some (.int 13)]) (st' := []) rfl ?_
                    refine q_o (mz_fe (e := (95, .aload_n 0, 1, (0, 0, 0), [])) (by decide +kernel)) (pc2 := 96) rfl ?_
                    refine q_o (mz_fe (e := (96, .iload 4, 2, (0, 0, 0), [])) (by decide +kernel)) (pc2 := 98) rfl ?_
                    refine q_o (mz_fe (e := (98, .iload_n 1, 1, (0, 0, 0), [])) (by decide +kernel)) (pc2 := 99) rfl ?_
                    refine q_ic (v := 0) (mz_fe (e := (99, .iconst 0, 1, (0, 0, 0), [])) (by decide +kernel)) (by decide) ?_
                    refine q_o (mz_fe (e := (100, .lconst 0, 1, (0, 0, 0), [])) (by decide +kernel)) (pc2 := 101) (st2 := [.long 0, .int 0, .int x0, .int 13, .ref 239]) rfl ?_
                    refine q_callV (N := 182) (vs := [.ref 239, .int 13, .int x0, .int 0, .long 0]) (rest := []) (L' := [some (.ref 239), some (.int x0), some (.int x1), some (.int x2), some (.int 13)]) rfl (mz_fe (e := (101, .invokevirtual 188, 172, (182, 5, 18), [])) (by decide +kernel)) rfl (mz_inv_virt (N := 182) (k := 5) (t := 18) (st := [.long 0, .int 0, .int x0, .int 13, .ref 239]) (rest := []) (b := 239) (vs := [.int 13, .int x0, .int 0, .long 0]) (h := (mz_S0, m)) rfl rfl (Nat.le_of_ble_eq_true rfl) (Nat.le_of_ble_eq_true rfl) tg_239 (by decide)) (mz_dc_lt (n := 6) rfl (by decide +kernel) (by decide +kernel)) (by decide +kernel) (by decide +kernel) (fun m44 => ?_)
                    refine q_ic (v := 1) (mz_fe (e := (104, .iconst 1, 1, (0, 0, 0), [])) (by decide +kernel)) (by decide) ?_
                    exact q_retI (mz_fe (e := (105, .ireturn, 1, (0, 0, 0), [])) (by decide +kernel)) (by decide +kernel)
                · refine q_bi (v := 15) (mz_fe (e := (81, .bipush 15, 2, (0, 0, 0), [])) (by decide +kernel)) (by decide) ?_
                  refine q_s (mz_fe (e := (83, .istore 4, 2, (0, 0, 0), [])) (by decide +kernel)) (pc' := 85) (L' := [some (.ref 239), some (.int x0), some (.int x1), some (.int x2), some (.int 15)]) (st' := []) rfl ?_
                  refine q_o (mz_fe (e := (85, .iload_n 2, 1, (0, 0, 0), [])) (by decide +kernel)) (pc2 := 86) rfl ?_
                  refine q_bi (v := 60) (mz_fe (e := (86, .bipush 60, 2, (0, 0, 0), [])) (by decide +kernel)) (by decide) ?_
                  refine q_if (c := .ne) (off := 7) (t := 95) (x := x1) (y := 60) (st := []) (mz_fe (e := (88, .if_icmp .ne 7, 3, (0, 0, 0), [])) (by decide +kernel)) (fun _ => rfl) rfl rfl rfl (fun c47 => ?_) (fun c47 => ?_)
                  · refine q_o (mz_fe (e := (95, .aload_n 0, 1, (0, 0, 0), [])) (by decide +kernel)) (pc2 := 96) rfl ?_
                    refine q_o (mz_fe (e := (96, .iload 4, 2, (0, 0, 0), [])) (by decide +kernel)) (pc2 := 98) rfl ?_
                    refine q_o (mz_fe (e := (98, .iload_n 1, 1, (0, 0, 0), [])) (by decide +kernel)) (pc2 := 99) rfl ?_
                    refine q_ic (v := 0) (mz_fe (e := (99, .iconst 0, 1, (0, 0, 0), [])) (by decide +kernel)) (by decide) ?_
                    refine q_o (mz_fe (e := (100, .lconst 0, 1, (0, 0, 0), [])) (by decide +kernel)) (pc2 := 101) (st2 := [.long 0, .int 0, .int x0, .int 15, .ref 239]) rfl ?_
                    refine q_callV (N := 182) (vs := [.ref 239, .int 15, .int x0, .int 0, .long 0]) (rest := []) (L' := [some (.ref 239), some (.int x0), some (.int x1), some (.int x2), some (.int 15)]) rfl (mz_fe (e := (101, .invokevirtual 188, 172, (182, 5, 18), [])) (by decide +kernel)) rfl (mz_inv_virt (N := 182) (k := 5) (t := 18) (st := [.long 0, .int 0, .int x0, .int 15, .ref 239]) (rest := []) (b := 239) (vs := [.int 15, .int x0, .int 0, .long 0]) (h := (mz_S0, m)) rfl rfl (Nat.le_of_ble_eq_true rfl) (Nat.le_of_ble_eq_true rfl) tg_239 (by decide)) (mz_dc_lt (n := 6) rfl (by decide +kernel) (by decide +kernel)) (by decide +kernel) (by decide +kernel) (fun m48 => ?_)
                    refine q_ic (v := 1) (mz_fe (e := (104, .iconst 1, 1, (0, 0, 0), [])) (by decide +kernel)) (by decide) ?_
                    exact q_retI (mz_fe (e := (105, .ireturn, 1, (0, 0, 0), [])) (by decide +kernel)) (by decide +kernel)
                  · refine q_bi (v := 13) (mz_fe (e := (91, .bipush 13, 2, (0, 0, 0), [])) (by decide +kernel)) (by decide) ?_
                    refine q_s (mz_fe (e := (93, .istore 4, 2, (0, 0, 0), [])) (by decide +kernel)) (pc' := 95) (L' := [some (.ref 239), some (.int x0), some (.int x1), some (.int x2), some (.int 13)]) (st' := []) rfl ?_
                    refine q_o (mz_fe (e := (95, .aload_n 0, 1, (0, 0, 0), [])) (by decide +kernel)) (pc2 := 96) rfl ?_
                    refine q_o (mz_fe (e := (96, .iload 4, 2, (0, 0, 0), [])) (by decide +kernel)) (pc2 := 98) rfl ?_
                    refine q_o (mz_fe (e := (98, .iload_n 1, 1, (0, 0, 0), [])) (by decide +kernel)) (pc2 := 99) rfl ?_
                    refine q_ic (v := 0) (mz_fe (e := (99, .iconst 0, 1, (0, 0, 0), [])) (by decide +kernel)) (by decide) ?_
                    refine q_o (mz_fe (e := (100, .lconst 0, 1, (0, 0, 0), [])) (by decide +kernel)) (pc2 := 101) (st2 := [.long 0, .int 0, .int x0, .int 13, .ref 239]) rfl ?_
                    refine q_callV (N := 182) (vs := [.ref 239, .int 13, .int x0, .int 0, .long 0]) (rest := []) (L' := [some (.ref 239), some (.int x0), some (.int x1), some (.int x2), some (.int 13)]) rfl (mz_fe (e := (101, .invokevirtual 188, 172, (182, 5, 18), [])) (by decide +kernel)) rfl (mz_inv_virt (N := 182) (k := 5) (t := 18) (st := [.long 0, .int 0, .int x0, .int 13, .ref 239]) (rest := []) (b := 239) (vs := [.int 13, .int x0, .int 0, .long 0]) (h := (mz_S0, m)) rfl rfl (Nat.le_of_ble_eq_true rfl) (Nat.le_of_ble_eq_true rfl) tg_239 (by decide)) (mz_dc_lt (n := 6) rfl (by decide +kernel) (by decide +kernel)) (by decide +kernel) (by decide +kernel) (fun m51 => ?_)
                    refine q_ic (v := 1) (mz_fe (e := (104, .iconst 1, 1, (0, 0, 0), [])) (by decide +kernel)) (by decide) ?_
                    exact q_retI (mz_fe (e := (105, .ireturn, 1, (0, 0, 0), [])) (by decide +kernel)) (by decide +kernel)
              · refine q_bi (v := 10) (mz_fe (e := (71, .bipush 10, 2, (0, 0, 0), [])) (by decide +kernel)) (by decide) ?_
                refine q_s (mz_fe (e := (73, .istore 4, 2, (0, 0, 0), [])) (by decide +kernel)) (pc' := 75) (L' := [some (.ref 239), some (.int x0), some (.int x1), some (.int x2), some (.int 10)]) (st' := []) rfl ?_
                refine q_o (mz_fe (e := (75, .iload_n 2, 1, (0, 0, 0), [])) (by decide +kernel)) (pc2 := 76) rfl ?_
                refine q_bi (v := 47) (mz_fe (e := (76, .bipush 47, 2, (0, 0, 0), [])) (by decide +kernel)) (by decide) ?_
                refine q_if (c := .ne) (off := 7) (t := 85) (x := x1) (y := 47) (st := []) (mz_fe (e := (78, .if_icmp .ne 7, 3, (0, 0, 0), [])) (by decide +kernel)) (fun _ => rfl) rfl rfl rfl (fun c54 => ?_) (fun c54 => ?_)
                · refine q_o (mz_fe (e := (85, .iload_n 2, 1, (0, 0, 0), [])) (by decide +kernel)) (pc2 := 86) rfl ?_
                  refine q_bi (v := 60) (mz_fe (e := (86, .bipush 60, 2, (0, 0, 0), [])) (by decide +kernel)) (by decide) ?_
                  refine q_if (c := .ne) (off := 7) (t := 95) (x := x1) (y := 60) (st := []) (mz_fe (e := (88, .if_icmp .ne 7, 3, (0, 0, 0), [])) (by decide +kernel)) (fun _ => rfl) rfl rfl rfl (fun c55 => ?_) (fun c55 => ?_)
                  · refine q_o (mz_fe (e := (95, .aload_n 0, 1, (0, 0, 0), [])) (by decide +kernel)) (pc2 := 96) rfl ?_
                    refine q_o (mz_fe (e := (96, .iload 4, 2, (0, 0, 0), [])) (by decide +kernel)) (pc2 := 98) rfl ?_
                    refine q_o (mz_fe (e := (98, .iload_n 1, 1, (0, 0, 0), [])) (by decide +kernel)) (pc2 := 99) rfl ?_
                    refine q_ic (v := 0) (mz_fe (e := (99, .iconst 0, 1, (0, 0, 0), [])) (by decide +kernel)) (by decide) ?_
                    refine q_o (mz_fe (e := (100, .lconst 0, 1, (0, 0, 0), [])) (by decide +kernel)) (pc2 := 101) (st2 := [.long 0, .int 0, .int x0, .int 10, .ref 239]) rfl ?_
                    refine q_callV (N := 182) (vs := [.ref 239, .int 10, .int x0, .int 0, .long 0]) (rest := []) (L' := [some (.ref 239), some (.int x0), some (.int x1), some (.int x2), some (.int 10)]) rfl (mz_fe (e := (101, .invokevirtual 188, 172, (182, 5, 18), [])) (by decide +kernel)) rfl (mz_inv_virt (N := 182) (k := 5) (t := 18) (st := [.long 0, .int 0, .int x0, .int 10, .ref 239]) (rest := []) (b := 239) (vs := [.int 10, .int x0, .int 0, .long 0]) (h := (mz_S0, m)) rfl rfl (Nat.le_of_ble_eq_true rfl) (Nat.le_of_ble_eq_true rfl) tg_239 (by decide)) (mz_dc_lt (n := 6) rfl (by decide +kernel) (by decide +kernel)) (by decide +kernel) (by decide +kernel) (fun m56 => ?_)
                    refine q_ic (v := 1) (mz_fe (e := (104, .iconst 1, 1, (0, 0, 0), [])) (by decide +kernel)) (by decide) ?_
                    exact q_retI (mz_fe (e := (105, .ireturn, 1, (0, 0, 0), [])) (by decide +kernel)) (by decide +kernel)
                  · refine q_bi (v := 13) (mz_fe (e := (91, .bipush 13, 2, (0, 0, 0), [])) (by decide +kernel)) (by decide) ?_
                    refine q_s (mz_fe (e := (93, .istore 4, 2, (0, 0, 0), [])) (by decide +kernel)) (pc' := 95) (L' := [some (.ref 239), some (.int x0), some (.int x1), some (.int x2), some (.int 13)]) (st' := []) rfl ?_
                    refine q_o (mz_fe (e := (95, .aload_n 0, 1, (0, 0, 0), [])) (by decide +kernel)) (pc2 := 96) rfl ?_
                    refine q_o (mz_fe (e := (96, .iload 4, 2, (0, 0, 0), [])) (by decide +kernel)) (pc2 := 98) rfl ?_
                    refine q_o (mz_fe (e := (98, .iload_n 1, 1, (0, 0, 0), [])) (by decide +kernel)) (pc2 := 99) rfl ?_
                    refine q_ic (v := 0) (mz_fe (e := (99, .iconst 0, 1, (0, 0, 0), [])) (by decide +kernel)) (by decide) ?_
                    refine q_o (mz_fe (e := (100, .lconst 0, 1, (0, 0, 0), [])) (by decide +kernel)) (pc2 := 101) (st2 := [.long 0, .int 0, .int x0, .int 13, .ref 239]) rfl ?_
                    refine q_callV (N := 182) (vs := [.ref 239, .int 13, .int x0, .int 0, .long 0]) (rest := []) (L' := [some (.ref 239), some (.int x0), some (.int x1), some (.int x2), some (.int 13)]) rfl (mz_fe (e := (101, .invokevirtual 188, 172, (182, 5, 18), [])) (by decide +kernel)) rfl (mz_inv_virt (N := 182) (k := 5) (t := 18) (st := [.long 0, .int 0, .int x0, .int 13, .ref 239]) (rest := []) (b := 239) (vs := [.int 13, .int x0, .int 0, .long 0]) (h := (mz_S0, m)) rfl rfl (Nat.le_of_ble_eq_true rfl) (Nat.le_of_ble_eq_true rfl) tg_239 (by decide)) (mz_dc_lt (n := 6) rfl (by decide +kernel) (by decide +kernel)) (by decide +kernel) (by decide +kernel) (fun m59 => ?_)
                    refine q_ic (v := 1) (mz_fe (e := (104, .iconst 1, 1, (0, 0, 0), [])) (by decide +kernel)) (by decide) ?_
                    exact q_retI (mz_fe (e := (105, .ireturn, 1, (0, 0, 0), [])) (by decide +kernel)) (by decide +kernel)
                · refine q_bi (v := 15) (mz_fe (e := (81, .bipush 15, 2, (0, 0, 0), [])) (by decide +kernel)) (by decide) ?_
                  refine q_s (mz_fe (e := (83, .istore 4, 2, (0, 0, 0), [])) (by decide +kernel)) (pc' := 85) (L' := [some (.ref 239), some (.int x0), some (.int x1), some (.int x2), some (.int 15)]) (st' := []) rfl ?_
                  refine q_o (mz_fe (e := (85, .iload_n 2, 1, (0, 0, 0), [])) (by decide +kernel)) (pc2 := 86) rfl ?_
                  refine q_bi (v := 60) (mz_fe (e := (86, .bipush 60, 2, (0, 0, 0), [])) (by decide +kernel)) (by decide) ?_
                  refine q_if (c := .ne) (off := 7) (t := 95) (x := x1) (y := 60) (st := []) (mz_fe (e := (88, .if_icmp .ne 7, 3, (0, 0, 0), [])) (by decide +kernel)) (fun _ => rfl) rfl rfl rfl (fun c62 => ?_) (fun c62 => ?_)
                  · refine q_o (mz_fe (e := (95, .aload_n 0, 1, (0, 0, 0), [])) (by decide +kernel)) (pc2 := 96) rfl ?_
                    refine q_o (mz_fe (e := (96, .iload 4, 2, (0, 0, 0), [])) (by decide +kernel)) (pc2 := 98) rfl ?_
                    refine q_o (mz_fe (e := (98, .iload_n 1, 1, (0, 0, 0), [])) (by decide +kernel)) (pc2 := 99) rfl ?_
                    refine q_ic (v := 0) (mz_fe (e := (99, .iconst 0, 1, (0, 0, 0), [])) (by decide +kernel)) (by decide) ?_
                    refine q_o (mz_fe (e := (100, .lconst 0, 1, (0, 0, 0), [])) (by decide +kernel)) (pc2 := 101) (st2 := [.long 0, .int 0, .int x0, .int 15, .ref 239]) rfl ?_
                    refine q_callV (N := 182) (vs := [.ref 239, .int 15, .int x0, .int 0, .long 0]) (rest := []) (L' := [some (.ref 239), some (.int x0), some (.int x1), some (.int x2), some (.int 15)]) rfl (mz_fe (e := (101, .invokevirtual 188, 172, (182, 5, 18), [])) (by decide +kernel)) rfl (mz_inv_virt (N := 182) (k := 5) (t := 18) (st := [.long 0, .int 0, .int x0, .int 15, .ref 239]) (rest := []) (b := 239) (vs := [.int 15, .int x0, .int 0, .long 0]) (h := (mz_S0, m)) rfl rfl (Nat.le_of_ble_eq_true rfl) (Nat.le_of_ble_eq_true rfl) tg_239 (by decide)) (mz_dc_lt (n := 6) rfl (by decide +kernel) (by decide +kernel)) (by decide +kernel) (by decide +kernel) (fun m63 => ?_)
                    refine q_ic (v := 1) (mz_fe (e := (104, .iconst 1, 1, (0, 0, 0), [])) (by decide +kernel)) (by decide) ?_
                    exact q_retI (mz_fe (e := (105, .ireturn, 1, (0, 0, 0), [])) (by decide +kernel)) (by decide +kernel)
                  · refine q_bi (v := 13) (mz_fe (e := (91, .bipush 13, 2, (0, 0, 0), [])) (by decide +kernel)) (by decide) ?_
                    refine q_s (mz_fe (e := (93, .istore 4, 2, (0, 0, 0), [])) (by decide +kernel)) (pc' := 95) (L' := [some (.ref 239), some (.int x0), some (.int x1), some (.int x2), some (.int 13)]) (st' := []) rfl ?_
                    refine q_o (mz_fe (e := (95, .aload_n 0, 1, (0, 0, 0), [])) (by decide +kernel)) (pc2 := 96) rfl ?_
                    refine q_o (mz_fe (e := (96, .iload 4, 2, (0, 0, 0), [])) (by decide +kernel)) (pc2 := 98) rfl ?_
                    refine q_o (mz_fe (e := (98, .iload_n 1, 1, (0, 0, 0), [])) (by decide +kernel)) (pc2 := 99) rfl ?_
                    refine q_ic (v := 0) (mz_fe (e := (99, .iconst 0, 1, (0, 0, 0), [])) (by decide +kernel)) (by decide) ?_
                    refine q_o (mz_fe (e := (100, .lconst 0, 1, (0, 0, 0), [])) (by decide +kernel)) (pc2 := 101) (st2 := [.long 0, .int 0, .int x0, .int 13, .ref 239]) rfl ?_
                    refine q_callV (N := 182) (vs := [.ref 239, .int 13, .int x0, .int 0, .long 0]) (rest := []) (L' := [some (.ref 239), some (.int x0), some (.int x1), some (.int x2), some (.int 13)]) rfl (mz_fe (e := (101, .invokevirtual 188, 172, (182, 5, 18), [])) (by decide +kernel)) rfl (mz_inv_virt (N := 182) (k := 5) (t := 18) (st := [.long 0, .int 0, .int x0, .int 13, .ref 239]) (rest := []) (b := 239) (vs := [.int 13, .int x0, .int 0, .long 0]) (h := (mz_S0, m)) rfl rfl (Nat.le_of_ble_eq_true rfl) (Nat.le_of_ble_eq_true rfl) tg_239 (by decide)) (mz_dc_lt (n := 6) rfl (by decide +kernel) (by decide +kernel)) (by decide +kernel) (by decide +kernel) (fun m66 => ?_)
                    refine q_ic (v := 1) (mz_fe (e := (104, .iconst 1, 1, (0, 0, 0), [])) (by decide +kernel)) (by decide) ?_
                    exact q_retI (mz_fe (e := (105, .ireturn, 1, (0, 0, 0), [])) (by decide +kernel)) (by decide +kernel)
          · refine q_bi (v := 8) (mz_fe (e := (51, .bipush 8, 2, (0, 0, 0), [])) (by decide +kernel)) (by decide) ?_
            refine q_s (mz_fe (e := (53, .istore 4, 2, (0, 0, 0), [])) (by decide +kernel)) (pc' := 55) (L' := [some (.ref 239), some (.int x0), some (.int x1), some (.int x2), some (.int 8)]) (st' := []) rfl ?_
            refine q_o (mz_fe (e := (55, .iload_n 2, 1, (0, 0, 0), [])) (by decide +kernel)) (pc2 := 56) rfl ?_
            refine q_bi (v := 45) (mz_fe (e := (56, .bipush 45, 2, (0, 0, 0), [])) (by decide +kernel)) (by decide) ?_
            refine q_if (c := .ne) (off := 7) (t := 65) (x := x1) (y := 45) (st := []) (mz_fe (e := (58, .if_icmp .ne 7, 3, (0, 0, 0), [])) (by decide +kernel)) (fun _ => rfl) rfl rfl rfl (fun c69 => ?_) (fun c69 => ?_)
            · refine q_o (mz_fe (e := (65, .iload_n 2, 1, (0, 0, 0), [])) (by decide +kernel)) (pc2 := 66) rfl ?_
              refine q_bi (v := 42) (mz_fe (e := (66, .bipush 42, 2, (0, 0, 0), [])) (by decide +kernel)) (by decide) ?_
              refine q_if (c := .ne) (off := 7) (t := 75) (x := x1) (y := 42) (st := []) (mz_fe (e := (68, .if_icmp .ne 7, 3, (0, 0, 0), [])) (by decide +kernel)) (fun _ => rfl) rfl rfl rfl (fun c70 => ?_) (fun c70 => ?_)
              · refine q_o (mz_fe (e := (75, .iload_n 2, 1, (0, 0, 0), [])) (by decide +kernel)) (pc2 := 76) rfl ?_
                refine q_bi (v := 47) (mz_fe (e := (76, .bipush 47, 2, (0, 0, 0), [])) (by decide +kernel)) (by decide) ?_
                refine q_if (c := .ne) (off := 7) (t := 85) (x := x1) (y := 47) (st := []) (mz_fe (e := (78, .if_icmp .ne 7, 3, (0, 0, 0), [])) (by decide +kernel)) (fun _ => rfl) rfl rfl rfl (fun c71 => ?_) (fun c71 => ?_)
                · refine q_o (mz_fe (e := (85, .iload_n 2, 1, (0, 0, 0), [])) (by decide +kernel)) (pc2 := 86) rfl ?_
                  refine q_bi (v := 60) (mz_fe (e := (86, .bipush 60, 2, (0, 0, 0), [])) (by decide +kernel)) (by decide) ?_
                  refine q_if (c := .ne) (off := 7) (t := 95) (x := x1) (y := 60) (st := []) (mz_fe (e := (88, .if_icmp .ne 7, 3, (0, 0, 0), [])) (by decide +kernel)) (fun _ => rfl) rfl rfl rfl (fun c72 => ?_) (fun c72 => ?_)
                  · refine q_o (mz_fe (e := (95, .aload_n 0, 1, (0, 0, 0), [])) (by decide +kernel)) (pc2 := 96) rfl ?_
                    refine q_o (mz_fe (e := (96, .iload 4, 2, (0, 0, 0), [])) (by decide +kernel)) (pc2 := 98) rfl ?_
                    refine q_o (mz_fe (e := (98, .iload_n 1, 1, (0, 0, 0), [])) (by decide +kernel)) (pc2 := 99) rfl ?_
                    refine q_ic (v := 0) (mz_fe (e := (99, .iconst 0, 1, (0, 0, 0), [])) (by decide +kernel)) (by decide) ?_
                    refine q_o (mz_fe (e := (100, .lconst 0, 1, (0, 0, 0), [])) (by decide +kernel)) (pc2 := 101) (st2 := [.long 0, .int 0, .int x0, .int 8, .ref 239]) rfl ?_
                    refine q_callV (N := 182) (vs := [.ref 239, .int 8, .int x0, .int 0, .long 0]) (rest := []) (L' := [some (.ref 239), some (.int x0), some (.int x1), some (.int x2), some (.int 8)]) rfl (mz_fe (e := (101, .invokevirtual 188, 172, (182, 5, 18), [])) (by decide +kernel)) rfl (mz_inv_virt (N := 182) (k := 5) (t := 18) (st := [.long 0, .int 0, .int x0, .int 8, .ref 239]) (rest := []) (b := 239) (vs := [.int 8, .int x0, .int 0, .long 0]) (h := (mz_S0, m)) rfl rfl (Nat.le_of_ble_eq_true rfl) (Nat.le_of_ble_eq_true rfl) tg_239 (by decide)) (mz_dc_lt (n := 6) rfl (by decide +kernel) (by decide +kernel)) (by decide +kernel) (by decide +kernel) (fun m73 => ?_)
                    refine q_ic (v := 1) (mz_fe (e := (104, .iconst 1, 1, (0, 0, 0), [])) (by decide +kernel)) (by decide) ?_
                    exact q_retI (mz_fe (e := (105, .ireturn, 1, (0, 0, 0), [])) (by decide +kernel)) (by decide +kernel)
                  · refine q_bi (v := 13) (mz_fe (e := (91, .bipush 13, 2, (0, 0, 0), [])) (by decide +kernel)) (by decide) ?_
                    refine q_s (mz_fe (e := (93, .istore 4, 2, (0, 0, 0), [])) (by decide +kernel)) (pc' := 95) (L' := [some (.ref 239), some (.int x0), some (.int x1), some (.int x2), some (.int 13)]) (st' := []) rfl ?_
                    refine q_o (mz_fe (e := (95, .aload_n 0, 1, (0, 0, 0), [])) (by decide +kernel)) (pc2 := 96) rfl ?_
                    refine q_o (mz_fe (e := (96, .iload 4, 2, (0, 0, 0), [])) (by decide +kernel)) (pc2 := 98) rfl ?_
                    refine q_o (mz_fe (e := (98, .iload_n 1, 1, (0, 0, 0), [])) (by decide +kernel)) (pc2 := 99) rfl ?_
                    refine q_ic (v := 0) (mz_fe (e := (99, .iconst 0, 1, (0, 0, 0), [])) (by decide +kernel)) (by decide) ?_
                    refine q_o (mz_fe (e := (100, .lconst 0, 1, (0, 0, 0), [])) (by decide +kernel)) (pc2 := 101) (st2 := [.long 0, .int 0, .int x0, .int 13, .ref 239]) rfl ?_
                    refine q_callV (N := 182) (vs := [.ref 239, .int 13, .int x0, .int 0, .long 0]) (rest := []) (L' := [some (.ref 239), some (.int x0), some (.int x1), some (.int x2), some (.int 13)]) rfl (mz_fe (e := (101, .invokevirtual 188, 172, (182, 5, 18), [])) (by decide +kernel)) rfl (mz_inv_virt (N := 182) (k := 5) (t := 18) (st := [.long 0, .int 0, .int x0, .int 13, .ref 239]) (rest := []) (b := 239) (vs := [.int 13, .int x0, .int 0, .long 0]) (h := (mz_S0, m)) rfl rfl (Nat.le_of_ble_eq_true rfl) (Nat.le_of_ble_eq_true rfl) tg_239 (by decide)) (mz_dc_lt (n := 6) rfl (by decide +kernel) (by decide +kernel)) (by decide +kernel) (by decide +kernel) (fun m76 => ?_)
                    refine q_ic (v := 1) (mz_fe (e := (104, .iconst 1, 1, (0, 0, 0), [])) (by decide +kernel)) (by decide) ?_
                    exact q_retI (mz_fe (e := (105, .ireturn, 1, (0, 0, 0), [])) (by decide +kernel)) (by decide +kernel)
                · refine q_bi (v := 15) (mz_fe (e := (81, .bipush 15, 2, (0, 0, 0), [])) (by decide +kernel)) (by decide) ?_
                  refine q_s (mz_fe (e := (83, .istore 4, 2, (0, 0, 0), [])) (by decide +kernel)) (pc' := 85) (L' := [some (.ref 239), some (.int x0), some (.int x1), some (.int x2), some (.int 15)]) (st' := []) rfl ?_
                  refine q_o (mz_fe (e := (85, .iload_n 2, 1, (0, 0, 0), [])) (by decide +kernel)) (pc2 := 86) rfl ?_
                  refine q_bi (v := 60) (mz_fe (e := (86, .bipush 60, 2, (0, 0, 0), [])) (by decide +kernel)) (by decide) ?_
                  refine q_if (c := .ne) (off := 7) (t := 95) (x := x1) (y := 60) (st := []) (mz_fe (e := (88, .if_icmp .ne 7, 3, (0, 0, 0), [])) (by decide +kernel)) (fun _ => rfl) rfl rfl rfl (fun c79 => ?_) (fun c79 => ?_)
                  · refine q_o (mz_fe (e := (95, .aload_n 0, 1, (0, 0, 0), [])) (by decide +kernel)) (pc2 := 96) rfl ?_
                    refine q_o (mz_fe (e := (96, .iload 4, 2, (0, 0, 0), [])) (by decide +kernel)) (pc2 := 98) rfl ?_
                    refine q_o (mz_fe (e := (98, .iload_n 1, 1, (0, 0, 0), [])) (by decide +kernel)) (pc2 := 99) rfl ?_
                    refine q_ic (v := 0) (mz_fe (e := (99, .iconst 0, 1, (0, 0, 0), [])) (by decide +kernel)) (by decide) ?_
                    refine q_o (mz_fe (e := (100, .lconst 0, 1, (0, 0, 0), [])) (by decide +kernel)) (pc2 := 101) (st2 := [.long 0, .int 0, .int x0, .int 15, .ref 239]) rfl ?_
                    refine q_callV (N := 182) (vs := [.ref 239, .int 15, .int x0, .int 0, .long 0]) (rest := []) (L' := [some (.ref 239), some (.int x0), some (.int x1), some (.int x2), some (.int 15)]) rfl (mz_fe (e := (101, .invokevirtual 188, 172, (182, 5, 18), [])) (by decide +kernel)) rfl (mz_inv_virt (N := 182) (k := 5) (t := 18) (st := [.long 0, .int 0, .int x0, .int 15, .ref 239]) (rest := []) (b := 239) (vs := [.int 15, .int x0, .int 0, .long 0]) (h := (mz_S0, m)) rfl rfl (Nat.le_of_ble_eq_true rfl) (Nat.le_of_ble_eq_true rfl) tg_239 (by decide)) (mz_dc_lt (n := 6) rfl (by decide +kernel) (by decide +kernel)) (by decide +kernel) (by decide +kernel) (fun m80 => ?_)
                    refine q_ic (v := 1) (mz_fe (e := (104, .iconst 1, 1, (0, 0, 0), [])) (by decide +kernel)) (by decide) ?_
                    exact q_retI (mz_fe (e := (105, .ireturn, 1, (0, 0, 0), [])) (by decide +kernel)) (by decide +kernel)
                  · refine q_bi (v := 13) (mz_fe (e := (91, .bipush 13, 2, (0, 0, 0), [])) (by decide +kernel)) (by decide) ?_
                    refine q_s (mz_fe (e := (93, .istore 4, 2, (0, 0, 0), [])) (by decide +kernel)) (pc' := 95) (L' := [some (.ref 239), some (.int x0), some (.int x1), some (.int x2), some (.int 13)]) (st' := []) rfl ?_
                    refine q_o (mz_fe (e := (95, .aload_n 0, 1, (0, 0, 0), [])) (by decide +kernel)) (pc2 := 96) rfl ?_
                    refine q_o (mz_fe (e := (96, .iload 4, 2, (0, 0, 0), [])) (by decide +kernel)) (pc2 := 98) rfl ?_
                    refine q_o (mz_fe (e := (98, .iload_n 1, 1, (0, 0, 0), [])) (by decide +kernel)) (pc2 := 99) rfl ?_
                    refine q_ic (v := 0) (mz_fe (e := (99, .iconst 0, 1, (0, 0, 0), [])) (by decide +kernel)) (by decide) ?_
                    refine q_o (mz_fe (e := (100, .lconst 0, 1, (0, 0, 0), [])) (by decide +kernel)) (pc2 := 101) (st2 := [.long 0, .int 0, .int x0, .int 13, .ref 239]) rfl ?_
                    refine q_callV (N := 182) (vs := [.ref 239, .int 13, .int x0, .int 0, .long 0]) (rest := []) (L' := [some (.ref 239), some (.int x0), some (.int x1), some (.int x2), some (.int 13)]) rfl (mz_fe (e := (101, .invokevirtual 188, 172, (182, 5, 18), [])) (by decide +kernel)) rfl (mz_inv_virt (N := 182) (k := 5) (t := 18) (st := [.long 0, .int 0, .int x0, .int 13, .ref 239]) (rest := []) (b := 239) (vs := [.int 13, .int x0, .int 0, .long 0]) (h := (mz_S0, m)) rfl rfl (Nat.le_of_ble_eq_true rfl) (Nat.le_of_ble_eq_true rfl) tg_239 (by decide)) (mz_dc_lt (n := 6) rfl (by decide +kernel) (by decide +kernel)) (by decide +kernel) (by decide +kernel) (fun m83 => ?_)
                    refine q_ic (v := 1) (mz_fe (e := (104, .iconst 1, 1, (0, 0, 0), [])) (by decide +kernel)) (by decide) ?_
                    exact q_retI (mz_fe (e := (105, .ireturn, 1, (0, 0, 0), [])) (by decide +kernel)) (by decide +kernel)
              · refine q_bi (v := 10) (mz_fe (e := (71, .bipush 10, 2, (0, 0, 0), [])) (by decide +kernel)) (by decide) ?_
                refine q_s (mz_fe (e := (73, .istore 4, 2, (0, 0, 0), [])) (by decide +kernel)) (pc' := 75) (L' := [some (.ref 239), some (.int x0), some (.int x1), some (.int x2), some (.int 10)]) (st' := []) rfl ?_
                refine q_o (mz_fe (e := (75, .iload_n 2, 1, (0, 0, 0), [])) (by decide +kernel)) (pc2 := 76) rfl ?_
                refine q_bi (v := 47) (mz_fe (e := (76, .bipush 47, 2, (0, 0, 0), [])) (by decide +kernel)) (by decide) ?_
                refine q_if (c := .ne) (off := 7) (t := 85) (x := x1) (y := 47) (st := []) (mz_fe (e := (78, .if_icmp .ne 7, 3, (0, 0, 0), [])) (by decide +kernel)) (fun _ => rfl) rfl rfl rfl (fun c86 => ?_) (fun c86 => ?_)
                · refine q_o (mz_fe (e := (85, .iload_n 2, 1, (0, 0, 0), [])) (by decide +kernel)) (pc2 := 86) rfl ?_
                  refine q_bi (v := 60) (mz_fe (e := (86, .bipush 60, 2, (0, 0, 0), [])) (by decide +kernel)) (by decide) ?_
                  refine q_if (c := .ne) (off := 7) (t := 95) (x := x1) (y := 60) (st := []) (mz_fe (e := (88, .if_icmp .ne 7, 3, (0, 0, 0), [])) (by decide +kernel)) (fun _ => rfl) rfl rfl rfl (fun c87 => ?_) (fun c87 => ?_)
                  · refine q_o (mz_fe (e := (95, .aload_n 0, 1, (0, 0, 0), [])) (by decide +kernel)) (pc2 := 96) rfl ?_
                    refine q_o (mz_fe (e := (96, .iload 4, 2, (0, 0, 0), [])) (by decide +kernel)) (pc2 := 98) rfl ?_
                    refine q_o (mz_fe (e := (98, .iload_n 1, 1, (0, 0, 0), [])) (by decide +kernel)) (pc2 := 99) rfl ?_
                    refine q_ic (v := 0) (mz_fe (e := (99, .iconst 0, 1, (0, 0, 0), [])) (by decide +kernel)) (by decide) ?_
                    refine q_o (mz_fe (e := (100, .lconst 0, 1, (0, 0, 0), [])) (by decide +kernel)) (pc2 := 101) (st2 := [.long 0, .int 0, .int x0, .int 10, .ref 239]) rfl ?_
                    refine q_callV (N := 182) (vs := [.ref 239, .int 10, .int x0, .int 0, .long 0]) (rest := []) (L' := [some (.ref 239), some (.int x0), some (.int x1), some (.int x2), some (.int 10)]) rfl (mz_fe (e := (101, .invokevirtual 188, 172, (182, 5, 18), [])) (by decide +kernel)) rfl (mz_inv_virt (N := 182) (k := 5) (t := 18) (st := [.long 0, .int 0, .int x0, .int 10, .ref 239]) (rest := []) (b := 239) (vs := [.int 10, .int x0, .int 0, .long 0]) (h := (mz_S0, m)) rfl rfl (Nat.le_of_ble_eq_true rfl) (Nat.le_of_ble_eq_true rfl) tg_239 (by decide)) (mz_dc_lt (n := 6) rfl (by decide +kernel) (by decide +kernel)) (by decide +kernel) (by decide +kernel) (fun m88 => ?_)
                    refine q_ic (v := 1) (mz_fe (e := (104, .iconst 1, 1, (0, 0, 0), [])) (by decide +kernel)) (by decide) ?_
                    exact q_retI (mz_fe (e := (105, .ireturn, 1, (0, 0, 0), [])) (by decide +kernel)) (by decide +kernel)
                  · refine q_bi (v := 13) (mz_fe (e := (91, .bipush 13, 2, (0, 0, 0), [])) (by decide +kernel)) (by decide) ?_
                    refine q_s (mz_fe (e := (93, .istore 4, 2, (0, 0, 0), [])) (by decide +kernel)) (pc' := 95) (L' := [some (.ref 239), some (.int x0), some (.int x1), some (.int x2), some (.int 13)]) (st' := []) rfl ?_
                    refine q_o (mz_fe (e := (95, .aload_n 0, 1, (0, 0, 0), [])) (by decide +kernel)) (pc2 := 96) rfl ?_
                    refine q_o (mz_fe (e := (96, .iload 4, 2, (0, 0, 0), [])) (by decide +kernel)) (pc2 := 98) rfl ?_
                    refine q_o (mz_fe (e := (98, .iload_n 1, 1, (0, 0, 0), [])) (by decide +kernel)) (pc2 := 99) rfl ?_
                    refine q_ic (v := 0) (mz_fe (e := (99, .iconst 0, 1, (0, 0, 0), [])) (by decide +kernel)) (by decide) ?_
                    refine q_o (mz_fe (e := (100, .lconst 0, 1, (0, 0, 0), [])) (by decide +kernel)) (pc2 := 101) (st2 := [.long 0, .int 0, .int x0, .int 13, .ref 239]) rfl ?_
                    refine q_callV (N := 182) (vs := [.ref 239, .int 13, .int x0, .int 0, .long 0]) (rest := []) (L' := [some (.ref 239), some (.int x0), some (.int x1), some (.int x2), some (.int 13)]) rfl (mz_fe (e := (101, .invokevirtual 188, 172, (182, 5, 18), [])) (by decide +kernel)) rfl (mz_inv_virt (N := 182) (k := 5) (t := 18) (st := [.long 0, .int 0, .int x0, .int 13, .ref 239]) (rest := []) (b := 239) (vs := [.int 13, .int x0, .int 0, .long 0]) (h := (mz_S0, m)) rfl rfl (Nat.le_of_ble_eq_true rfl) (Nat.le_of_ble_eq_true rfl) tg_239 (by decide)) (mz_dc_lt (n := 6) rfl (by decide +kernel) (by decide +kernel)) (by decide +kernel) (by decide +kernel) (fun m91 => ?_)
                    refine q_ic (v := 1) (mz_fe (e := (104, .iconst 1, 1, (0, 0, 0), [])) (by decide +kernel)) (by decide) ?_
                    exact q_retI (mz_fe (e := (105, .ireturn, 1, (0, 0, 0), [])) (by decide +kernel)) (by decide +kernel)
                · refine q_bi (v := 15) (mz_fe (e := (81, .bipush 15, 2, (0, 0, 0), [])) (by decide +kernel)) (by decide) ?_
                  refine q_s (mz_fe (e := (83, .istore 4, 2, (0, 0, 0), [])) (by decide +kernel)) (pc' := 85) (L' := [some (.ref 239), some (.int x0), some (.int x1), some (.int x2), some (.int 15)]) (st' := []) rfl ?_
                  refine q_o (mz_fe (e := (85, .iload_n 2, 1, (0, 0, 0), [])) (by decide +kernel)) (pc2 := 86) rfl ?_
                  refine q_bi (v := 60) (mz_fe (e := (86, .bipush 60, 2, (0, 0, 0), [])) (by decide +kernel)) (by decide) ?_
                  refine q_if (c := .ne) (off := 7) (t := 95) (x := x1) (y := 60) (st := []) (mz_fe (e := (88, .if_icmp .ne 7, 3, (0, 0, 0), [])) (by decide +kernel)) (fun _ => rfl) rfl rfl rfl (fun c94 => ?_) (fun c94 => ?_)
                  · refine q_o (mz_fe (e := (95, .aload_n 0, 1, (0, 0, 0), [])) (by decide +kernel)) (pc2 := 96) rfl ?_
                    refine q_o (mz_fe (e := (96, .iload 4, 2, (0, 0, 0), [])) (by decide +kernel)) (pc2 := 98) rfl ?_
                    refine q_o (mz_fe (e := (98, .iload_n 1, 1, (0, 0, 0), [])) (by decide +kernel)) (pc2 := 99) rfl ?_
                    refine q_ic (v := 0) (mz_fe (e := (99, .iconst 0, 1, (0, 0, 0), [])) (by decide +kernel)) (by decide) ?_
                    refine q_o (mz_fe (e := (100, .lconst 0, 1, (0, 0, 0), [])) (by decide +kernel)) (pc2 := 101) (st2 := [.long 0, .int 0, .int x0, .int 15, .ref 239]) rfl ?_
                    refine q_callV (N := 182) (vs := [.ref 239, .int 15, .int x0, .int 0, .long 0]) (rest := []) (L' := [some (.ref 239), some (.int x0), some (.int x1), some (.int x2), some (.int 15)]) rfl (mz_fe (e := (101, .invokevirtual 188, 172, (182, 5, 18), [])) (by decide +kernel)) rfl (mz_inv_virt (N := 182) (k := 5) (t := 18) (st := [.long 0, .int 0, .int x0, .int 15, .ref 239]) (rest := []) (b := 239) (vs := [.int 15, .int x0, .int 0, .long 0]) (h := (mz_S0, m)) rfl rfl (Nat.le_of_ble_eq_true rfl) (Nat.le_of_ble_eq_true rfl) tg_239 (by decide)) (mz_dc_lt (n := 6) rfl (by decide +kernel) (by decide +kernel)) (by decide +kernel) (by decide +kernel) (fun m95 => ?_)
                    refine q_ic (v := 1) (mz_fe (e := (104, .iconst 1, 1, (0, 0, 0), [])) (by decide +kernel)) (by decide) ?_
                    exact q_retI (mz_fe (e := (105, .ireturn, 1, (0, 0, 0), [])) (by decide +kernel)) (by decide +kernel)
                  · refine q_bi (v := 13) (mz_fe (e := (91, .bipush 13, 2, (0, 0, 0), [])) (by decide +kernel)) (by decide) ?_
                    refine q_s (mz_fe (e := (93, .istore 4, 2, (0, 0, 0), [])) (by decide +kernel)) (pc' := 95) (L' := [some (.ref 239), some (.int x0), some (.int x1), some (.int x2), some (.int 13)]) (st' := []) rfl ?_
                    refine q_o (mz_fe (e := (95, .aload_n 0, 1, (0, 0, 0), [])) (by decide +kernel)) (pc2 := 96) rfl ?_
                    refine q_o (mz_fe (e := (96, .iload 4, 2, (0, 0, 0), [])) (by decide +kernel)) (pc2 := 98) rfl ?_
                    refine q_o (mz_fe (e := (98, .iload_n 1, 1, (0, 0, 0), [])) (by decide +kernel)) (pc2 := 99) rfl ?_
                    refine q_ic (v := 0) (mz_fe (e := (99, .iconst 0, 1, (0, 0, 0), [])) (by decide +kernel)) (by decide) ?_
                    refine q_o (mz_fe (e := (100, .lconst 0, 1, (0, 0, 0), [])) (by decide +kernel)) (pc2 := 101) (st2 := [.long 0, .int 0, .int x0, .int 13, .ref 239]) rfl ?_
                    refine q_callV (N := 182) (vs := [.ref 239, .int 13, .int x0, .int 0, .long 0]) (rest := []) (L' := [some (.ref 239), some (.int x0), some (.int x1), some (.int x2), some (.int 13)]) rfl (mz_fe (e := (101, .invokevirtual 188, 172, (182, 5, 18), [])) (by decide +kernel)) rfl (mz_inv_virt (N := 182) (k := 5) (t := 18) (st := [.long 0, .int 0, .int x0, .int 13, .ref 239]) (rest := []) (b := 239) (vs := [.int 13, .int x0, .int 0, .long 0]) (h := (mz_S0, m)) rfl rfl (Nat.le_of_ble_eq_true rfl) (Nat.le_of_ble_eq_true rfl) tg_239 (by decide)) (mz_dc_lt (n := 6) rfl (by decide +kernel) (by decide +kernel)) (by decide +kernel) (by decide +kernel) (fun m98 => ?_)
                    refine q_ic (v := 1) (mz_fe (e := (104, .iconst 1, 1, (0, 0, 0), [])) (by decide +kernel)) (by decide) ?_
                    exact q_retI (mz_fe (e := (105, .ireturn, 1, (0, 0, 0), [])) (by decide +kernel)) (by decide +kernel)
            · refine q_bi (v := 9) (mz_fe (e := (61, .bipush 9, 2, (0, 0, 0), [])) (by decide +kernel)) (by decide) ?_
              refine q_s (mz_fe (e := (63, .istore 4, 2, (0, 0, 0), [])) (by decide +kernel)) (pc' := 65) (L' := [some (.ref 239), some (.int x0), some (.int x1), some (.int x2), some (.int 9)]) (st' := []) rfl ?_
              refine q_o (mz_fe (e := (65, .iload_n 2, 1, (0, 0, 0), [])) (by decide +kernel)) (pc2 := 66) rfl ?_
              refine q_bi (v := 42) (mz_fe (e := (66, .bipush 42, 2, (0, 0, 0), [])) (by decide +kernel)) (by decide) ?_
              refine q_if (c := .ne) (off := 7) (t := 75) (x := x1) (y := 42) (st := []) (mz_fe (e := (68, .if_icmp .ne 7, 3, (0, 0, 0), [])) (by decide +kernel)) (fun _ => rfl) rfl rfl rfl (fun c101 => ?_) (fun c101 => ?_)
              · refine q_o (mz_fe (e := (75, .iload_n 2, 1, (0, 0, 0), [])) (by decide +kernel)) (pc2 := 76) rfl ?_
                refine q_bi (v := 47) (mz_fe (e := (76, .bipush 47, 2, (0, 0, 0), [])) (by decide +kernel)) (by decide) ?_
                refine q_if (c := .ne) (off := 7) (t := 85) (x := x1) (y := 47) (st := []) (mz_fe (e := (78, .if_icmp .ne 7, 3, (0, 0, 0), [])) (by decide +kernel)) (fun _ => rfl) rfl rfl rfl (fun c102 => ?_) (fun c102 => ?_)
                · refine q_o (mz_fe (e := (85, .iload_n 2, 1, (0, 0, 0), [])) (by decide +kernel)) (pc2 := 86) rfl ?_
                  refine q_bi (v := 60) (mz_fe (e := (86, .bipush 60, 2, (0, 0, 0), [])) (by decide +kernel)) (by decide) ?_
                  refine q_if (c := .ne) (off := 7) (t := 95) (x := x1) (y := 60) (st := []) (mz_fe (e := (88, .if_icmp .ne 7, 3, (0, 0, 0), [])) (by decide +kernel)) (fun _ => rfl) rfl rfl rfl (fun c103 => ?_) (fun c103 => ?_)
                  · refine q_o (mz_fe (e := (95, .aload_n 0, 1, (0, 0, 0), [])) (by decide +kernel)) (pc2 := 96) rfl ?_
                    refine q_o (mz_fe (e := (96, .iload 4, 2, (0, 0, 0), [])) (by decide +kernel)) (pc2 := 98) rfl ?_
                    refine q_o (mz_fe (e := (98, .iload_n 1, 1, (0, 0, 0), [])) (by decide +kernel)) (pc2 := 99) rfl ?_
                    refine q_ic (v := 0) (mz_fe (e := (99, .iconst 0, 1, (0, 0, 0), [])) (by decide +kernel)) (by decide) ?_
                    refine q_o (mz_fe (e := (100, .lconst 0, 1, (0, 0, 0), [])) (by decide +kernel)) (pc2 := 101) (st2 := [.long 0, .int 0, .int x0, .int 9, .ref 239]) rfl ?_
                    refine q_callV (N := 182) (vs := [.ref 239, .int 9, .int x0, .int 0, .long 0]) (rest := []) (L' := [some (.ref 239), some (.int x0), some (.int x1), some (.int x2), some (.int 9)]) rfl (mz_fe (e := (101, .invokevirtual 188, 172, (182, 5, 18), [])) (by decide +kernel)) rfl (mz_inv_virt (N := 182) (k := 5) (t := 18) (st := [.long 0, .int 0, .int x0, .int 9, .ref 239]) (rest := []) (b := 239) (vs := [.int 9, .int x0, .int 0, .long 0]) (h := (mz_S0, m)) rfl rfl (Nat.le_of_ble_eq_true rfl) (Nat.le_of_ble_eq_true rfl) tg_239 (by decide)) (mz_dc_lt (n := 6) rfl (by decide +kernel) (by decide +kernel)) (by decide +kernel) (by decide +kernel) (fun m104 => ?_)
                    refine q_ic (v := 1) (mz_fe (e := (104, .iconst 1, 1, (0, 0, 0), [])) (by decide +kernel)) (by decide) ?_
                    exact q_retI (mz_fe (e := (105, .ireturn, 1, (0, 0, 0), [])) (by decide +kernel)) (by decide +kernel)
                  · refine q_bi (v := 13) (mz_fe (e := (91, .bipush 13, 2, (0, 0, 0), [])) (by decide +kernel)) (by decide) ?_
                    refine q_s (mz_fe (e := (93, .istore 4, 2, (0, 0, 0), [])) (by decide +kernel)) (pc' := 95) (L' := [some (.ref 239), some (.int x0), some (.int x1), some (.int x2), some (.int 13)]) (st' := []) rfl ?_
                    refine q_o (mz_fe (e := (95, .aload_n 0, 1, (0, 0, 0), [])) (by decide +kernel)) (pc2 := 96) rfl ?_
                    refine q_o (mz_fe (e := (96, .iload 4, 2, (0, 0, 0), [])) (by decide +kernel)) (pc2 := 98) rfl ?_
                    refine q_o (mz_fe (e := (98, .iload_n 1, 1, (0, 0, 0), [])) (by decide +kernel)) (pc2 := 99) rfl ?_
                    refine q_ic (v := 0) (mz_fe (e := (99, .iconst 0, 1, (0, 0, 0), [])) (by decide +kernel)) (by decide) ?_
                    refine q_o (mz_fe (e := (100, .lconst 0, 1, (0, 0, 0), [])) (by decide +kernel)) (pc2 := 101) (st2 := [.long 0, .int 0, .int x0, .int 13, .ref 239]) rfl ?_
                    refine q_callV (N := 182) (vs := [.ref 239, .int 13, .int x0, .int 0, .long 0]) (rest := []) (L' := [some (.ref 239), some (.int x0), some (.int x1), some (.int x2), some (.int 13)]) rfl (mz_fe (e := (101, .invokevirtual 188, 172, (182, 5, 18), [])) (by decide +kernel)) rfl (mz_inv_virt (N := 182) (k := 5) (t := 18) (st := [.long 0, .int 0, .int x0, .int 13, .ref 239]) (rest := []) (b := 239) (vs := [.int 13, .int x0, .int 0, .long 0]) (h := (mz_S0, m)) rfl rfl (Nat.le_of_ble_eq_true rfl) (Nat.le_of_ble_eq_true rfl) tg_239 (by decide)) (mz_dc_lt (n := 6) rfl (by decide +kernel) (by decide +kernel)) (by decide +kernel) (by decide +kernel) (fun m107 => ?_)
                    refine q_ic (v := 1) (mz_fe (e := (104, .iconst 1, 1, (0, 0, 0), [])) (by decide +kernel)) (by decide) ?_
                    exact q_retI (mz_fe (e := (105, .ireturn, 1, (0, 0, 0), [])) (by decide +kernel)) (by decide +kernel)
                · refine q_bi (v := 15) (mz_fe (e := (81, .bipush 15, 2, (0, 0, 0), [])) (by decide +kernel)) (by decide) ?_
                  refine q_s (mz_fe (e := (83, .istore 4, 2, (0, 0, 0), [])) (by decide +kernel)) (pc' := 85) (L' := [some (.ref 239), some (.int x0), some (.int x1), some (.int x2), some (.int 15)]) (st' := []) rfl ?_
                  refine q_o (mz_fe (e := (85, .iload_n 2, 1, (0, 0, 0), [])) (by decide +kernel)) (pc2 := 86) rfl ?_
                  refine q_bi (v := 60) (mz_fe (e := (86, .bipush 60, 2, (0, 0, 0), [])) (by decide +kernel)) (by decide) ?_
                  refine q_if (c := .ne) (off := 7) (t := 95) (x := x1) (y := 60) (st := []) (mz_fe (e := (88, .if_icmp .ne 7, 3, (0, 0, 0), [])) (by decide +kernel)) (fun _ => rfl) rfl rfl rfl (fun c110 => ?_) (fun c110 => ?_)
                  · refine q_o (mz_fe (e := (95, .aload_n 0, 1, (0, 0, 0), [])) (by decide +kernel)) (pc2 := 96) rfl ?_
                    refine q_o (mz_fe (e := (96, .iload 4, 2, (0, 0, 0), [])) (by decide +kernel)) (pc2 := 98) rfl ?_
                    refine q_o (mz_fe (e := (98, .iload_n 1, 1, (0, 0, 0), [])) (by decide +kernel)) (pc2 := 99) rfl ?_
                    refine q_ic (v := 0) (mz_fe (e := (99, .iconst 0, 1, (0, 0, 0), [])) (by decide +kernel)) (by decide) ?_
                    refine q_o (mz_fe (e := (100, .lconst 0, 1, (0, 0, 0), [])) (by decide +kernel)) (pc2 := 101) (st2 := [.long 0, .int 0, .int x0, .int 15, .ref 239]) rfl ?_
                    refine q_callV (N := 182) (vs := [.ref 239, .int 15, .int x0, .int 0, .long 0]) (rest := []) (L' := [some (.ref 239), some (.int x0), some (.int x1), some (.int x2), some (.int 15)]) rfl (mz_fe (e := (101, .invokevirtual 188, 172, (182, 5, 18), [])) (by decide +kernel)) rfl (mz_inv_virt (N := 182) (k := 5) (t := 18) (st := [.long 0, .int 0, .int x0, .int 15, .ref 239]) (rest := []) (b := 239) (vs := [.int 15, .int x0, .int 0, .long 0]) (h := (mz_S0, m)) rfl rfl (Nat.le_of_ble_eq_true rfl) (Nat.le_of_ble_eq_true rfl) tg_239 (by decide)) (mz_dc_lt (n := 6) rfl (by decide +kernel) (by decide +kernel)) (by decide +kernel) (by decide +kernel) (fun m111 => ?_)
                    refine q_ic (v := 1) (mz_fe (e := (104, .iconst 1, 1, (0, 0, 0), [])) (by decide +kernel)) (by decide) ?_
                    exact q_retI (mz_fe (e := (105, .ireturn, 1, (0, 0, 0), [])) (by decide +kernel)) (by decide +kernel)
                  · refine q_bi (v := 13) (mz_fe (e := (91, .bipush 13, 2, (0, 0, 0), [])) (by decide +kernel)) (by decide) ?_
                    refine q_s (mz_fe (e := (93, .istore 4, 2, (0, 0, 0), [])) (by decide +kernel)) (pc' := 95) (L' := [some (.ref 239), some (.int x0), some (.int x1), some (.int x2), some (.int 13)]) (st' := []) rfl ?_
                    refine q_o (mz_fe (e := (95, .aload_n 0, 1, (0, 0, 0), [])) (by decide +kernel)) (pc2 := 96) rfl ?_
                    refine q_o (mz_fe (e := (96, .iload 4, 2, (0, 0, 0), [])) (by decide +kernel)) (pc2 := 98) rfl ?_
                    refine q_o (mz_fe (e := (98, .iload_n 1, 1, (0, 0, 0), [])) (by decide +kernel)) (pc2 := 99) rfl ?_
                    refine q_ic (v := 0) (mz_fe (e := (99, .iconst 0, 1, (0, 0, 0), [])) (by decide +kernel)) (by decide) ?_
                    refine q_o (mz_fe (e := (100, .lconst 0, 1, (0, 0, 0), [])) (by decide +kernel)) (pc2 := 101) (st2 := [.long 0, .int 0, .int x0, .int 13, .ref 239]) rfl ?_
                    refine q_callV (N := 182) (vs := [.ref 239, .int 13, .int x0, .int 0, .long 0]) (rest := []) (L' := [some (.ref 239), some (.int x0), some (.int x1), some (.int x2), some (.int 13)]) rfl (mz_fe (e := (101, .invokevirtual 188, 172, (182, 5, 18), [])) (by decide +kernel)) rfl (mz_inv_virt (N := 182) (k := 5) (t := 18) (st := [.long 0, .int 0, .int x0, .int 13, .ref 239]) (rest := []) (b := 239) (vs := [.int 13, .int x0, .int 0, .long 0]) (h := (mz_S0, m)) rfl rfl (Nat.le_of_ble_eq_true rfl) (Nat.le_of_ble_eq_true rfl) tg_239 (by decide)) (mz_dc_lt (n := 6) rfl (by decide +kernel) (by decide +kernel)) (by decide +kernel) (by decide +kernel) (fun m114 => ?_)
                    refine q_ic (v := 1) (mz_fe (e := (104, .iconst 1, 1, (0, 0, 0), [])) (by decide +kernel)) (by decide) ?_
                    exact q_retI (mz_fe (e := (105, .ireturn, 1, (0, 0, 0), [])) (by decide +kernel)) (by decide +kernel)
              · refine q_bi (v := 10) (mz_fe (e := (71, .bipush 10, 2, (0, 0, 0), [])) (by decide +kernel)) (by decide) ?_
                refine q_s (mz_fe (e := (73, .istore 4, 2, (0, 0, 0), [])) (by decide +kernel)) (pc' := 75) (L' := [some (.ref 239), some (.int x0), some (.int x1), some (.int x2), some (.int 10)]) (st' := []) rfl ?_
                refine q_o (mz_fe (e := (75, .iload_n 2, 1, (0, 0, 0), [])) (by decide +kernel)) (pc2 := 76) rfl ?_
                refine q_bi (v := 47) (mz_fe (e := (76, .bipush 47, 2, (0, 0, 0), [])) (by decide +kernel)) (by decide) ?_
                refine q_if (c := .ne) (off := 7) (t := 85) (x := x1) (y := 47) (st := []) (mz_fe (e := (78, .if_icmp .ne 7, 3, (0, 0, 0), [])) (by decide +kernel)) (fun _ => rfl) rfl rfl rfl (fun c117 => ?_) (fun c117 => ?_)
                · refine q_o (mz_fe (e := (85, .iload_n 2, 1, (0, 0, 0), [])) (by decide +kernel)) (pc2 := 86) rfl ?_
                  refine q_bi (v := 60) (mz_fe (e := (86, .bipush 60, 2, (0, 0, 0), [])) (by decide +kernel)) (by decide) ?_
                  refine q_if (c := .ne) (off := 7) (t := 95) (x := x1) (y := 60) (st := []) (mz_fe (e := (88, .if_icmp .ne 7, 3, (0, 0, 0), [])) (by decide +kernel)) (fun _ => rfl) rfl rfl rfl (fun c118 => ?_) (fun c118 => ?_)
                  · refine q_o (mz_fe (e := (95, .aload_n 0, 1, (0, 0, 0), [])) (by decide +kernel)) (pc2 := 96) rfl ?_
                    refine q_o (mz_fe (e := (96, .iload 4, 2, (0, 0, 0), [])) (by decide +kernel)) (pc2 := 98) rfl ?_
                    refine q_o (mz_fe (e := (98, .iload_n 1, 1, (0, 0, 0), [])) (by decide +kernel)) (pc2 := 99) rfl ?_
                    refine q_ic (v := 0) (mz_fe (e := (99, .iconst 0, 1, (0, 0, 0), [])) (by decide +kernel)) (by decide) ?_
                    refine q_o (mz_fe (e := (100, .lconst 0, 1, (0, 0, 0), [])) (by decide +kernel)) (pc2 := 101) (st2 := [.long 0, .int 0, .int x0, .int 10, .ref 239]) rfl ?_
                    refine q_callV (N := 182) (vs := [.ref 239, .int 10, .int x0, .int 0, .long 0]) (rest := []) (L' := [some (.ref 239), some (.int x0), some (.int x1), some (.int x2), some (.int 10)]) rfl (mz_fe (e := (101, .invokevirtual 188, 172, (182, 5, 18), [])) (by decide +kernel)) rfl (mz_inv_virt (N := 182) (k := 5) (t := 18) (st := [.long 0, .int 0, .int x0, .int 10, .ref 239]) (rest := []) (b := 239) (vs := [.int 10, .int x0, .int 0, .long 0]) (h := (mz_S0, m)) rfl rfl (Nat.le_of_ble_eq_true rfl) (Nat.le_of_ble_eq_true rfl) tg_239 (by decide)) (mz_dc_lt (n := 6) rfl (by decide +kernel) (by decide +kernel)) (by decide +kernel) (by decide +kernel) (fun m119 => ?_)
                    refine q_ic (v := 1) (mz_fe (e := (104, .iconst 1, 1, (0, 0, 0), [])) (by decide +kernel)) (by decide) ?_
                    exact q_retI (mz_fe (e := (105, .ireturn, 1, (0, 0, 0), [])) (by decide +kernel)) (by decide +kernel)
                  · refine q_bi (v := 13) (mz_fe (e := (91, .bipush 13, 2, (0, 0, 0), [])) (by decide +kernel)) (by decide) ?_
                    refine q_s (mz_fe (e := (93, .istore 4, 2, (0, 0, 0), [])) (by decide +kernel)) (pc' := 95) (L' := [some (.ref 239), some (.int x0), some (.int x1), some (.int x2), some (.int 13)]) (st' := []) rfl ?_
                    refine q_o (mz_fe (e := (95, .aload_n 0, 1, (0, 0, 0), [])) (by decide +kernel)) (pc2 := 96) rfl ?_
                    refine q_o (mz_fe (e := (96, .iload 4, 2, (0, 0, 0), [])) (by decide +kernel)) (pc2 := 98) rfl ?_
                    refine q_o (mz_fe (e := (98, .iload_n 1, 1, (0, 0, 0), [])) (by decide +kernel)) (pc2 := 99) rfl ?_
                    refine q_ic (v := 0) (mz_fe (e := (99, .iconst 0, 1, (0, 0, 0), [])) (by decide +kernel)) (by decide) ?_
                    refine q_o (mz_fe (e := (100, .lconst 0, 1, (0, 0, 0), [])) (by decide +kernel)) (pc2 := 101) (st2 := [.long 0, .int 0, .int x0, .int 13, .ref 239]) rfl ?_
                    refine q_callV (N := 182) (vs := [.ref 239, .int 13, .int x0, .int 0, .long 0]) (rest := []) (L' := [some (.ref 239), some (.int x0), some (.int x1), some (.int x2), some (.int 13)]) rfl (mz_fe (e := (101, .invokevirtual 188, 172, (182, 5, 18), [])) (by decide +kernel)) rfl (mz_inv_virt (N := 182) (k := 5) (t := 18) (st := [.long 0, .int 0, .int x0, .int 13, .ref 239]) (rest := []) (b := 239) (vs := [.int 13, .int x0, .int 0, .long 0]) (h := (mz_S0, m)) rfl rfl (Nat.le_of_ble_eq_true rfl) (Nat.le_of_ble_eq_true rfl) tg_239 (by decide)) (mz_dc_lt (n := 6) rfl (by decide +kernel) (by decide +kernel)) (by decide +kernel) (by decide +kernel) (fun m122 => ?_)
                    refine q_ic (v := 1) (mz_fe (e := (104, .iconst 1, 1, (0, 0, 0), [])) (by decide +kernel)) (by decide) ?_
                    exact q_retI (mz_fe (e := (105, .ireturn, 1, (0, 0, 0), [])) (by decide +kernel)) (by decide +kernel)
                · refine q_bi (v := 15) (mz_fe (e := (81, .bipush 15, 2, (0, 0, 0), [])) (by decide +kernel)) (by decide) ?_
                  refine q_s (mz_fe (e := (83, .istore 4, 2, (0, 0, 0), [])) (by decide +kernel)) (pc' := 85) (L' := [some (.ref 239), some (.int x0), some (.int x1), some (.int x2), some (.int 15)]) (st' := []) rfl ?_
                  refine q_o (mz_fe (e := (85, .iload_n 2, 1, (0, 0, 0), [])) (by decide +kernel)) (pc2 := 86) rfl ?_
                  refine q_bi (v := 60) (mz_fe (e := (86, .bipush 60, 2, (0, 0, 0), [])) (by decide +kernel)) (by decide) ?_
                  refine q_if (c := .ne) (off := 7) (t := 95) (x := x1) (y := 60) (st := []) (mz_fe (e := (88, .if_icmp .ne 7, 3, (0, 0, 0), [])) (by decide +kernel)) (fun _ => rfl) rfl rfl rfl (fun c125 => ?_) (fun c125 => ?_)
                  · refine q_o (mz_fe (e := (95, .aload_n 0, 1, (0, 0, 0), [])) (by decide +kernel)) (pc2 := 96) rfl ?_
                    refine q_o (mz_fe (e := (96, .iload 4, 2, (0, 0, 0), [])) (by decide +kernel)) (pc2 := 98) rfl ?_
                    refine q_o (mz_fe (e := (98, .iload_n 1, 1, (0, 0, 0), [])) (by decide +kernel)) (pc2 := 99) rfl ?_
                    refine q_ic (v := 0) (mz_fe (e := (99, .iconst 0, 1, (0, 0, 0), [])) (by decide +kernel)) (by decide) ?_
                    refine q_o (mz_fe (e := (100, .lconst 0, 1, (0, 0, 0), [])) (by decide +kernel)) (pc2 := 101) (st2 := [.long 0, .int 0, .int x0, .int 15, .ref 239]) rfl ?_
                    refine q_callV (N := 182) (vs := [.ref 239, .int 15, .int x0, .int 0, .long 0]) (rest := []) (L' := [some (.ref 239), some (.int x0), some (.int x1), some (.int x2), some (.int 15)]) rfl (mz_fe (e := (101, .invokevirtual 188, 172, (182, 5, 18), [])) (by decide +kernel)) rfl (mz_inv_virt (N := 182) (k := 5) (t := 18) (st := [.long 0, .int 0, .int x0, .int 15, .ref 239]) (rest := []) (b := 239) (vs := [.int 15, .int x0, .int 0, .long 0]) (h := (mz_S0, m)) rfl rfl (Nat.le_of_ble_eq_true rfl) (Nat.le_of_ble_eq_true rfl) tg_239 (by decide)) (mz_dc_lt (n := 6) rfl (by decide +kernel) (by decide +kernel)) (by decide +kernel) (by decide +kernel) (fun m126 => ?_)
                    refine q_ic (v := 1) (mz_fe (e := (104, .iconst 1, 1, (0, 0, 0), [])) (by decide +kernel)) (by decide) ?_
                    exact q_retI (mz_fe (e := (105, .ireturn, 1, (0, 0, 0), [])) (by decide +kernel)) (by decide +kernel)
                  · refine q_bi (v := 13) (mz_fe (e := (91, .bipush 13, 2, (0, 0, 0), [])) (by decide +kernel)) (by decide) ?_
                    refine q_s (mz_fe (e := (93, .istore 4, 2, (0, 0, 0), [])) (by decide +kernel)) (pc' := 95) (L' := [some (.ref 239), some (.int x0), some (.int x1), some (.int x2), some (.int 13)]) (st' := []) rfl ?_
                    refine q_o (mz_fe (e := (95, .aload_n 0, 1, (0, 0, 0), [])) (by decide +kernel)) (pc2 := 96) rfl ?_
                    refine q_o (mz_fe (e := (96, .iload 4, 2, (0, 0, 0), [])) (by decide +kernel)) (pc2 := 98) rfl ?_
                    refine q_o (mz_fe (e := (98, .iload_n 1, 1, (0, 0, 0), [])) (by decide +kernel)) (pc2 := 99) rfl ?_
                    refine q_ic (v := 0) (mz_fe (e := (99, .iconst 0, 1, (0, 0, 0), [])) (by decide +kernel)) (by decide) ?_
                    refine q_o (mz_fe (e := (100, .lconst 0, 1, (0, 0, 0), [])) (by decide +kernel)) (pc2 := 101) (st2 := [.long 0, .int 0, .int x0, .int 13, .ref 239]) rfl ?_
                    refine q_callV (N := 182) (vs := [.ref 239, .int 13, .int x0, .int 0, .long 0]) (rest := []) (L' := [some (.ref 239), some (.int x0), some (.int x1), some (.int x2), some (.int 13)]) rfl (mz_fe (e := (101, .invokevirtual 188, 172, (182, 5, 18), [])) (by decide +kernel)) rfl (mz_inv_virt (N := 182) (k := 5) (t := 18) (st := [.long 0, .int 0, .int x0, .int 13, .ref 239]) (rest := []) (b := 239) (vs := [.int 13, .int x0, .int 0, .long 0]) (h := (mz_S0, m)) rfl rfl (Nat.le_of_ble_eq_true rfl) (Nat.le_of_ble_eq_true rfl) tg_239 (by decide)) (mz_dc_lt (n := 6) rfl (by decide +kernel) (by decide +kernel)) (by decide +kernel) (by decide +kernel) (fun m129 => ?_)
                    refine q_ic (v := 1) (mz_fe (e := (104, .iconst 1, 1, (0, 0, 0), [])) (by decide +kernel)) (by decide) ?_
                    exact q_retI (mz_fe (e := (105, .ireturn, 1, (0, 0, 0), [])) (by decide +kernel)) (by decide +kernel)
        · refine q_bi (v := 7) (mz_fe (e := (37, .bipush 7, 2, (0, 0, 0), [])) (by decide +kernel)) (by decide) ?_
          refine q_o (mz_fe (e := (39, .goto 4, 3, (0, 0, 0), [])) (by decide +kernel)) (pc2 := 43) rfl ?_
          refine q_s (mz_fe (e := (43, .istore 4, 2, (0, 0, 0), [])) (by decide +kernel)) (pc' := 45) (L' := [some (.ref 239), some (.int x0), some (.int x1), some (.int x2), some (.int 7)]) (st' := []) rfl ?_
          refine q_o (mz_fe (e := (45, .iload_n 2, 1, (0, 0, 0), [])) (by decide +kernel)) (pc2 := 46) rfl ?_
          refine q_bi (v := 43) (mz_fe (e := (46, .bipush 43, 2, (0, 0, 0), [])) (by decide +kernel)) (by decide) ?_
          refine q_if (c := .ne) (off := 7) (t := 55) (x := x1) (y := 43) (st := []) (mz_fe (e := (48, .if_icmp .ne 7, 3, (0, 0, 0), [])) (by decide +kernel)) (fun _ => rfl) rfl rfl rfl (fun c132 => ?_) (fun c132 => ?_)
          · refine q_o (mz_fe (e := (55, .iload_n 2, 1, (0, 0, 0), [])) (by decide +kernel)) (pc2 := 56) rfl ?_
            refine q_bi (v := 45) (mz_fe (e := (56, .bipush 45, 2, (0, 0, 0), [])) (by decide +kernel)) (by decide) ?_
            refine q_if (c := .ne) (off := 7) (t := 65) (x := x1) (y := 45) (st := []) (mz_fe (e := (58, .if_icmp .ne 7, 3, (0, 0, 0), [])) (by decide +kernel)) (fun _ => rfl) rfl rfl rfl (fun c133 => ?_) (fun c133 => ?_)
            · refine q_o (mz_fe (e := (65, .iload_n 2, 1, (0, 0, 0), [])) (by decide +kernel)) (pc2 := 66) rfl ?_
              refine q_bi (v := 42) (mz_fe (e := (66, .bipush 42, 2, (0, 0, 0), [])) (by decide +kernel)) (by decide) ?_
              refine q_if (c := .ne) (off := 7) (t := 75) (x := x1) (y := 42) (st := []) (mz_fe (e := (68, .if_icmp .ne 7, 3, (0, 0, 0), [])) (by decide +kernel)) (fun _ => rfl) rfl rfl rfl (fun c134 => ?_) (fun c134 => ?_)
              · refine q_o (mz_fe (e := (75, .iload_n 2, 1, (0, 0, 0), [])) (by decide +kernel)) (pc2 := 76) rfl ?_
                refine q_bi (v := 47) (mz_fe (e := (76, .bipush 47, 2, (0, 0, 0), [])) (by decide +kernel)) (by decide) ?_
                refine q_if (c := .ne) (off := 7) (t := 85) (x := x1) (y := 47) (st := []) (mz_fe (e := (78, .if_icmp .ne 7, 3, (0, 0, 0), [])) (by decide +kernel)) (fun _ => rfl) rfl rfl rfl (fun c135 => ?_) (fun c135 => ?_)
                · refine q_o (mz_fe (e := (85, .iload_n 2, 1, (0, 0, 0), [])) (by decide +kernel)) (pc2 := 86) rfl ?_
                  refine q_bi (v := 60) (mz_fe (e := (86, .bipush 60, 2, (0, 0, 0), [])) (by decide +kernel)) (by decide) ?_
                  refine q_if (c := .ne) (off := 7) (t := 95) (x := x1) (y := 60) (st := []) (mz_fe (e := (88, .if_icmp .ne 7, 3, (0, 0, 0), [])) (by decide +kernel)) (fun _ => rfl) rfl rfl rfl (fun c136 => ?_) (fun c136 => ?_)
                  · refine q_o (mz_fe (e := (95, .aload_n 0, 1, (0, 0, 0), [])) (by decide +kernel)) (pc2 := 96) rfl ?_
                    refine q_o (mz_fe (e := (96, .iload 4, 2, (0, 0, 0), [])) (by decide +kernel)) (pc2 := 98) rfl ?_
                    refine q_o (mz_fe (e := (98, .iload_n 1, 1, (0, 0, 0), [])) (by decide +kernel)) (pc2 := 99) rfl ?_
                    refine q_ic (v := 0) (mz_fe (e := (99, .iconst 0, 1, (0, 0, 0), [])) (by decide +kernel)) (by decide) ?_
                    refine q_o (mz_fe (e := (100, .lconst 0, 1, (0, 0, 0), [])) (by decide +kernel)) (pc2 := 101) (st2 := [.long 0, .int 0, .int x0, .int 7, .ref 239]) rfl ?_
                    refine q_callV (N := 182) (vs := [.ref 239, .int 7, .int x0, .int 0, .long 0]) (rest := []) (L' := [some (.ref 239), some (.int x0), some (.int x1), some (.int x2), some (.int 7)]) rfl (mz_fe (e := (101, .invokevirtual 188, 172, (182, 5, 18), [])) (by decide +kernel)) rfl (mz_inv_virt (N := 182) (k := 5) (t := 18) (st := [.long 0, .int 0, .int x0, .int 7, .ref 239]) (rest := []) (b := 239) (vs := [.int 7, .int x0, .int 0, .long 0]) (h := (mz_S0, m)) rfl rfl (Nat.le_of_ble_eq_true rfl) (Nat.le_of_ble_eq_true rfl) tg_239 (by decide)) (mz_dc_lt (n := 6) rfl (by decide +kernel) (by decide +kernel)) (by decide +kernel) (by decide +kernel) (fun m137 => ?_)
                    refine q_ic (v := 1) (mz_fe (e := (104, .iconst 1, 1, (0, 0, 0), [])) (by decide +kernel)) (by decide) ?_
                    exact q_retI (mz_fe (e := (105, .ireturn, 1, (0, 0, 0), [])) (by decide +kernel)) (by decide +kernel)
                  · refine q_bi (v := 13) (mz_fe (e := (91, .bipush 13, 2, (0, 0, 0), [])) (by decide +kernel)) (by decide) ?_
                    refine q_s (mz_fe (e := (93, .istore 4, 2, (0, 0, 0), [])) (by decide +kernel)) (pc' := 95) (L' := [some (.ref 239), some (.int x0), some (.int x1), some (.int x2), some (.int 13)]) (st' := []) rfl ?_
                    refine q_o (mz_fe (e := (95, .aload_n 0, 1, (0, 0, 0), [])) (by decide +kernel)) (pc2 := 96) rfl ?_
                    refine q_o (mz_fe (e := (96, .iload 4, 2, (0, 0, 0), [])) (by decide +kernel)) (pc2 := 98) rfl ?_
                    refine q_o (mz_fe (e := (98, .iload_n 1, 1, (0, 0, 0), [])) (by decide +kernel)) (pc2 := 99) rfl ?_
                    refine q_ic (v := 0) (mz_fe (e := (99, .iconst 0, 1, (0, 0, 0), [])) (by decide +kernel)) (by decide) ?_
                    refine q_o (mz_fe (e := (100, .lconst 0, 1, (0, 0, 0), [])) (by decide +kernel)) (pc2 := 101) (st2 := [.long 0, .int 0, .int x0, .int 13, .ref 239]) rfl ?_
                    refine q_callV (N := 182) (vs := [.ref 239, .int 13, .int x0, .int 0, .long 0]) (rest := []) (L' := [some (.ref 239), some (.int x0), some (.int x1), some (.int x2), some (.int 13)]) rfl (mz_fe (e := (101, .invokevirtual 188, 172, (182, 5, 18), [])) (by decide +kernel)) rfl (mz_inv_virt (N := 182) (k := 5) (t := 18) (st := [.long 0, .int 0, .int x0, .int 13, .ref 239]) (rest := []) (b := 239) (vs := [.int 13, .int x0, .int 0, .long 0]) (h := (mz_S0, m)) rfl rfl (Nat.le_of_ble_eq_true rfl) (Nat.le_of_ble_eq_true rfl) tg_239 (by decide)) (mz_dc_lt (n := 6) rfl (by decide +kernel) (by decide +kernel)) (by decide +kernel) (by decide +kernel) (fun m140 => ?_)
                    refine q_ic (v := 1) (mz_fe (e := (104, .iconst 1, 1, (0, 0, 0), [])) (by decide +kernel)) (by decide) ?_
                    exact q_retI (mz_fe (e := (105, .ireturn, 1, (0, 0, 0), [])) (by decide +kernel)) (by decide +kernel)
                · refine q_bi (v := 15) (mz_fe (e := (81, .bipush 15, 2, (0, 0, 0), [])) (by decide +kernel)) (by decide) ?_
                  refine q_s (mz_fe (e := (83, .istore 4, 2, (0, 0, 0), [])) (by decide +kernel)) (pc' := 85) (L' := [some (.ref 239), some (.int x0), some (.int x1), some (.int x2), some (.int 15)]) (st' := []) rfl ?_
                  refine q_o (mz_fe (e := (85, .iload_n 2, 1, (0, 0, 0), [])) (by decide +kernel)) (pc2 := 86) rfl ?_
                  refine q_bi (v := 60) (mz_fe (e := (86, .bipush 60, 2, (0, 0, 0), [])) (by decide +kernel)) (by decide) ?_
                  refine q_if (c := .ne) (off := 7) (t := 95) (x := x1) (y := 60) (st := []) (mz_fe (e := (88, .if_icmp .ne 7, 3, (0, 0, 0), [])) (by decide +kernel)) (fun _ => rfl) rfl rfl rfl (fun c143 => ?_) (fun c143 => ?_)
                  · refine q_o (mz_fe (e := (95, .aload_n 0, 1, (0, 0, 0), [])) (by decide +kernel)) (pc2 := 96) rfl ?_
                    refine q_o (mz_fe (e := (96, .iload 4, 2, (0, 0, 0), [])) (by decide +kernel)) (pc2 := 98) rfl ?_
                    refine q_o (mz_fe (e := (98, .iload_n 1, 1, (0, 0, 0), [])) (by decide +kernel)) (pc2 := 99) rfl ?_
                    refine q_ic (v := 0) (mz_fe (e := (99, .iconst 0, 1, (0, 0, 0), [])) (by decide +kernel)) (by decide) ?_
                    refine q_o (mz_fe (e := (100, .lconst 0, 1, (0, 0, 0), [])) (by decide +kernel)) (pc2 := 101) (st2 := [.long 0, .int 0, .int x0, .int 15, .ref 239]) rfl ?_
                    refine q_callV (N := 182) (vs := [.ref 239, .int 15, .int x0, .int 0, .long 0]) (rest := []) (L' := [some (.ref 239), some (.int x0), some (.int x1), some (.int x2), some (.int 15)]) rfl (mz_fe (e := (101, .invokevirtual 188, 172, (182, 5, 18), [])) (by decide +kernel)) rfl (mz_inv_virt (N := 182) (k := 5) (t := 18) (st := [.long 0, .int 0, .int x0, .int 15, .ref 239]) (rest := []) (b := 239) (vs := [.int 15, .int x0, .int 0, .long 0]) (h := (mz_S0, m)) rfl rfl (Nat.le_of_ble_eq_true rfl) (Nat.le_of_ble_eq_true rfl) tg_239 (by decide)) (mz_dc_lt (n := 6) rfl (by decide +kernel) (by decide +kernel)) (by decide +kernel) (by decide +kernel) (fun m144 => ?_)
                    refine q_ic (v := 1) (mz_fe (e := (104, .iconst 1, 1, (0, 0, 0), [])) (by decide +kernel)) (by decide) ?_
                    exact q_retI (mz_fe (e := (105, .ireturn, 1, (0, 0, 0), [])) (by decide +kernel)) (by decide +kernel)
                  · refine q_bi (v := 13) (mz_fe (e := (91, .bipush 13, 2, (0, 0, 0), [])) (by decide +kernel)) (by decide) ?_
                    refine q_s (mz_fe (e := (93, .istore 4, 2, (0, 0, 0), [])) (by decide +kernel)) (pc' := 95) (L' := [some (.ref 239), some (.int x0), some (.int x1), some (.int x2), some (.int 13)]) (st' := []) rfl ?_
                    refine q_o (mz_fe (e := (95, .aload_n 0, 1, (0, 0, 0), [])) (by decide +kernel)) (pc2 := 96) rfl ?_
                    refine q_o (mz_fe (e := (96, .iload 4, 2, (0, 0, 0), [])) (by decide +kernel)) (pc2 := 98) rfl ?_
                    refine q_o (mz_fe (e := (98, .iload_n 1, 1, (0, 0, 0), [])) (by decide +kernel)) (pc2 := 99) rfl ?_
                    refine q_ic (v := 0) (mz_fe (e := (99, .iconst 0, 1, (0, 0, 0), [])) (by decide +kernel)) (by decide) ?_
                    refine q_o (mz_fe (e := (100, .lconst 0, 1, (0, 0, 0), [])) (by decide +kernel)) (pc2 := 101) (st2 := [.long 0, .int 0, .int x0, .int 13, .ref 239]) rfl ?_
                    refine q_callV (N := 182) (vs := [.ref 239, .int 13, .int x0, .int 0, .long 0]) (rest := []) (L' := [some (.ref 239), some (.int x0), some (.int x1), some (.int x2), some (.int 13)]) rfl (mz_fe (e := (101, .invokevirtual 188, 172, (182, 5, 18), [])) (by decide +kernel)) rfl (mz_inv_virt (N := 182) (k := 5) (t := 18) (st := [.long 0, .int 0, .int x0, .int 13, .ref 239]) (rest := []) (b := 239) (vs := [.int 13, .int x0, .int 0, .long 0]) (h := (mz_S0, m)) rfl rfl (Nat.le_of_ble_eq_true rfl) (Nat.le_of_ble_eq_true rfl) tg_239 (by decide)) (mz_dc_lt (n := 6) rfl (by decide +kernel) (by decide +kernel)) (by decide +kernel) (by decide +kernel) (fun m147 => ?_)
                    refine q_ic (v := 1) (mz_fe (e := (104, .iconst 1, 1, (0, 0, 0), [])) (by decide +kernel)) (by decide) ?_
                    exact q_retI (mz_fe (e := (105, .ireturn, 1, (0, 0, 0), [])) (by decide +kernel)) (by decide +kernel)
              · refine q_bi (v := 10) (mz_fe (e := (71, .bipush 10, 2, (0, 0, 0), [])) (by decide +kernel)) (by decide) ?_
                refine q_s (mz_fe (e := (73, .istore 4, 2, (0, 0, 0), [])) (by decide +kernel)) (pc' := 75) (L' := [some (.ref 239), some (.int x0), some (.int x1), some (.int x2), some (.int 10)]) (st' := []) rfl ?_
                refine q_o (mz_fe (e := (75, .iload_n 2, 1, (0, 0, 0), [])) (by decide +kernel)) (pc2 := 76) rfl ?_
                refine q_bi (v := 47) (mz_fe (e := (76, .bipush 47, 2, (0, 0, 0), [])) (by decide +kernel)) (by decide) ?_
                refine q_if (c := .ne) (off := 7) (t := 85) (x := x1) (y := 47) (st := []) (mz_fe (e := (78, .if_icmp .ne 7, 3, (0, 0, 0), [])) (by decide +kernel)) (fun _ => rfl) rfl rfl rfl (fun c150 => ?_) (fun c150 => ?_)
                · refine q_o (mz_fe (e := (85, .iload_n 2, 1, (0, 0, 0), [])) (by decide +kernel)) (pc2 := 86) rfl ?_
                  refine q_bi (v := 60) (mz_fe (e := (86, .bipush 60, 2, (0, 0, 0), [])) (by decide +kernel)) (by decide) ?_
                  refine q_if (c := .ne) (off := 7) (t := 95) (x := x1) (y := 60) (st := []) (mz_fe (e := (88, .if_icmp .ne 7, 3, (0, 0, 0), [])) (by decide +kernel)) (fun _ => rfl) rfl rfl rfl (fun c151 => ?_) (fun c151 => ?_)
                  · refine q_o (mz_fe (e := (95, .aload_n 0, 1, (0, 0, 0), [])) (by decide +kernel)) (pc2 := 96) rfl ?_
                    refine q_o (mz_fe (e := (96, .iload 4, 2, (0, 0, 0), [])) (by decide +kernel)) (pc2 := 98) rfl ?_
                    refine q_o (mz_fe (e := (98, .iload_n 1, 1, (0, 0, 0), [])) (by decide +kernel)) (pc2 := 99) rfl ?_
                    refine q_ic (v := 0) (mz_fe (e := (99, .iconst 0, 1, (0, 0, 0), [])) (by decide +kernel)) (by decide) ?_
                    refine q_o (mz_fe (e := (100, .lconst 0, 1, (0, 0, 0), [])) (by decide +kernel)) (pc2 := 101) (st2 := [.long 0, .int 0, .int x0, .int 10, .ref 239]) rfl ?_
                    refine q_callV (N := 182) (vs := [.ref 239, .int 10, .int x0, .int 0, .long 0]) (rest := []) (L' := [some (.ref 239), some (.int x0), some (.int x1), some (.int x2), some (.int 10)]) rfl (mz_fe (e := (101, .invokevirtual 188, 172, (182, 5, 18), [])) (by decide +kernel)) rfl (mz_inv_virt (N := 182) (k := 5) (t := 18) (st := [.long 0, .int 0, .int x0, .int 10, .ref 239]) (rest := []) (b := 239) (vs := [.int 10, .int x0, .int 0, .long 0]) (h := (mz_S0, m)) rfl rfl (Nat.le_of_ble_eq_true rfl) (Nat.le_of_ble_eq_true rfl) tg_239 (by decide)) (mz_dc_lt (n := 6) rfl (by decide +kernel) (by decide +kernel)) (by decide +kernel) (by decide +kernel) (fun m152 => ?_)
                    refine q_ic (v := 1) (mz_fe (e := (104, .iconst 1, 1, (0, 0, 0), [])) (by decide +kernel)) (by decide) ?_
                    exact q_retI (mz_fe (e := (105, .ireturn, 1, (0, 0, 0), [])) (by decide +kernel)) (by decide +kernel)
                  · refine q_bi (v := 13) (mz_fe (e := (91, .bipush 13, 2, (0, 0, 0), [])) (by decide +kernel)) (by decide) ?_
                    refine q_s (mz_fe (e := (93, .istore 4, 2, (0, 0, 0), [])) (by decide +kernel)) (pc' := 95) (L' := [some (.ref 239), some (.int x0), some (.int x1), some (.int x2), some (.int 13)]) (st' := []) rfl ?_
                    refine q_o (mz_fe (e := (95, .aload_n 0, 1, (0, 0, 0), [])) (by decide +kernel)) (pc2 := 96) rfl ?_
                    refine q_o (mz_fe (e := (96, .iload 4, 2, (0, 0, 0), [])) (by decide +kernel)) (pc2 := 98) rfl ?_
                    refine q_o (mz_fe (e := (98, .iload_n 1, 1, (0, 0, 0), [])) (by decide +kernel)) (pc2 := 99) rfl ?_
                    refine q_ic (v := 0) (mz_fe (e := (99, .iconst 0, 1, (0, 0, 0), [])) (by decide +kernel)) (by decide) ?_
                    refine q_o (mz_fe (e := (100, .lconst 0, 1, (0, 0, 0), [])) (by decide +kernel)) (pc2 := 101) (st2 := [.long 0, .int 0, .int x0, .int 13, .ref 239]) rfl ?_
                    refine q_callV (N := 182) (vs := [.ref 239, .int 13, .int x0, .int 0, .long 0]) (rest := []) (L' := [some (.ref 239), some (.int x0), some (.int x1), some (.int x2), some (.int 13)]) rfl (mz_fe (e := (101, .invokevirtual 188, 172, (182, 5, 18), [])) (by decide +kernel)) rfl (mz_inv_virt (N := 182) (k := 5) (t := 18) (st := [.long 0, .int 0, .int x0, .int 13, .ref 239]) (rest := []) (b := 239) (vs := [.int 13, .int x0, .int 0, .long 0]) (h := (mz_S0, m)) rfl rfl (Nat.le_of_ble_eq_true rfl) (Nat.le_of_ble_eq_true rfl) tg_239 (by decide)) (mz_dc_lt (n := 6) rfl (by decide +kernel) (by decide +kernel)) (by decide +kernel) (by decide +kernel) (fun m155 => ?_)
                    refine q_ic (v := 1) (mz_fe (e := (104, .iconst 1, 1, (0, 0, 0), [])) (by decide +kernel)) (by decide) ?_
                    exact q_retI (mz_fe (e := (105, .ireturn, 1, (0, 0, 0), [])) (by decide +kernel)) (by decide +kernel)
                · refine q_bi (v := 15) (mz_fe (e := (81, .bipush 15, 2, (0, 0, 0), [])) (by decide +kernel)) (by decide) ?_
                  refine q_s (mz_fe (e := (83, .istore 4, 2, (0, 0, 0), [])) (by decide +kernel)) (pc' := 85) (L' := [some (.ref 239), some (.int x0), some (.int x1), some (.int x2), some (.int 15)]) (st' := []) rfl ?_
                  refine q_o (mz_fe (e := (85, .iload_n 2, 1, (0, 0, 0), [])) (by decide +kernel)) (pc2 := 86) rfl ?_
                  refine q_bi (v := 60) (mz_fe (e := (86, .bipush 60, 2, (0, 0, 0), [])) (by decide +kernel)) (by decide) ?_
                  refine q_if (c := .ne) (off := 7) (t := 95) (x := x1) (y := 60) (st := []) (mz_fe (e := (88, .if_icmp .ne 7, 3, (0, 0, 0), [])) (by decide +kernel)) (fun _ => rfl) rfl rfl rfl (fun c158 => ?_) (fun c158 => ?_)
                  · refine q_o (mz_fe (e := (95, .aload_n 0, 1, (0, 0, 0), [])) (by decide +kernel)) (pc2 := 96) rfl ?_
                    refine q_o (mz_fe (e := (96, .iload 4, 2, (0, 0, 0), [])) (by decide +kernel)) (pc2 := 98) rfl ?_
                    refine q_o (mz_fe (e := (98, .iload_n 1, 1, (0, 0, 0), [])) (by decide +kernel)) (pc2 := 99) rfl ?_
                    refine q_ic (v := 0) (mz_fe (e := (99, .iconst 0, 1, (0, 0, 0), [])) (by decide +kernel)) (by decide) ?_
                    refine q_o (mz_fe (e := (100, .lconst 0, 1, (0, 0, 0), [])) (by decide +kernel)) (pc2 := 101) (st2 := [.long 0, .int 0, .int x0, .int 15, .ref 239]) rfl ?_
                    refine q_callV (N := 182) (vs := [.ref 239, .int 15, .int x0, .int 0, .long 0]) (rest := []) (L' := [some (.ref 239), some (.int x0), some (.int x1), some (.int x2), some (.int 15)]) rfl (mz_fe (e := (101, .invokevirtual 188, 172, (182, 5, 18), [])) (by decide +kernel)) rfl (mz_inv_virt (N := 182) (k := 5) (t := 18) (st := [.long 0, .int 0, .int x0, .int 15, .ref 239]) (rest := []) (b := 239) (vs := [.int 15, .int x0, .int 0, .long 0]) (h := (mz_S0, m)) rfl rfl (Nat.le_of_ble_eq_true rfl) (Nat.le_of_ble_eq_true rfl) tg_239 (by decide)) (mz_dc_lt (n := 6) rfl (by decide +kernel) (by decide +kernel)) (by decide +kernel) (by decide +kernel) (fun m159 => ?_)
                    refine q_ic (v := 1) (mz_fe (e := (104, .iconst 1, 1, (0, 0, 0), [])) (by decide +kernel)) (by decide) ?_
                    exact q_retI (mz_fe (e := (105, .ireturn, 1, (0, 0, 0), [])) (by decide +kernel)) (by decide +kernel)
                  · refine q_bi (v := 13) (mz_fe (e := (91, .bipush 13, 2, (0, 0, 0), [])) (by decide +kernel)) (by decide) ?_
                    refine q_s (mz_fe (e := (93, .istore 4, 2, (0, 0, 0), [])) (by decide +kernel)) (pc' := 95) (L' := [some (.ref 239), some (.int x0), some (.int x1), some (.int x2), some (.int 13)]) (st' := []) rfl ?_
                    refine q_o (mz_fe (e := (95, .aload_n 0, 1, (0, 0, 0), [])) (by decide +kernel)) (pc2 := 96) rfl ?_
                    refine q_o (mz_fe (e := (96, .iload 4, 2, (0, 0, 0), [])) (by decide +kernel)) (pc2 := 98) rfl ?_
                    refine q_o (mz_fe (e := (98, .iload_n 1, 1, (0, 0, 0), [])) (by decide +kernel)) (pc2 := 99) rfl ?_
                    refine q_ic (v := 0) (mz_fe (e := (99, .iconst 0, 1, (0, 0, 0), [])) (by decide +kernel)) (by decide) ?_
                    refine q_o (mz_fe (e := (100, .lconst 0, 1, (0, 0, 0), [])) (by decide +kernel)) (pc2 := 101) (st2 := [.long 0, .int 0, .int x0, .int 13, .ref 239]) rfl ?_
                    refine q_callV (N := 182) (vs := [.ref 239, .int 13, .int x0, .int 0, .long 0]) (rest := []) (L' := [some (.ref 239), some (.int x0), some (.int x1), some (.int x2), some (.int 13)]) rfl (mz_fe (e := (101, .invokevirtual 188, 172, (182, 5, 18), [])) (by decide +kernel)) rfl (mz_inv_virt (N := 182) (k := 5) (t := 18) (st := [.long 0, .int 0, .int x0, .int 13, .ref 239]) (rest := []) (b := 239) (vs := [.int 13, .int x0, .int 0, .long 0]) (h := (mz_S0, m)) rfl rfl (Nat.le_of_ble_eq_true rfl) (Nat.le_of_ble_eq_true rfl) tg_239 (by decide)) (mz_dc_lt (n := 6) rfl (by decide +kernel) (by decide +kernel)) (by decide +kernel) (by decide +kernel) (fun m162 => ?_)
                    refine q_ic (v := 1) (mz_fe (e := (104, .iconst 1, 1, (0, 0, 0), [])) (by decide +kernel)) (by decide) ?_
                    exact q_retI (mz_fe (e := (105, .ireturn, 1, (0, 0, 0), [])) (by decide +kernel)) (by decide +kernel)
            · refine q_bi (v := 9) (mz_fe (e := (61, .bipush 9, 2, (0, 0, 0), [])) (by decide +kernel)) (by decide) ?_
              refine q_s (mz_fe (e := (63, .istore 4, 2, (0, 0, 0), [])) (by decide +kernel)) (pc' := 65) (L' := [some (.ref 239), some (.int x0), some (.int x1), some (.int x2), some (.int 9)]) (st' := []) rfl ?_
              refine q_o (mz_fe (e := (65, .iload_n 2, 1, (0, 0, 0), [])) (by decide +kernel)) (pc2 := 66) rfl ?_
              refine q_bi (v := 42) (mz_fe (e := (66, .bipush 42, 2, (0, 0, 0), [])) (by decide +kernel)) (by decide) ?_
              refine q_if (c := .ne) (off := 7) (t := 75) (x := x1) (y := 42) (st := []) (mz_fe (e := (68, .if_icmp .ne 7, 3, (0, 0, 0), [])) (by decide +kernel)) (fun _ => rfl) rfl rfl rfl (fun c165 => ?_) (fun c165 => ?_)
              · refine q_o (mz_fe (e := (75, .iload_n 2, 1, (0, 0, 0), [])) (by decide +kernel)) (pc2 := 76) rfl ?_
                refine q_bi (v := 47) (mz_fe (e := (76, .bipush 47, 2, (0, 0, 0), [])) (by decide +kernel)) (by decide) ?_
                refine q_if (c := .ne) (off := 7) (t := 85) (x := x1) (y := 47) (st := []) (mz_fe (e := (78, .if_icmp .ne 7, 3, (0, 0, 0), [])) (by decide +kernel)) (fun _ => rfl) rfl rfl rfl (fun c166 => ?_) (fun c166 => ?_)
                · refine q_o (mz_fe (e := (85, .iload_n 2, 1, (0, 0, 0), [])) (by decide +kernel)) (pc2 := 86) rfl ?_
                  refine q_bi (v := 60) (mz_fe (e := (86, .bipush 60, 2, (0, 0, 0), [])) (by decide +kernel)) (by decide) ?_
                  refine q_if (c := .ne) (off := 7) (t := 95) (x := x1) (y := 60) (st := []) (mz_fe (e := (88, .if_icmp .ne 7, 3, (0, 0, 0), [])) (by decide +kernel)) (fun _ => rfl) rfl rfl rfl (fun c167 => ?_) (fun c167 => ?_)
                  · refine q_o (mz_fe (e := (95, .aload_n 0, 1, (0, 0, 0), [])) (by decide +kernel)) (pc2 := 96) rfl ?_
                    refine q_o (mz_fe (e := (96, .iload 4, 2, (0, 0, 0), [])) (by decide +kernel)) (pc2 := 98) rfl ?_
                    refine q_o (mz_fe (e := (98, .iload_n 1, 1, (0, 0, 0), [])) (by decide +kernel)) (pc2 := 99) rfl ?_
                    refine q_ic (v := 0) (mz_fe (e := (99, .iconst 0, 1, (0, 0, 0), [])) (by decide +kernel)) (by decide) ?_
                    refine q_o (mz_fe (e := (100, .lconst 0, 1, (0, 0, 0), [])) (by decide +kernel)) (pc2 := 101) (st2 := [.long 0, .int 0, .int x0, .int 9, .ref 239]) rfl ?_
                    refine q_callV (N := 182) (vs := [.ref 239, .int 9, .int x0, .int 0, .long 0]) (rest := []) (L' := [some (.ref 239), some (.int x0), some (.int x1), some (.int x2), some (.int 9)]) rfl (mz_fe (e := (101, .invokevirtual 188, 172, (182, 5, 18), [])) (by decide +kernel)) rfl (mz_inv_virt (N := 182) (k := 5) (t := 18) (st := [.long 0, .int 0, .int x0, .int 9, .ref 239]) (rest := []) (b := 239) (vs := [.int 9, .int x0, .int 0, .long 0]) (h := (mz_S0, m)) rfl rfl (Nat.le_of_ble_eq_true rfl) (Nat.le_of_ble_eq_true rfl) tg_239 (by decide)) (mz_dc_lt (n := 6) rfl (by decide +kernel) (by decide +kernel)) (by decide +kernel) (by decide +kernel) (fun m168 => ?_)
                    refine q_ic (v := 1) (mz_fe (e := (104, .iconst 1, 1, (0, 0, 0), [])) (by decide +kernel)) (by decide) ?_
                    exact q_retI (mz_fe (e := (105, .ireturn, 1, (0, 0, 0), [])) (by decide +kernel)) (by decide +kernel)
                  · refine q_bi (v := 13) (mz_fe (e := (91, .bipush 13, 2, (0, 0, 0), [])) (by decide +kernel)) (by decide) ?_
                    refine q_s (mz_fe (e := (93, .istore 4, 2, (0, 0, 0), [])) (by decide +kernel)) (pc' := 95) (L' := [some (.ref 239), some (.int x0), some (.int x1), some (.int x2), some (.int 13)]) (st' := []) rfl ?_
                    refine q_o (mz_fe (e := (95, .aload_n 0, 1, (0, 0, 0), [])) (by decide +kernel)) (pc2 := 96) rfl ?_
                    refine q_o (mz_fe (e := (96, .iload 4, 2, (0, 0, 0), [])) (by decide +kernel)) (pc2 := 98) rfl ?_
                    refine q_o (mz_fe (e := (98, .iload_n 1, 1, (0, 0, 0), [])) (by decide +kernel)) (pc2 := 99) rfl ?_
                    refine q_ic (v := 0) (mz_fe (e := (99, .iconst 0, 1, (0, 0, 0), [])) (by decide +kernel)) (by decide) ?_
                    refine q_o (mz_fe (e := (100, .lconst 0, 1, (0, 0, 0), [])) (by decide +kernel)) (pc2 := 101) (st2 := [.long 0, .int 0, .int x0, .int 13, .ref 239]) rfl ?_
                    refine q_callV (N := 182) (vs := [.ref 239, .int 13, .int x0, .int 0, .long 0]) (rest := []) (L' := [some (.ref 239), some (.int x0), some (.int x1), some (.int x2), some (.int 13)]) rfl (mz_fe (e := (101, .invokevirtual 188, 172, (182, 5, 18), [])) (by decide +kernel)) rfl (mz_inv_virt (N := 182) (k := 5) (t := 18) (st := [.long 0, .int 0, .int x0, .int 13, .ref 239]) (rest := []) (b := 239) (vs := [.int 13, .int x0, .int 0, .long 0]) (h := (mz_S0, m)) rfl rfl (Nat.le_of_ble_eq_true rfl) (Nat.le_of_ble_eq_true rfl) tg_239 (by decide)) (mz_dc_lt (n := 6) rfl (by decide +kernel) (by decide +kernel)) (by decide +kernel) (by decide +kernel) (fun m171 => ?_)
                    refine q_ic (v := 1) (mz_fe (e := (104, .iconst 1, 1, (0, 0, 0), [])) (by decide +kernel)) (by decide) ?_
                    exact q_retI (mz_fe (e := (105, .ireturn, 1, (0, 0, 0), [])) (by decide +kernel)) (by decide +kernel)
                · refine q_bi (v := 15) (mz_fe (e := (81, .bipush 15, 2, (0, 0, 0), [])) (by decide +kernel)) (by decide) ?_
                  refine q_s (mz_fe (e := (83, .istore 4, 2, (0, 0, 0), [])) (by decide +kernel)) (pc' := 85) (L' := [some (.ref 239), some (.int x0), some (.int x1), some (.int x2), some (.int 15)]) (st' := []) rfl ?_
                  refine q_o (mz_fe (e := (85, .iload_n 2, 1, (0, 0, 0), [])) (by decide +kernel)) (pc2 := 86) rfl ?_
                  refine q_bi (v := 60) (mz_fe (e := (86, .bipush 60, 2, (0, 0, 0), [])) (by decide +kernel)) (by decide) ?_
                  refine q_if (c := .ne) (off := 7) (t := 95) (x := x1) (y := 60) (st := []) (mz_fe (e := (88, .if_icmp .ne 7, 3, (0, 0, 0), [])) (by decide +kernel)) (fun _ => rfl) rfl rfl rfl (fun c174 => ?_) (fun c174 => ?_)
                  · refine q_o (mz_fe (e := (95, .aload_n 0, 1, (0, 0, 0), [])) (by decide +kernel)) (pc2 := 96) rfl ?_
                    refine q_o (mz_fe (e := (96, .iload 4, 2, (0, 0, 0), [])) (by decide +kernel)) (pc2 := 98) rfl ?_
                    refine q_o (mz_fe (e := (98, .iload_n 1, 1, (0, 0, 0), [])) (by decide +kernel)) (pc2 := 99) rfl ?_
                    refine q_ic (v := 0) (mz_fe (e := (99, .iconst 0, 1, (0, 0, 0), [])) (by decide +kernel)) (by decide) ?_
                    refine q_o (mz_fe (e := (100, .lconst 0, 1, (0, 0, 0), [])) (by decide +kernel)) (pc2 := 101) (st2 := [.long 0, .int 0, .int x0, .int 15, .ref 239]) rfl ?_
                    refine q_callV (N := 182) (vs := [.ref 239, .int 15, .int x0, .int 0, .long 0]) (rest := []) (L' := [some (.ref 239), some (.int x0), some (.int x1), some (.int x2), some (.int 15)]) rfl (mz_fe (e := (101, .invokevirtual 188, 172, (182, 5, 18), [])) (by decide +kernel)) rfl (mz_inv_virt (N := 182) (k := 5) (t := 18) (st := [.long 0, .int 0, .int x0, .int 15, .ref 239]) (rest := []) (b := 239) (vs := [.int 15, .int x0, .int 0, .long 0]) (h := (mz_S0, m)) rfl rfl (Nat.le_of_ble_eq_true rfl) (Nat.le_of_ble_eq_true rfl) tg_239 (by decide)) (mz_dc_lt (n := 6) rfl (by decide +kernel) (by decide +kernel)) (by decide +kernel) (by decide +kernel) (fun m175 => ?_)
                    refine q_ic (v := 1) (mz_fe (e := (104, .iconst 1, 1, (0, 0, 0), [])) (by decide +kernel)) (by decide) ?_
                    exact q_retI (mz_fe (e := (105, .ireturn, 1, (0, 0, 0), [])) (by decide +kernel)) (by decide +kernel)
                  · refine q_bi (v := 13) (mz_fe (e := (91, .bipush 13, 2, (0, 0, 0), [])) (by decide +kernel)) (by decide) ?_
                    refine q_s (mz_fe (e := (93, .istore 4, 2, (0, 0, 0), [])) (by decide +kernel)) (pc' := 95) (L' := [some (.ref 239), some (.int x0), some (.int x1), some (.int x2), some (.int 13)]) (st' := []) rfl ?_
                    refine q_o (mz_fe (e := (95, .aload_n 0, 1, (0, 0, 0), [])) (by decide +kernel)) (pc2 := 96) rfl ?_
                    refine q_o (mz_fe (e := (96, .iload 4, 2, (0, 0, 0), [])) (by decide +kernel)) (pc2 := 98) rfl ?_
                    refine q_o (mz_fe (e := (98, .iload_n 1, 1, (0, 0, 0), [])) (by decide +kernel)) (pc2 := 99) rfl ?_
                    refine q_ic (v := 0) (mz_fe (e := (99, .iconst 0, 1, (0, 0, 0), [])) (by decide +kernel)) (by decide) ?_
                    refine q_o (mz_fe (e := (100, .lconst 0, 1, (0, 0, 0), [])) (by decide +kernel)) (pc2 := 101) (st2 := [.long 0, .int 0, .int x0, .int 13, .ref 239]) rfl ?_
                    refine q_callV (N := 182) (vs := [.ref 239, .int 13, .int x0, .int 0, .long 0]) (rest := []) (L' := [some (.ref 239), some (.int x0), some (.int x1), some (.int x2), some (.int 13)]) rfl (mz_fe (e := (101, .invokevirtual 188, 172, (182, 5, 18), [])) (by decide +kernel)) rfl (mz_inv_virt (N := 182) (k := 5) (t := 18) (st := [.long 0, .int 0, .int x0, .int 13, .ref 239]) (rest := []) (b := 239) (vs := [.int 13, .int x0, .int 0, .long 0]) (h := (mz_S0, m)) rfl rfl (Nat.le_of_ble_eq_true rfl) (Nat.le_of_ble_eq_true rfl) tg_239 (by decide)) (mz_dc_lt (n := 6) rfl (by decide +kernel) (by decide +kernel)) (by decide +kernel) (by decide +kernel) (fun m178 => ?_)
                    refine q_ic (v := 1) (mz_fe (e := (104, .iconst 1, 1, (0, 0, 0), [])) (by decide +kernel)) (by decide) ?_
                    exact q_retI (mz_fe (e := (105, .ireturn, 1, (0, 0, 0), [])) (by decide +kernel)) (by decide +kernel)
              · refine q_bi (v := 10) (mz_fe (e := (71, .bipush 10, 2, (0, 0, 0), [])) (by decide +kernel)) (by decide) ?_
                refine q_s (mz_fe (e := (73, .istore 4, 2, (0, 0, 0), [])) (by decide +kernel)) (pc' := 75) (L' := [some (.ref 239), some (.int x0), some (.int x1), some (.int x2), some (.int 10)]) (st' := []) rfl ?_
                refine q_o (mz_fe (e := (75, .iload_n 2, 1, (0, 0, 0), [])) (by decide +kernel)) (pc2 := 76) rfl ?_
                refine q_bi (v := 47) (mz_fe (e := (76, .bipush 47, 2, (0, 0, 0), [])) (by decide +kernel)) (by decide) ?_
                refine q_if (c := .ne) (off := 7) (t := 85) (x := x1) (y := 47) (st := []) (mz_fe (e := (78, .if_icmp .ne 7, 3, (0, 0, 0), [])) (by decide +kernel)) (fun _ => rfl) rfl rfl rfl (fun c181 => ?_) (fun c181 => ?_)
                · refine q_o (mz_fe (e := (85, .iload_n 2, 1, (0, 0, 0), [])) (by decide +kernel)) (pc2 := 86) rfl ?_
                  refine q_bi (v := 60) (mz_fe (e := (86, .bipush 60, 2, (0, 0, 0), [])) (by decide +kernel)) (by decide) ?_
                  refine q_if (c := .ne) (off := 7) (t := 95) (x := x1) (y := 60) (st := []) (mz_fe (e := (88, .if_icmp .ne 7, 3, (0, 0, 0), [])) (by decide +kernel)) (fun _ => rfl) rfl rfl rfl (fun c182 => ?_) (fun c182 => ?_)
                  · refine q_o (mz_fe (e := (95, .aload_n 0, 1, (0, 0, 0), [])) (by decide +kernel)) (pc2 := 96) rfl ?_
                    refine q_o (mz_fe (e := (96, .iload 4, 2, (0, 0, 0), [])) (by decide +kernel)) (pc2 := 98) rfl ?_
                    refine q_o (mz_fe (e := (98, .iload_n 1, 1, (0, 0, 0), [])) (by decide +kernel)) (pc2 := 99) rfl ?_
                    refine q_ic (v := 0) (mz_fe (e := (99, .iconst 0, 1, (0, 0, 0), [])) (by decide +kernel)) (by decide) ?_
                    refine q_o (mz_fe (e := (100, .lconst 0, 1, (0, 0, 0), [])) (by decide +kernel)) (pc2 := 101) (st2 := [.long 0, .int 0, .int x0, .int 10, .ref 239]) rfl ?_
                    refine q_callV (N := 182) (vs := [.ref 239, .int 10, .int x0, .int 0, .long 0]) (rest := []) (L' := [some (.ref 239), some (.int x0), some (.int x1), some (.int x2), some (.int 10)]) rfl (mz_fe (e := (101, .invokevirtual 188, 172, (182, 5, 18), [])) (by decide +kernel)) rfl (mz_inv_virt (N := 182) (k := 5) (t := 18) (st := [.long 0, .int 0, .int x0, .int 10, .ref 239]) (rest := []) (b := 239) (vs := [.int 10, .int x0, .int 0, .long 0]) (h := (mz_S0, m)) rfl rfl (Nat.le_of_ble_eq_true rfl) (Nat.le_of_ble_eq_true rfl) tg_239 (by decide)) (mz_dc_lt (n := 6) rfl (by decide +kernel) (by decide +kernel)) (by decide +kernel) (by decide +kernel) (fun m183 => ?_)
                    refine q_ic (v := 1) (mz_fe (e := (104, .iconst 1, 1, (0, 0, 0), [])) (by decide +kernel)) (by decide) ?_
                    exact q_retI (mz_fe (e := (105, .ireturn, 1, (0, 0, 0), [])) (by decide +kernel)) (by decide +kernel)
                  · refine q_bi (v := 13) (mz_fe (e := (91, .bipush 13, 2, (0, 0, 0), [])) (by decide +kernel)) (by decide) ?_
                    refine q_s (mz_fe (e := (93, .istore 4, 2, (0, 0, 0), [])) (by decide +kernel)) (pc' := 95) (L' := [some (.ref 239), some (.int x0), some (.int x1), some (.int x2), some (.int 13)]) (st' := []) rfl ?_
                    refine q_o (mz_fe (e := (95, .aload_n 0, 1, (0, 0, 0), [])) (by decide +kernel)) (pc2 := 96) rfl ?_
                    refine q_o (mz_fe (e := (96, .iload 4, 2, (0, 0, 0), [])) (by decide +kernel)) (pc2 := 98) rfl ?_
                    refine q_o (mz_fe (e := (98, .iload_n 1, 1, (0, 0, 0), [])) (by decide +kernel)) (pc2 := 99) rfl ?_
                    refine q_ic (v := 0) (mz_fe (e := (99, .iconst 0, 1, (0, 0, 0), [])) (by decide +kernel)) (by decide) ?_
                    refine q_o (mz_fe (e := (100, .lconst 0, 1, (0, 0, 0), [])) (by decide +kernel)) (pc2 := 101) (st2 := [.long 0, .int 0, .int x0, .int 13, .ref 239]) rfl ?_
                    refine q_callV (N := 182) (vs := [.ref 239, .int 13, .int x0, .int 0, .long 0]) (rest := []) (L' := [some (.ref 239), some (.int x0), some (.int x1), some (.int x2), some (.int 13)]) rfl (mz_fe (e := (101, .invokevirtual 188, 172, (182, 5, 18), [])) (by decide +kernel)) rfl (mz_inv_virt (N := 182) (k := 5) (t := 18) (st := [.long 0, .int 0, .int x0, .int 13, .ref 239]) (rest := []) (b := 239) (vs := [.int 13, .int x0, .int 0, .long 0]) (h := (mz_S0, m)) rfl rfl (Nat.le_of_ble_eq_true rfl) (Nat.le_of_ble_eq_true rfl) tg_239 (by decide)) (mz_dc_lt (n := 6) rfl (by decide +kernel) (by decide +kernel)) (by decide +kernel) (by decide +kernel) (fun m186 => ?_)
                    refine q_ic (v := 1) (mz_fe (e := (104, .iconst 1, 1, (0, 0, 0), [])) (by decide +kernel)) (by decide) ?_
                    exact q_retI (mz_fe (e := (105, .ireturn, 1, (0, 0, 0), [])) (by decide +kernel)) (by decide +kernel)
                · refine q_bi (v := 15) (mz_fe (e := (81, .bipush 15, 2, (0, 0, 0), [])) (by decide +kernel)) (by decide) ?_
                  refine q_s (mz_fe (e := (83, .istore 4, 2, (0, 0, 0), [])) (by decide +kernel)) (pc' := 85) (L' := [some (.ref 239), some (.int x0), some (.int x1), some (.int x2), some (.int 15)]) (st' := []) rfl ?_
                  refine q_o (mz_fe (e := (85, .iload_n 2, 1, (0, 0, 0), [])) (by decide +kernel)) (pc2 := 86) rfl ?_
                  refine q_bi (v := 60) (mz_fe (e := (86, .bipush 60, 2, (0, 0, 0), [])) (by decide +kernel)) (by decide) ?_
                  refine q_if (c := .ne) (off := 7) (t := 95) (x := x1) (y := 60) (st := []) (mz_fe (e := (88, .if_icmp .ne 7, 3, (0, 0, 0), [])) (by decide +kernel)) (fun _ => rfl) rfl rfl rfl (fun c189 => ?_) (fun c189 => ?_)
                  · refine q_o (mz_fe (e := (95, .aload_n 0, 1, (0, 0, 0), [])) (by decide +kernel)) (pc2 := 96) rfl ?_
                    refine q_o (mz_fe (e := (96, .iload 4, 2, (0, 0, 0), [])) (by decide +kernel)) (pc2 := 98) rfl ?_
                    refine q_o (mz_fe (e := (98, .iload_n 1, 1, (0, 0, 0), [])) (by decide +kernel)) (pc2 := 99) rfl ?_
                    refine q_ic (v := 0) (mz_fe (e := (99, .iconst 0, 1, (0, 0, 0), [])) (by decide +kernel)) (by decide) ?_
                    refine q_o (mz_fe (e := (100, .lconst 0, 1, (0, 0, 0), [])) (by decide +kernel)) (pc2 := 101) (st2 := [.long 0, .int 0, .int x0, .int 15, .ref 239]) rfl ?_
                    refine q_callV (N := 182) (vs := [.ref 239, .int 15, .int x0, .int 0, .long 0]) (rest := []) (L' := [some (.ref 239), some (.int x0), some (.int x1), some (.int x2), some (.int 15)]) rfl (mz_fe (e := (101, .invokevirtual 188, 172, (182, 5, 18), [])) (by decide +kernel)) rfl (mz_inv_virt (N := 182) (k := 5) (t := 18) (st := [.long 0, .int 0, .int x0, .int 15, .ref 239]) (rest := []) (b := 239) (vs := [.int 15, .int x0, .int 0, .long 0]) (h := (mz_S0, m)) rfl rfl (Nat.le_of_ble_eq_true rfl) (Nat.le_of_ble_eq_true rfl) tg_239 (by decide)) (mz_dc_lt (n := 6) rfl (by decide +kernel) (by decide +kernel)) (by decide +kernel) (by decide +kernel) (fun m190 => ?_)
                    refine q_ic (v := 1) (mz_fe (e := (104, .iconst 1, 1, (0, 0, 0), [])) (by decide +kernel)) (by decide) ?_
                    exact q_retI (mz_fe (e := (105, .ireturn, 1, (0, 0, 0), [])) (by decide +kernel)) (by decide +kernel)
                  · refine q_bi (v := 13) (mz_fe (e := (91, .bipush 13, 2, (0, 0, 0), [])) (by decide +kernel)) (by decide) ?_
                    refine q_s (mz_fe (e := (93, .istore 4, 2, (0, 0, 0), [])) (by decide +kernel)) (pc' := 95) (L' := [some (.ref 239), some (.int x0), some (.int x1), some (.int x2), some (.int 13)]) (st' := []) rfl ?_
                    refine q_o (mz_fe (e := (95, .aload_n 0, 1, (0, 0, 0), [])) (by decide +kernel)) (pc2 := 96) rfl ?_
                    refine q_o (mz_fe (e := (96, .iload 4, 2, (0, 0, 0), [])) (by decide +kernel)) (pc2 := 98) rfl ?_
                    refine q_o (mz_fe (e := (98, .iload_n 1, 1, (0, 0, 0), [])) (by decide +kernel)) (pc2 := 99) rfl ?_
                    refine q_ic (v := 0) (mz_fe (e := (99, .iconst 0, 1, (0, 0, 0), [])) (by decide +kernel)) (by decide) ?_
                    refine q_o (mz_fe (e := (100, .lconst 0, 1, (0, 0, 0), [])) (by decide +kernel)) (pc2 := 101) (st2 := [.long 0, .int 0, .int x0, .int 13, .ref 239]) rfl ?_
                    refine q_callV (N := 182) (vs := [.ref 239, .int 13, .int x0, .int 0, .long 0]) (rest := []) (L' := [some (.ref 239), some (.int x0), some (.int x1), some (.int x2), some (.int 13)]) rfl (mz_fe (e := (101, .invokevirtual 188, 172, (182, 5, 18), [])) (by decide +kernel)) rfl (mz_inv_virt (N := 182) (k := 5) (t := 18) (st := [.long 0, .int 0, .int x0, .int 13, .ref 239]) (rest := []) (b := 239) (vs := [.int 13, .int x0, .int 0, .long 0]) (h := (mz_S0, m)) rfl rfl (Nat.le_of_ble_eq_true rfl) (Nat.le_of_ble_eq_true rfl) tg_239 (by decide)) (mz_dc_lt (n := 6) rfl (by decide +kernel) (by decide +kernel)) (by decide +kernel) (by decide +kernel) (fun m193 => ?_)
                    refine q_ic (v := 1) (mz_fe (e := (104, .iconst 1, 1, (0, 0, 0), [])) (by decide +kernel)) (by decide) ?_
                    exact q_retI (mz_fe (e := (105, .ireturn, 1, (0, 0, 0), [])) (by decide +kernel)) (by decide +kernel)
          · refine q_bi (v := 8) (mz_fe (e := (51, .bipush 8, 2, (0, 0, 0), [])) (by decide +kernel)) (by decide) ?_
            refine q_s (mz_fe (e := (53, .istore 4, 2, (0, 0, 0), [])) (by decide +kernel)) (pc' := 55) (L' := [some (.ref 239), some (.int x0), some (.int x1), some (.int x2), some (.int 8)]) (st' := []) rfl ?_
            refine q_o (mz_fe (e := (55, .iload_n 2, 1, (0, 0, 0), [])) (by decide +kernel)) (pc2 := 56) rfl ?_
            refine q_bi (v := 45) (mz_fe (e := (56, .bipush 45, 2, (0, 0, 0), [])) (by decide +kernel)) (by decide) ?_
            refine q_if (c := .ne) (off := 7) (t := 65) (x := x1) (y := 45) (st := []) (mz_fe (e := (58, .if_icmp .ne 7, 3, (0, 0, 0), [])) (by decide +kernel)) (fun _ => rfl) rfl rfl rfl (fun c196 => ?_) (fun c196 => ?_)
            · refine q_o (mz_fe (e := (65, .iload_n 2, 1, (0, 0, 0), [])) (by decide +kernel)) (pc2 := 66) rfl ?_
              refine q_bi (v := 42) (mz_fe (e := (66, .bipush 42, 2, (0, 0, 0), [])) (by decide +kernel)) (by decide) ?_
              refine q_if (c := .ne) (off := 7) (t := 75) (x := x1) (y := 42) (st := []) (mz_fe (e := (68, .if_icmp .ne 7, 3, (0, 0, 0), [])) (by decide +kernel)) (fun _ => rfl) rfl rfl rfl (fun c197 => ?_) (fun c197 => ?_)
              · refine q_o (mz_fe (e := (75, .iload_n 2, 1, (0, 0, 0), [])) (by decide +kernel)) (pc2 := 76) rfl ?_
                refine q_bi (v := 47) (mz_fe (e := (76, .bipush 47, 2, (0, 0, 0), [])) (by decide +kernel)) (by decide) ?_
                refine q_if (c := .ne) (off := 7) (t := 85) (x := x1) (y := 47) (st := []) (mz_fe (e := (78, .if_icmp .ne 7, 3, (0, 0, 0), [])) (by decide +kernel)) (fun _ => rfl) rfl rfl rfl (fun c198 => ?_) (fun c198 => ?_)
                · refine q_o (mz_fe (e := (85, .iload_n 2, 1, (0, 0, 0), [])) (by decide +kernel)) (pc2 := 86) rfl ?_
                  refine q_bi (v := 60) (mz_fe (e := (86, .bipush 60, 2, (0, 0, 0), [])) (by decide +kernel)) (by decide) ?_
                  refine q_if (c := .ne) (off := 7) (t := 95) (x := x1) (y := 60) (st := []) (mz_fe (e := (88, .if_icmp .ne 7, 3, (0, 0, 0), [])) (by decide +kernel)) (fun _ => rfl) rfl rfl rfl (fun c199 => ?_) (fun c199 => ?_)
                  · refine q_o (mz_fe (e := (95, .aload_n 0, 1, (0, 0, 0), [])) (by decide +kernel)) (pc2 := 96) rfl ?_
                    refine q_o (mz_fe (e := (96, .iload 4, 2, (0, 0, 0), [])) (by decide +kernel)) (pc2 := 98) rfl ?_
                    refine q_o (mz_fe (e := (98, .iload_n 1, 1, (0, 0, 0), [])) (by decide +kernel)) (pc2 := 99) rfl ?_
                    refine q_ic (v := 0) (mz_fe (e := (99, .iconst 0, 1, (0, 0, 0), [])) (by decide +kernel)) (by decide) ?_
                    refine q_o (mz_fe (e := (100, .lconst 0, 1, (0, 0, 0), [])) (by decide +kernel)) (pc2 := 101) (st2 := [.long 0, .int 0, .int x0, .int 8, .ref 239]) rfl ?_
                    refine q_callV (N := 182) (vs := [.ref 239, .int 8, .int x0, .int 0, .long 0]) (rest := []) (L' := [some (.ref 239), some (.int x0), some (.int x1), some (.int x2), some (.int 8)]) rfl (mz_fe (e := (101, .invokevirtual 188, 172, (182, 5, 18), [])) (by decide +kernel)) rfl (mz_inv_virt (N := 182) (k := 5) (t := 18) (st := [.long 0, .int 0, .int x0, .int 8, .ref 239]) (rest := []) (b := 239) (vs := [.int 8, .int x0, .int 0, .long 0]) (h := (mz_S0, m)) rfl rfl (Nat.le_of_ble_eq_true rfl) (Nat.le_of_ble_eq_true rfl) tg_239 (by decide)) (mz_dc_lt (n := 6) rfl (by decide +kernel) (by decide +kernel)) (by decide +kernel) (by decide +kernel) (fun m200 => ?_)
                    refine q_ic (v := 1) (mz_fe (e := (104, .iconst 1, 1, (0, 0, 0), [])) (by decide +kernel)) (by decide) ?_
                    exact q_retI (mz_fe (e := (105, .ireturn, 1, (0, 0, 0), [])) (by decide +kernel)) (by decide +kernel)
                  · refine q_bi (v := 13) (mz_fe (e := (91, .bipush 13, 2, (0, 0, 0), [])) (by decide +kernel)) (by decide) ?_
                    refine q_s (mz_fe (e := (93, .istore 4, 2, (0, 0, 0), [])) (by decide +kernel)) (pc' := 95) (L' := [some (.ref 239), some (.int x0), some (.int x1), some (.int x2), some (.int 13)]) (st' := []) rfl ?_
                    refine q_o (mz_fe (e := (95, .aload_n 0, 1, (0, 0, 0), [])) (by decide +kernel)) (pc2 := 96) rfl ?_
                    refine q_o (mz_fe (e := (96, .iload 4, 2, (0, 0, 0), [])) (by decide +kernel)) (pc2 := 98) rfl ?_
                    refine q_o (mz_fe (e := (98, .iload_n 1, 1, (0, 0, 0), [])) (by decide +kernel)) (pc2 := 99) rfl ?_
                    refine q_ic (v := 0) (mz_fe (e := (99, .iconst 0, 1, (0, 0, 0), [])) (by decide +kernel)) (by decide) ?_
                    refine q_o (mz_fe (e := (100, .lconst 0, 1, (0, 0, 0), [])) (by decide +kernel)) (pc2 := 101) (st2 := [.long 0, .int 0, .int x0, .int 13, .ref 239]) rfl ?_
                    refine q_callV (N := 182) (vs := [.ref 239, .int 13, .int x0, .int 0, .long 0]) (rest := []) (L' := [some (.ref 239), some (.int x0), some (.int x1), some (.int x2), some (.int 13)]) rfl (mz_fe (e := (101, .invokevirtual 188, 172, (182, 5, 18), [])) (by decide +kernel)) rfl (mz_inv_virt (N := 182) (k := 5) (t := 18) (st := [.long 0, .int 0, .int x0, .int 13, .ref 239]) (rest := []) (b := 239) (vs := [.int 13, .int x0, .int 0, .long 0]) (h := (mz_S0, m)) rfl rfl (Nat.le_of_ble_eq_true rfl) (Nat.le_of_ble_eq_true rfl) tg_239 (by decide)) (mz_dc_lt (n := 6) rfl (by decide +kernel) (by decide +kernel)) (by decide +kernel) (by decide +kernel) (fun m203 => ?_)
                    refine q_ic (v := 1) (mz_fe (e := (104, .iconst 1, 1, (0, 0, 0), [])) (by decide +kernel)) (by decide) ?_
                    exact q_retI (mz_fe (e := (105, .ireturn, 1, (0, 0, 0), [])) (by decide +kernel)) (by decide +kernel)
                · refine q_bi (v := 15) (mz_fe (e := (81, .bipush 15, 2, (0, 0, 0), [])) (by decide +kernel)) (by decide) ?_
                  refine q_s (mz_fe (e := (83, .istore 4, 2, (0, 0, 0), [])) (by decide +kernel)) (pc' := 85) (L' := [some (.ref 239), some (.int x0), some (.int x1), some (.int x2), some (.int 15)]) (st' := []) rfl ?_
                  refine q_o (mz_fe (e := (85, .iload_n 2, 1, (0, 0, 0), [])) (by decide +kernel)) (pc2 := 86) rfl ?_
                  refine q_bi (v := 60) (mz_fe (e := (86, .bipush 60, 2, (0, 0, 0), [])) (by decide +kernel)) (by decide) ?_
                  refine q_if (c := .ne) (off := 7) (t := 95) (x := x1) (y := 60) (st := []) (mz_fe (e := (88, .if_icmp .ne 7, 3, (0, 0, 0), [])) (by decide +kernel)) (fun _ => rfl) rfl rfl rfl (fun c206 => ?_) (fun c206 => ?_)
                  · refine q_o (mz_fe (e := (95, .aload_n 0, 1, (0, 0, 0), [])) (by decide +kernel)) (pc2 := 96) rfl ?_
                    refine q_o (mz_fe (e := (96, .iload 4, 2, (0, 0, 0), [])) (by decide +kernel)) (pc2 := 98) rfl ?_
                    refine q_o (mz_fe (e := (98, .iload_n 1, 1, (0, 0, 0), [])) (by decide +kernel)) (pc2 := 99) rfl ?_
                    refine q_ic (v := 0) (mz_fe (e := (99, .iconst 0, 1, (0, 0, 0), [])) (by decide +kernel)) (by decide) ?_
                    refine q_o (mz_fe (e := (100, .lconst 0, 1, (0, 0, 0), [])) (by decide +kernel)) (pc2 := 101) (st2 := [.long 0, .int 0, .int x0, .int 15, .ref 239]) rfl ?_
                    refine q_callV (N := 182) (vs := [.ref 239, .int 15, .int x0, .int 0, .long 0]) (rest := []) (L' := [some (.ref 239), some (.int x0), some (.int x1), some (.int x2), some (.int 15)]) rfl (mz_fe (e := (101, .invokevirtual 188, 172, (182, 5, 18), [])) (by decide +kernel)) rfl (mz_inv_virt (N := 182) (k := 5) (t := 18) (st := [.long 0, .int 0, .int x0, .int 15, .ref 239]) (rest := []) (b := 239) (vs := [.int 15, .int x0, .int 0, .long 0]) (h := (mz_S0, m)) rfl rfl (Nat.le_of_ble_eq_true rfl) (Nat.le_of_ble_eq_true rfl) tg_239 (by decide)) (mz_dc_lt (n := 6) rfl (by decide +kernel) (by decide +kernel)) (by decide +kernel) (by decide +kernel) (fun m207 => ?_)
                    refine q_ic (v := 1) (mz_fe (e := (104, .iconst 1, 1, (0, 0, 0), [])) (by decide +kernel)) (by decide) ?_
                    exact q_retI (mz_fe (e := (105, .ireturn, 1, (0, 0, 0), [])) (by decide +kernel)) (by decide +kernel)
                  · refine q_bi (v := 13) (mz_fe (e := (91, .bipush 13, 2, (0, 0, 0), [])) (by decide +kernel)) (by decide) ?_
                    refine q_s (mz_fe (e := (93, .istore 4, 2, (0, 0, 0), [])) (by decide +kernel)) (pc' := 95) (L' := [some (.ref 239), some (.int x0), some (.int x1), some (.int x2), some (.int 13)]) (st' := []) rfl ?_
                    refine q_o (mz_fe (e := (95, .aload_n 0, 1, (0, 0, 0), [])) (by decide +kernel)) (pc2 := 96) rfl ?_
                    refine q_o (mz_fe (e := (96, .iload 4, 2, (0, 0, 0), [])) (by decide +kernel)) (pc2 := 98) rfl ?_
                    refine q_o (mz_fe (e := (98, .iload_n 1, 1, (0, 0, 0), [])) (by decide +kernel)) (pc2 := 99) rfl ?_
                    refine q_ic (v := 0) (mz_fe (e := (99, .iconst 0, 1, (0, 0, 0), [])) (by decide +kernel)) (by decide) ?_
                    refine q_o (mz_fe (e := (100, .lconst 0, 1, (0, 0, 0), [])) (by decide +kernel)) (pc2 := 101) (st2 := [.long 0, .int 0, .int x0, .int 13, .ref 239]) rfl ?_
                    refine q_callV (N := 182) (vs := [.ref 239, .int 13, .int x0, .int 0, .long 0]) (rest := []) (L' := [some (.ref 239), some (.int x0), some (.int x1), some (.int x2), some (.int 13)]) rfl (mz_fe (e := (101, .invokevirtual 188, 172, (182, 5, 18), [])) (by decide +kernel)) rfl (mz_inv_virt (N := 182) (k := 5) (t := 18) (st := [.long 0, .int 0, .int x0, .int 13, .ref 239]) (rest := []) (b := 239) (vs := [.int 13, .int x0, .int 0, .long 0]) (h := (mz_S0, m)) rfl rfl (Nat.le_of_ble_eq_true rfl) (Nat.le_of_ble_eq_true rfl) tg_239 (by decide)) (mz_dc_lt (n := 6) rfl (by decide +kernel) (by decide +kernel)) (by decide +kernel) (by decide +kernel) (fun m210 => ?_)
                    refine q_ic (v := 1) (mz_fe (e := (104, .iconst 1, 1, (0, 0, 0), [])) (by decide +kernel)) (by decide) ?_
                    exact q_retI (mz_fe (e := (105, .ireturn, 1, (0, 0, 0), [])) (by decide +kernel)) (by decide +kernel)
              · refine q_bi (v := 10) (mz_fe (e := (71, .bipush 10, 2, (0, 0, 0), [])) (by decide +kernel)) (by decide) ?_
                refine q_s (mz_fe (e := (73, .istore 4, 2, (0, 0, 0), [])) (by decide +kernel)) (pc' := 75) (L' := [some (.ref 239), some (.int x0), some (.int x1), some (.int x2), some (.int 10)]) (st' := []) rfl ?_
                refine q_o (mz_fe (e := (75, .iload_n 2, 1, (0, 0, 0), [])) (by decide +kernel)) (pc2 := 76) rfl ?_
                refine q_bi (v := 47) (mz_fe (e := (76, .bipush 47, 2, (0, 0, 0), [])) (by decide +kernel)) (by decide) ?_
                refine q_if (c := .ne) (off := 7) (t := 85) (x := x1) (y := 47) (st := []) (mz_fe (e := (78, .if_icmp .ne 7, 3, (0, 0, 0), [])) (by decide +kernel)) (fun _ => rfl) rfl rfl rfl (fun c213 => ?_) (fun c213 => ?_)
                · refine q_o (mz_fe (e := (85, .iload_n 2, 1, (0, 0, 0), [])) (by decide +kernel)) (pc2 := 86) rfl ?_
                  refine q_bi (v := 60) (mz_fe (e := (86, .bipush 60, 2, (0, 0, 0), [])) (by decide +kernel)) (by decide) ?_
                  refine q_if (c := .ne) (off := 7) (t := 95) (x := x1) (y := 60) (st := []) (mz_fe (e := (88, .if_icmp .ne 7, 3, (0, 0, 0), [])) (by decide +kernel)) (fun _ => rfl) rfl rfl rfl (fun c214 => ?_) (fun c214 => ?_)
                  · refine q_o (mz_fe (e := (95, .aload_n 0, 1, (0, 0, 0), [])) (by decide +kernel)) (pc2 := 96) rfl ?_
                    refine q_o (mz_fe (e := (96, .iload 4, 2, (0, 0, 0), [])) (by decide +kernel)) (pc2 := 98) rfl ?_
                    refine q_o (mz_fe (e := (98, .iload_n 1, 1, (0, 0, 0), [])) (by decide +kernel)) (pc2 := 99) rfl ?_
                    refine q_ic (v := 0) (mz_fe (e := (99, .iconst 0, 1, (0, 0, 0), [])) (by decide +kernel)) (by decide) ?_
                    refine q_o (mz_fe (e := (100, .lconst 0, 1, (0, 0, 0), [])) (by decide +kernel)) (pc2 := 101) (st2 := [.long 0, .int 0, .int x0, .int 10, .ref 239]) rfl ?_
                    refine q_callV (N := 182) (vs := [.ref 239, .int 10, .int x0, .int 0, .long 0]) (rest := []) (L' := [some (.ref 239), some (.int x0), some (.int x1), some (.int x2), some (.int 10)]) rfl (mz_fe (e := (101, .invokevirtual 188, 172, (182, 5, 18), [])) (by decide +kernel)) rfl (mz_inv_virt (N := 182) (k := 5) (t := 18) (st := [.long 0, .int 0, .int x0, .int 10, .ref 239]) (rest := []) (b := 239) (vs := [.int 10, .int x0, .int 0, .long 0]) (h := (mz_S0, m)) rfl rfl (Nat.le_of_ble_eq_true rfl) (Nat.le_of_ble_eq_true rfl) tg_239 (by decide)) (mz_dc_lt (n := 6) rfl (by decide +kernel) (by decide +kernel)) (by decide +kernel) (by decide +kernel) (fun m215 => ?_)
                    refine q_ic (v := 1) (mz_fe (e := (104, .iconst 1, 1, (0, 0, 0), [])) (by decide +kernel)) (by decide) ?_
                    exact q_retI (mz_fe (e := (105, .ireturn, 1, (0, 0, 0), [])) (by decide +kernel)) (by decide +kernel)
                  · refine q_bi (v := 13) (mz_fe (e := (91, .bipush 13, 2, (0, 0, 0), [])) (by decide +kernel)) (by decide) ?_
                    refine q_s (mz_fe (e := (93, .istore 4, 2, (0, 0, 0), [])) (by decide +kernel)) (pc' := 95) (L' := [some (.ref 239), some (.int x0), some (.int x1), some (.int x2), some (.int 13)]) (st' := []) rfl ?_
                    refine q_o (mz_fe (e := (95, .aload_n 0, 1, (0, 0, 0), [])) (by decide +kernel)) (pc2 := 96) rfl ?_
                    refine q_o (mz_fe (e := (96, .iload 4, 2, (0, 0, 0), [])) (by decide +kernel)) (pc2 := 98) rfl ?_
                    refine q_o (mz_fe (e := (98, .iload_n 1, 1, (0, 0, 0), [])) (by decide +kernel)) (pc2 := 99) rfl ?_
                    refine q_ic (v := 0) (mz_fe (e := (99, .iconst 0, 1, (0, 0, 0), [])) (by decide +kernel)) (by decide) ?_
                    refine q_o (mz_fe (e := (100, .lconst 0, 1, (0, 0, 0), [])) (by decide +kernel)) (pc2 := 101) (st2 := [.long 0, .int 0, .int x0, .int 13, .ref 239]) rfl ?_
                    refine q_callV (N := 182) (vs := [.ref 239, .int 13, .int x0, .int 0, .long 0]) (rest := []) (L' := [some (.ref 239), some (.int x0), some (.int x1), some (.int x2), some (.int 13)]) rfl (mz_fe (e := (101, .invokevirtual 188, 172, (182, 5, 18), [])) (by decide +kernel)) rfl (mz_inv_virt (N := 182) (k := 5) (t := 18) (st := [.long 0, .int 0, .int x0, .int 13, .ref 239]) (rest := []) (b := 239) (vs := [.int 13, .int x0, .int 0, .long 0]) (h := (mz_S0, m)) rfl rfl (Nat.le_of_ble_eq_true rfl) (Nat.le_of_ble_eq_true rfl) tg_239 (by decide)) (mz_dc_lt (n := 6) rfl (by decide +kernel) (by decide +kernel)) (by decide +kernel) (by decide +kernel) (fun m218 => ?_)
                    refine q_ic (v := 1) (mz_fe (e := (104, .iconst 1, 1, (0, 0, 0), [])) (by decide +kernel)) (by decide) ?_
                    exact q_retI (mz_fe (e := (105, .ireturn, 1, (0, 0, 0), [])) (by decide +kernel)) (by decide +kernel)
                · refine q_bi (v := 15) (mz_fe (e := (81, .bipush 15, 2, (0, 0, 0), [])) (by decide +kernel)) (by decide) ?_
                  refine q_s (mz_fe (e := (83, .istore 4, 2, (0, 0, 0), [])) (by decide +kernel)) (pc' := 85) (L' := [some (.ref 239), some (.int x0), some (.int x1), some (.int x2), some (.int 15)]) (st' := []) rfl ?_
                  refine q_o (mz_fe (e := (85, .iload_n 2, 1, (0, 0, 0), [])) (by decide +kernel)) (pc2 := 86) rfl ?_
                  refine q_bi (v := 60) (mz_fe (e := (86, .bipush 60, 2, (0, 0, 0), [])) (by decide +kernel)) (by decide) ?_
                  refine q_if (c := .ne) (off := 7) (t := 95) (x := x1) (y := 60) (st := []) (mz_fe (e := (88, .if_icmp .ne 7, 3, (0, 0, 0), [])) (by decide +kernel)) (fun _ => rfl) rfl rfl rfl (fun c221 => ?_) (fun c221 => ?_)
                  · refine q_o (mz_fe (e := (95, .aload_n 0, 1, (0, 0, 0), [])) (by decide +kernel)) (pc2 := 96) rfl ?_
                    refine q_o (mz_fe (e := (96, .iload 4, 2, (0, 0, 0), [])) (by decide +kernel)) (pc2 := 98) rfl ?_
                    refine q_o (mz_fe (e := (98, .iload_n 1, 1, (0, 0, 0), [])) (by decide +kernel)) (pc2 := 99) rfl ?_
                    refine q_ic (v := 0) (mz_fe (e := (99, .iconst 0, 1, (0, 0, 0), [])) (by decide +kernel)) (by decide) ?_
                    refine q_o (mz_fe (e := (100, .lconst 0, 1, (0, 0, 0), [])) (by decide +kernel)) (pc2 := 101) (st2 := [.long 0, .int 0, .int x0, .int 15, .ref 239]) rfl ?_
                    refine q_callV (N := 182) (vs := [.ref 239, .int 15, .int x0, .int 0, .long 0]) (rest := []) (L' := [some (.ref 239), some (.int x0), some (.int x1), some (.int x2), some (.int 15)]) rfl (mz_fe (e := (101, .invokevirtual 188, 172, (182, 5, 18), [])) (by decide +kernel)) rfl (mz_inv_virt (N := 182) (k := 5) (t := 18) (st := [.long 0, .int 0, .int x0, .int 15, .ref 239]) (rest := []) (b := 239) (vs := [.int 15, .int x0, .int 0, .long 0]) (h := (mz_S0, m)) rfl rfl (Nat.le_of_ble_eq_true rfl) (Nat.le_of_ble_eq_true rfl) tg_239 (by decide)) (mz_dc_lt (n := 6) rfl (by decide +kernel) (by decide +kernel)) (by decide +kernel) (by decide +kernel) (fun m222 => ?_)
                    refine q_ic (v := 1) (mz_fe (e := (104, .iconst 1, 1, (0, 0, 0), [])) (by decide +kernel)) (by decide) ?_
                    exact q_retI (mz_fe (e := (105, .ireturn, 1, (0, 0, 0), [])) (by decide +kernel)) (by decide +kernel)
                  · refine q_bi (v := 13) (mz_fe (e := (91, .bipush 13, 2, (0, 0, 0), [])) (by decide +kernel)) (by decide) ?_
                    refine q_s (mz_fe (e := (93, .istore 4, 2, (0, 0, 0), [])) (by decide +kernel)) (pc' := 95) (L' := [some (.ref 239), some (.int x0), some (.int x1), some (.int x2), some (.int 13)]) (st' := []) rfl ?_
                    refine q_o (mz_fe (e := (95, .aload_n 0, 1, (0, 0, 0), [])) (by decide +kernel)) (pc2 := 96) rfl ?_
                    refine q_o (mz_fe (e := (96, .iload 4, 2, (0, 0, 0), [])) (by decide +kernel)) (pc2 := 98) rfl ?_
                    refine q_o (mz_fe (e := (98, .iload_n 1, 1, (0, 0, 0), [])) (by decide +kernel)) (pc2 := 99) rfl ?_
                    refine q_ic (v := 0) (mz_fe (e := (99, .iconst 0, 1, (0, 0, 0), [])) (by decide +kernel)) (by decide) ?_
                    refine q_o (mz_fe (e := (100, .lconst 0, 1, (0, 0, 0), [])) (by decide +kernel)) (pc2 := 101) (st2 := [.long 0, .int 0, .int x0, .int 13, .ref 239]) rfl ?_
                    refine q_callV (N := 182) (vs := [.ref 239, .int 13, .int x0, .int 0, .long 0]) (rest := []) (L' := [some (.ref 239), some (.int x0), some (.int x1), some (.int x2), some (.int 13)]) rfl (mz_fe (e := (101, .invokevirtual 188, 172, (182, 5, 18), [])) (by decide +kernel)) rfl (mz_inv_virt (N := 182) (k := 5) (t := 18) (st := [.long 0, .int 0, .int x0, .int 13, .ref 239]) (rest := []) (b := 239) (vs := [.int 13, .int x0, .int 0, .long 0]) (h := (mz_S0, m)) rfl rfl (Nat.le_of_ble_eq_true rfl) (Nat.le_of_ble_eq_true rfl) tg_239 (by decide)) (mz_dc_lt (n := 6) rfl (by decide +kernel) (by decide +kernel)) (by decide +kernel) (by decide +kernel) (fun m225 => ?_)
                    refine q_ic (v := 1) (mz_fe (e := (104, .iconst 1, 1, (0, 0, 0), [])) (by decide +kernel)) (by decide) ?_
                    exact q_retI (mz_fe (e := (105, .ireturn, 1, (0, 0, 0), [])) (by decide +kernel)) (by decide +kernel)
            · refine q_bi (v := 9) (mz_fe (e := (61, .bipush 9, 2, (0, 0, 0), [])) (by decide +kernel)) (by decide) ?_
              refine q_s (mz_fe (e := (63, .istore 4, 2, (0, 0, 0), [])) (by decide +kernel)) (pc' := 65) (L' := [some (.ref 239), some (.int x0), some (.int x1), some (.int x2), some (.int 9)]) (st' := []) rfl ?_
              refine q_o (mz_fe (e := (65, .iload_n 2, 1, (0, 0, 0), [])) (by decide +kernel)) (pc2 := 66) rfl ?_
              refine q_bi (v := 42) (mz_fe (e := (66, .bipush 42, 2, (0, 0, 0), [])) (by decide +kernel)) (by decide) ?_
              refine q_if (c := .ne) (off := 7) (t := 75) (x := x1) (y := 42) (st := []) (mz_fe (e := (68, .if_icmp .ne 7, 3, (0, 0, 0), [])) (by decide +kernel)) (fun _ => rfl) rfl rfl rfl (fun c228 => ?_) (fun c228 => ?_)
              · refine q_o (mz_fe (e := (75, .iload_n 2, 1, (0, 0, 0), [])) (by decide +kernel)) (pc2 := 76) rfl ?_
                refine q_bi (v := 47) (mz_fe (e := (76, .bipush 47, 2, (0, 0, 0), [])) (by decide +kernel)) (by decide) ?_
                refine q_if (c := .ne) (off := 7) (t := 85) (x := x1) (y := 47) (st := []) (mz_fe (e := (78, .if_icmp .ne 7, 3, (0, 0, 0), [])) (by decide +kernel)) (fun _ => rfl) rfl rfl rfl (fun c229 => ?_) (fun c229 => ?_)
                · refine q_o (mz_fe (e := (85, .iload_n 2, 1, (0, 0, 0), [])) (by decide +kernel)) (pc2 := 86) rfl ?_
                  refine q_bi (v := 60) (mz_fe (e := (86, .bipush 60, 2, (0, 0, 0), [])) (by decide +kernel)) (by decide) ?_
                  refine q_if (c := .ne) (off := 7) (t := 95) (x := x1) (y := 60) (st := []) (mz_fe (e := (88, .if_icmp .ne 7, 3, (0, 0, 0), [])) (by decide +kernel)) (fun _ => rfl) rfl rfl rfl (fun c230 => ?_) (fun c230 => ?_)
                  · refine q_o (mz_fe (e := (95, .aload_n 0, 1, (0, 0, 0), [])) (by decide +kernel)) (pc2 := 96) rfl ?_
                    refine q_o (mz_fe (e := (96, .iload 4, 2, (0, 0, 0), [])) (by decide +kernel)) (pc2 := 98) rfl ?_
                    refine q_o (mz_fe (e := (98, .iload_n 1, 1, (0, 0, 0), [])) (by decide +kernel)) (pc2 := 99) rfl ?_
                    refine q_ic (v := 0) (mz_fe (e := (99, .iconst 0, 1, (0, 0, 0), [])) (by decide +kernel)) (by decide) ?_
                    refine q_o (mz_fe (e := (100, .lconst 0, 1, (0, 0, 0), [])) (by decide +kernel)) (pc2 := 101) (st2 := [.long 0, .int 0, .int x0, .int 9, .ref 239]) rfl ?_
                    refine q_callV (N := 182) (vs := [.ref 239, .int 9, .int x0, .int 0, .long 0]) (rest := []) (L' := [some (.ref 239), some (.int x0), some (.int x1), some (.int x2), some (.int 9)]) rfl (mz_fe (e := (101, .invokevirtual 188, 172, (182, 5, 18), [])) (by decide +kernel)) rfl (mz_inv_virt (N := 182) (k := 5) (t := 18) (st := [.long 0, .int 0, .int x0, .int 9, .ref 239]) (rest := []) (b := 239) (vs := [.int 9, .int x0, .int 0, .long 0]) (h := (mz_S0, m)) rfl rfl (Nat.le_of_ble_eq_true rfl) (Nat.le_of_ble_eq_true rfl) tg_239 (by decide)) (mz_dc_lt (n := 6) rfl (by decide +kernel) (by decide +kernel)) (by decide +kernel) (by decide +kernel) (fun m231 => ?_)
                    refine q_ic (v := 1) (mz_fe (e := (104, .iconst 1, 1, (0, 0, 0), [])) (by decide +kernel)) (by decide) ?_
                    exact q_retI (mz_fe (e := (105, .ireturn, 1, (0, 0, 0), [])) (by decide +kernel)) (by decide +kernel)
                  · refine q_bi (v := 13) (mz_fe (e := (91, .bipush 13, 2, (0, 0, 0), [])) (by decide +kernel)) (by decide) ?_
                    refine q_s (mz_fe (e := (93, .istore 4, 2, (0, 0, 0), [])) (by decide +kernel)) (pc' := 95) (L' := [some (.ref 239), some (.int x0), some (.int x1), some (.int x2), some (.int 13)]) (st' := []) rfl ?_
                    refine q_o (mz_fe (e := (95, .aload_n 0, 1, (0, 0, 0), [])) (by decide +kernel)) (pc2 := 96) rfl ?_
                    refine q_o (mz_fe (e := (96, .iload 4, 2, (0, 0, 0), [])) (by decide +kernel)) (pc2 := 98) rfl ?_
                    refine q_o (mz_fe (e := (98, .iload_n 1, 1, (0, 0, 0), [])) (by decide +kernel)) (pc2 := 99) rfl ?_
                    refine q_ic (v := 0) (mz_fe (e := (99, .iconst 0, 1, (0, 0, 0), [])) (by decide +kernel)) (by decide) ?_
                    refine q_o (mz_fe (e := (100, .lconst 0, 1, (0, 0, 0), [])) (by decide +kernel)) (pc2 := 101) (st2 := [.long 0, .int 0, .int x0, .int 13, .ref 239]) rfl ?_
                    refine q_callV (N := 182) (vs := [.ref 239, .int 13, .int x0, .int 0, .long 0]) (rest := []) (L' := [some (.ref 239), some (.int x0), some (.int x1), some (.int x2), some (.int 13)]) rfl (mz_fe (e := (101, .invokevirtual 188, 172, (182, 5, 18), [])) (by decide +kernel)) rfl (mz_inv_virt (N := 182) (k := 5) (t := 18) (st := [.long 0, .int 0, .int x0, .int 13, .ref 239]) (rest := []) (b := 239) (vs := [.int 13, .int x0, .int 0, .long 0]) (h := (mz_S0, m)) rfl rfl (Nat.le_of_ble_eq_true rfl) (Nat.le_of_ble_eq_true rfl) tg_239 (by decide)) (mz_dc_lt (n := 6) rfl (by decide +kernel) (by decide +kernel)) (by decide +kernel) (by decide +kernel) (fun m234 => ?_)
                    refine q_ic (v := 1) (mz_fe (e := (104, .iconst 1, 1, (0, 0, 0), [])) (by decide +kernel)) (by decide) ?_
                    exact q_retI (mz_fe (e := (105, .ireturn, 1, (0, 0, 0), [])) (by decide +kernel)) (by decide +kernel)
                · refine q_bi (v := 15) (mz_fe (e := (81, .bipush 15, 2, (0, 0, 0), [])) (by decide +kernel)) (by decide) ?_
                  refine q_s (mz_fe (e := (83, .istore 4, 2, (0, 0, 0), [])) (by decide +kernel)) (pc' := 85) (L' := [some (.ref 239), some (.int x0), some (.int x1), some (.int x2), some (.int 15)]) (st' := []) rfl ?_
                  refine q_o (mz_fe (e := (85, .iload_n 2, 1, (0, 0, 0), [])) (by decide +kernel)) (pc2 := 86) rfl ?_
                  refine q_bi (v := 60) (mz_fe (e := (86, .bipush 60, 2, (0, 0, 0), [])) (by decide +kernel)) (by decide) ?_
                  refine q_if (c := .ne) (off := 7) (t := 95) (x := x1) (y := 60) (st := []) (mz_fe (e := (88, .if_icmp .ne 7, 3, (0, 0, 0), [])) (by decide +kernel)) (fun _ => rfl) rfl rfl rfl (fun c237 => ?_) (fun c237 => ?_)
                  · refine q_o (mz_fe (e := (95, .aload_n 0, 1, (0, 0, 0), [])) (by decide +kernel)) (pc2 := 96) rfl ?_
                    refine q_o (mz_fe (e := (96, .iload 4, 2, (0, 0, 0), [])) (by decide +kernel)) (pc2 := 98) rfl ?_
                    refine q_o (mz_fe (e := (98, .iload_n 1, 1, (0, 0, 0), [])) (by decide +kernel)) (pc2 := 99) rfl ?_
                    refine q_ic (v := 0) (mz_fe (e := (99, .iconst 0, 1, (0, 0, 0), [])) (by decide +kernel)) (by decide) ?_
                    refine q_o (mz_fe (e := (100, .lconst 0, 1, (0, 0, 0), [])) (by decide +kernel)) (pc2 := 101) (st2 := [.long 0, .int 0, .int x0, .int 15, .ref 239]) rfl ?_
                    refine q_callV (N := 182) (vs := [.ref 239, .int 15, .int x0, .int 0, .long 0]) (rest := []) (L' := [some (.ref 239), some (.int x0), some (.int x1), some (.int x2), some (.int 15)]) rfl (mz_fe (e := (101, .invokevirtual 188, 172, (182, 5, 18), [])) (by decide +kernel)) rfl (mz_inv_virt (N := 182) (k := 5) (t := 18) (st := [.long 0, .int 0, .int x0, .int 15, .ref 239]) (rest := []) (b := 239) (vs := [.int 15, .int x0, .int 0, .long 0]) (h := (mz_S0, m)) rfl rfl (Nat.le_of_ble_eq_true rfl) (Nat.le_of_ble_eq_true rfl) tg_239 (by decide)) (mz_dc_lt (n := 6) rfl (by decide +kernel) (by decide +kernel)) (by decide +kernel) (by decide +kernel) (fun m238 => ?_)
                    refine q_ic (v := 1) (mz_fe (e := (104, .iconst 1, 1, (0, 0, 0), [])) (by decide +kernel)) (by decide) ?_
                    exact q_retI (mz_fe (e := (105, .ireturn, 1, (0, 0, 0), [])) (by decide +kernel)) (by decide +kernel)
                  · refine q_bi (v := 13) (mz_fe (e := (91, .bipush 13, 2, (0, 0, 0), [])) (by decide +kernel)) (by decide) ?_
                    refine q_s (mz_fe (e := (93, .istore 4, 2, (0, 0, 0), [])) (by decide +kernel)) (pc' := 95) (L' := [some (.ref 239), some (.int x0), some (.int x1), some (.int x2), some (.int 13)]) (st' := []) rfl ?_
                    refine q_o (mz_fe (e := (95, .aload_n 0, 1, (0, 0, 0), [])) (by decide +kernel)) (pc2 := 96) rfl ?_
                    refine q_o (mz_fe (e := (96, .iload 4, 2, (0, 0, 0), [])) (by decide +kernel)) (pc2 := 98) rfl ?_
                    refine q_o (mz_fe (e := (98, .iload_n 1, 1, (0, 0, 0), [])) (by decide +kernel)) (pc2 := 99) rfl ?_
                    refine q_ic (v := 0) (mz_fe (e := (99, .iconst 0, 1, (0, 0, 0), [])) (by decide +kernel)) (by decide) ?_
                    refine q_o (mz_fe (e := (100, .lconst 0, 1, (0, 0, 0), [])) (by decide +kernel)) (pc2 := 101) (st2 := [.long 0, .int 0, .int x0, .int 13, .ref 239]) rfl ?_
                    refine q_callV (N := 182) (vs := [.ref 239, .int 13, .int x0, .int 0, .long 0]) (rest := []) (L' := [some (.ref 239), some (.int x0), some (.int x1), some (.int x2), some (.int 13)]) rfl (mz_fe (e := (101, .invokevirtual 188, 172, (182, 5, 18), [])) (by decide +kernel)) rfl (mz_inv_virt (N := 182) (k := 5) (t := 18) (st := [.long 0, .int 0, .int x0, .int 13, .ref 239]) (rest := []) (b := 239) (vs := [.int 13, .int x0, .int 0, .long 0]) (h := (mz_S0, m)) rfl rfl (Nat.le_of_ble_eq_true rfl) (Nat.le_of_ble_eq_true rfl) tg_239 (by decide)) (mz_dc_lt (n := 6) rfl (by decide +kernel) (by decide +kernel)) (by decide +kernel) (by decide +kernel) (fun m241 => ?_)
                    refine q_ic (v := 1) (mz_fe (e := (104, .iconst 1, 1, (0, 0, 0), [])) (by decide +kernel)) (by decide) ?_
                    exact q_retI (mz_fe (e := (105, .ireturn, 1, (0, 0, 0), [])) (by decide +kernel)) (by decide +kernel)
              · refine q_bi (v := 10) (mz_fe (e := (71, .bipush 10, 2, (0, 0, 0), [])) (by decide +kernel)) (by decide) ?_
                refine q_s (mz_fe (e := (73, .istore 4, 2, (0, 0, 0), [])) (by decide +kernel)) (pc' := 75) (L' := [some (.ref 239), some (.int x0), some (.int x1), some (.int x2), some (.int 10)]) (st' := []) rfl ?_
                refine q_o (mz_fe (e := (75, .iload_n 2, 1, (0, 0, 0), [])) (by decide +kernel)) (pc2 := 76) rfl ?_
                refine q_bi (v := 47) (mz_fe (e := (76, .bipush 47, 2, (0, 0, 0), [])) (by decide +kernel)) (by decide) ?_
                refine q_if (c := .ne) (off := 7) (t := 85) (x := x1) (y := 47) (st := []) (mz_fe (e := (78, .if_icmp .ne 7, 3, (0, 0, 0), [])) (by decide +kernel)) (fun _ => rfl) rfl rfl rfl (fun c244 => ?_) (fun c244 => ?_)
                · refine q_o (mz_fe (e := (85, .iload_n 2, 1, (0, 0, 0), [])) (by decide +kernel)) (pc2 := 86) rfl ?_
                  refine q_bi (v := 60) (mz_fe (e := (86, .bipush 60, 2, (0, 0, 0), [])) (by decide +kernel)) (by decide) ?_
                  refine q_if (c := .ne) (off := 7) (t := 95) (x := x1) (y := 60) (st := []) (mz_fe (e := (88, .if_icmp .ne 7, 3, (0, 0, 0), [])) (by decide +kernel)) (fun _ => rfl) rfl rfl rfl (fun c245 => ?_) (fun c245 => ?_)
                  · refine q_o (mz_fe (e := (95, .aload_n 0, 1, (0, 0, 0), [])) (by decide +kernel)) (pc2 := 96) rfl ?_
                    refine q_o (mz_fe (e := (96, .iload 4, 2, (0, 0, 0), [])) (by decide +kernel)) (pc2 := 98) rfl ?_
                    refine q_o (mz_fe (e := (98, .iload_n 1, 1, (0, 0, 0), [])) (by decide +kernel)) (pc2 := 99) rfl ?_
                    refine q_ic (v := 0) (mz_fe (e := (99, .iconst 0, 1, (0, 0, 0), [])) (by decide +kernel)) (by decide) ?_
                    refine q_o (mz_fe (e := (100, .lconst 0, 1, (0, 0, 0), [])) (by decide +kernel)) (pc2 := 101) (st2 := [.long 0, .int 0, .int x0, .int 10, .ref 239]) rfl ?_
                    refine q_callV (N := 182) (vs := [.ref 239, .int 10, .int x0, .int 0, .long 0]) (rest := []) (L' := [some (.ref 239), some (.int x0), some (.int x1), some (.int x2), some (.int 10)]) rfl (mz_fe (e := (101, .invokevirtual 188, 172, (182, 5, 18), [])) (by decide +kernel)) rfl (mz_inv_virt (N := 182) (k := 5) (t := 18) (st := [.long 0, .int 0, .int x0, .int 10, .ref 239]) (rest := []) (b := 239) (vs := [.int 10, .int x0, .int 0, .long 0]) (h := (mz_S0, m)) rfl rfl (Nat.le_of_ble_eq_true rfl) (Nat.le_of_ble_eq_true rfl) tg_239 (by decide)) (mz_dc_lt (n := 6) rfl (by decide +kernel) (by decide +kernel)) (by decide +kernel) (by decide +kernel) (fun m246 => ?_)
                    refine q_ic (v := 1) (mz_fe (e := (104, .iconst 1, 1, (0, 0, 0), [])) (by decide +kernel)) (by decide) ?_
                    exact q_retI (mz_fe (e := (105, .ireturn, 1, (0, 0, 0), [])) (by decide +kernel)) (by decide +kernel)
                  · refine q_bi (v := 13) (mz_fe (e := (91, .bipush 13, 2, (0, 0, 0), [])) (by decide +kernel)) (by decide) ?_
                    refine q_s (mz_fe (e := (93, .istore 4, 2, (0, 0, 0), [])) (by decide +kernel)) (pc' := 95) (L' := [some (.ref 239), some (.int x0), some (.int x1), some (.int x2), some (.int 13)]) (st' := []) rfl ?_
                    refine q_o (mz_fe (e := (95, .aload_n 0, 1, (0, 0, 0), [])) (by decide +kernel)) (pc2 := 96) rfl ?_
                    refine q_o (mz_fe (e := (96, .iload 4, 2, (0, 0, 0), [])) (by decide +kernel)) (pc2 := 98) rfl ?_
                    refine q_o (mz_fe (e := (98, .iload_n 1, 1, (0, 0, 0), [])) (by decide +kernel)) (pc2 := 99) rfl ?_
                    refine q_ic (v := 0) (mz_fe (e := (99, .iconst 0, 1, (0, 0, 0), [])) (by decide +kernel)) (by decide) ?_
                    refine q_o (mz_fe (e := (100, .lconst 0, 1, (0, 0, 0), [])) (by decide +kernel)) (pc2 := 101) (st2 := [.long 0, .int 0, .int x0, .int 13, .ref 239]) rfl ?_
                    refine q_callV (N := 182) (vs := [.ref 239, .int 13, .int x0, .int 0, .long 0]) (rest := []) (L' := [some (.ref 239), some (.int x0), some (.int x1), some (.int x2), some (.int 13)]) rfl (mz_fe (e := (101, .invokevirtual 188, 172, (182, 5, 18), [])) (by decide +kernel)) rfl (mz_inv_virt (N := 182) (k := 5) (t := 18) (st := [.long 0, .int 0, .int x0, .int 13, .ref 239]) (rest := []) (b := 239) (vs := [.int 13, .int x0, .int 0, .long 0]) (h := (mz_S0, m)) rfl rfl (Nat.le_of_ble_eq_true rfl) (Nat.le_of_ble_eq_true rfl) tg_239 (by decide)) (mz_dc_lt (n := 6) rfl (by decide +kernel) (by decide +kernel)) (by decide +kernel) (by decide +kernel) (fun m249 => ?_)
                    refine q_ic (v := 1) (mz_fe (e := (104, .iconst 1, 1, (0, 0, 0), [])) (by decide +kernel)) (by decide) ?_
                    exact q_retI (mz_fe (e := (105, .ireturn, 1, (0, 0, 0), [])) (by decide +kernel)) (by decide +kernel)
                · refine q_bi (v := 15) (mz_fe (e := (81, .bipush 15, 2, (0, 0, 0), [])) (by decide +kernel)) (by decide) ?_
                  refine q_s (mz_fe (e := (83, .istore 4, 2, (0, 0, 0), [])) (by decide +kernel)) (pc' := 85) (L' := [some (.ref 239), some (.int x0), some (.int x1), some (.int x2), some (.int 15)]) (st' := []) rfl ?_
                  refine q_o (mz_fe (e := (85, .iload_n 2, 1, (0, 0, 0), [])) (by decide +kernel)) (pc2 := 86) rfl ?_
                  refine q_bi (v := 60) (mz_fe (e := (86, .bipush 60, 2, (0, 0, 0), [])) (by decide +kernel)) (by decide) ?_
                  refine q_if (c := .ne) (off := 7) (t := 95) (x := x1) (y := 60) (st := []) (mz_fe (e := (88, .if_icmp .ne 7, 3, (0, 0, 0), [])) (by decide +kernel)) (fun _ => rfl) rfl rfl rfl (fun c252 => ?_) (fun c252 => ?_)
                  · refine q_o (mz_fe (e := (95, .aload_n 0, 1, (0, 0, 0), [])) (by decide +kernel)) (pc2 := 96) rfl ?_
                    refine q_o (mz_fe (e := (96, .iload 4, 2, (0, 0, 0), [])) (by decide +kernel)) (pc2 := 98) rfl ?_
                    refine q_o (mz_fe (e := (98, .iload_n 1, 1, (0, 0, 0), [])) (by decide +kernel)) (pc2 := 99) rfl ?_
                    refine q_ic (v := 0) (mz_fe (e := (99, .iconst 0, 1, (0, 0, 0), [])) (by decide +kernel)) (by decide) ?_
                    refine q_o (mz_fe (e := (100, .lconst 0, 1, (0, 0, 0), [])) (by decide +kernel)) (pc2 := 101) (st2 := [.long 0, .int 0, .int x0, .int 15, .ref 239]) rfl ?_
                    refine q_callV (N := 182) (vs := [.ref 239, .int 15, .int x0, .int 0, .long 0]) (rest := []) (L' := [some (.ref 239), some (.int x0), some (.int x1), some (.int x2), some (.int 15)]) rfl (mz_fe (e := (101, .invokevirtual 188, 172, (182, 5, 18), [])) (by decide +kernel)) rfl (mz_inv_virt (N := 182) (k := 5) (t := 18) (st := [.long 0, .int 0, .int x0, .int 15, .ref 239]) (rest := []) (b := 239) (vs := [.int 15, .int x0, .int 0, .long 0]) (h := (mz_S0, m)) rfl rfl (Nat.le_of_ble_eq_true rfl) (Nat.le_of_ble_eq_true rfl) tg_239 (by decide)) (mz_dc_lt (n := 6) rfl (by decide +kernel) (by decide +kernel)) (by decide +kernel) (by decide +kernel) (fun m253 => ?_)
                    refine q_ic (v := 1) (mz_fe (e := (104, .iconst 1, 1, (0, 0, 0), [])) (by decide +kernel)) (by decide) ?_
                    exact q_retI (mz_fe (e := (105, .ireturn, 1, (0, 0, 0), [])) (by decide +kernel)) (by decide +kernel)
                  · refine q_bi (v := 13) (mz_fe (e := (91, .bipush 13, 2, (0, 0, 0), [])) (by decide +kernel)) (by decide) ?_
                    refine q_s (mz_fe (e := (93, .istore 4, 2, (0, 0, 0), [])) (by decide +kernel)) (pc' := 95) (L' := [some (.ref 239), some (.int x0), some (.int x1), some (.int x2), some (.int 13)]) (st' := []) rfl ?_
                    refine q_o (mz_fe (e := (95, .aload_n 0, 1, (0, 0, 0), [])) (by decide +kernel)) (pc2 := 96) rfl ?_
                    refine q_o (mz_fe (e := (96, .iload 4, 2, (0, 0, 0), [])) (by decide +kernel)) (pc2 := 98) rfl ?_
                    refine q_o (mz_fe (e := (98, .iload_n 1, 1, (0, 0, 0), [])) (by decide +kernel)) (pc2 := 99) rfl ?_
                    refine q_ic (v := 0) (mz_fe (e := (99, .iconst 0, 1, (0, 0, 0), [])) (by decide +kernel)) (by decide) ?_
                    refine q_o (mz_fe (e := (100, .lconst 0, 1, (0, 0, 0), [])) (by decide +kernel)) (pc2 := 101) (st2 := [.long 0, .int 0, .int x0, .int 13, .ref 239]) rfl ?_
                    refine q_callV (N := 182) (vs := [.ref 239, .int 13, .int x0, .int 0, .long 0]) (rest := []) (L' := [some (.ref 239), some (.int x0), some (.int x1), some (.int x2), some (.int 13)]) rfl (mz_fe (e := (101, .invokevirtual 188, 172, (182, 5, 18), [])) (by decide +kernel)) rfl (mz_inv_virt (N := 182) (k := 5) (t := 18) (st := [.long 0, .int 0, .int x0, .int 13, .ref 239]) (rest := []) (b := 239) (vs := [.int 13, .int x0, .int 0, .long 0]) (h := (mz_S0, m)) rfl rfl (Nat.le_of_ble_eq_true rfl) (Nat.le_of_ble_eq_true rfl) tg_239 (by decide)) (mz_dc_lt (n := 6) rfl (by decide +kernel) (by decide +kernel)) (by decide +kernel) (by decide +kernel) (fun m256 => ?_)
                    refine q_ic (v := 1) (mz_fe (e := (104, .iconst 1, 1, (0, 0, 0), [])) (by decide +kernel)) (by decide) ?_
                    exact q_retI (mz_fe (e := (105, .ireturn, 1, (0, 0, 0), [])) (by decide +kernel)) (by decide +kernel)
      · refine q_bi (v := 6) (mz_fe (e := (26, .bipush 6, 2, (0, 0, 0), [])) (by decide +kernel)) (by decide) ?_
        refine q_o (mz_fe (e := (28, .goto 15, 3, (0, 0, 0), [])) (by decide +kernel)) (pc2 := 43) rfl ?_
        refine q_s (mz_fe (e := (43, .istore 4, 2, (0, 0, 0), [])) (by decide +kernel)) (pc' := 45) (L' := [some (.ref 239), some (.int x0), some (.int x1), some (.int x2), some (.int 6)]) (st' := []) rfl ?_
        refine q_o (mz_fe (e := (45, .iload_n 2, 1, (0, 0, 0), [])) (by decide +kernel)) (pc2 := 46) rfl ?_
        refine q_bi (v := 43) (mz_fe (e := (46, .bipush 43, 2, (0, 0, 0), [])) (by decide +kernel)) (by decide) ?_
        refine q_if (c := .ne) (off := 7) (t := 55) (x := x1) (y := 43) (st := []) (mz_fe (e := (48, .if_icmp .ne 7, 3, (0, 0, 0), [])) (by decide +kernel)) (fun _ => rfl) rfl rfl rfl (fun c259 => ?_) (fun c259 => ?_)
        · refine q_o (mz_fe (e := (55, .iload_n 2, 1, (0, 0, 0), [])) (by decide +kernel)) (pc2 := 56) rfl ?_
          refine q_bi (v := 45) (mz_fe (e := (56, .bipush 45, 2, (0, 0, 0), [])) (by decide +kernel)) (by decide) ?_
          refine q_if (c := .ne) (off := 7) (t := 65) (x := x1) (y := 45) (st := []) (mz_fe (e := (58, .if_icmp .ne 7, 3, (0, 0, 0), [])) (by decide +kernel)) (fun _ => rfl) rfl rfl rfl (fun c260 => ?_) (fun c260 => ?_)
          · refine q_o (mz_fe (e := (65, .iload_n 2, 1, (0, 0, 0), [])) (by decide +kernel)) (pc2 := 66) rfl ?_
            refine q_bi (v := 42) (mz_fe (e := (66, .bipush 42, 2, (0, 0, 0), [])) (by decide +kernel)) (by decide) ?_
            refine q_if (c := .ne) (off := 7) (t := 75) (x := x1) (y := 42) (st := []) (mz_fe (e := (68, .if_icmp .ne 7, 3, (0, 0, 0), [])) (by decide +kernel)) (fun _ => rfl) rfl rfl rfl (fun c261 => ?_) (fun c261 => ?_)
            · refine q_o (mz_fe (e := (75, .iload_n 2, 1, (0, 0, 0), [])) (by decide +kernel)) (pc2 := 76) rfl ?_
              refine q_bi (v := 47) (mz_fe (e := (76, .bipush 47, 2, (0, 0, 0), [])) (by decide +kernel)) (by decide) ?_
              refine q_if (c := .ne) (off := 7) (t := 85) (x := x1) (y := 47) (st := []) (mz_fe (e := (78, .if_icmp .ne 7, 3, (0, 0, 0), [])) (by decide +kernel)) (fun _ => rfl) rfl rfl rfl (fun c262 => ?_) (fun c262 => ?_)
              · refine q_o (mz_fe (e := (85, .iload_n 2, 1, (0, 0, 0), [])) (by decide +kernel)) (pc2 := 86) rfl ?_
                refine q_bi (v := 60) (mz_fe (e := (86, .bipush 60, 2, (0, 0, 0), [])) (by decide +kernel)) (by decide) ?_
                refine q_if (c := .ne) (off := 7) (t := 95) (x := x1) (y := 60) (st := []) (mz_fe (e := (88, .if_icmp .ne 7, 3, (0, 0, 0), [])) (by decide +kernel)) (fun _ => rfl) rfl rfl rfl (fun c263 => ?_) (fun c263 => ?_)
                · refine q_o (mz_fe (e := (95, .aload_n 0, 1, (0, 0, 0), [])) (by decide +kernel)) (pc2 := 96) rfl ?_
                  refine q_o (mz_fe (e := (96, .iload 4, 2, (0, 0, 0), [])) (by decide +kernel)) (pc2 := 98) rfl ?_
                  refine q_o (mz_fe (e := (98, .iload_n 1, 1, (0, 0, 0), [])) (by decide +kernel)) (pc2 := 99) rfl ?_
                  refine q_ic (v := 0) (mz_fe (e := (99, .iconst 0, 1, (0, 0, 0), [])) (by decide +kernel)) (by decide) ?_
                  refine q_o (mz_fe (e := (100, .lconst 0, 1, (0, 0, 0), [])) (by decide +kernel)) (pc2 := 101) (st2 := [.long 0, .int 0, .int x0, .int 6, .ref 239]) rfl ?_
                  refine q_callV (N := 182) (vs := [.ref 239, .int 6, .int x0, .int 0, .long 0]) (rest := []) (L' := [some (.ref 239), some (.int x0), some (.int x1), some (.int x2), some (.int 6)]) rfl (mz_fe (e := (101, .invokevirtual 188, 172, (182, 5, 18), [])) (by decide +kernel)) rfl (mz_inv_virt (N := 182) (k := 5) (t := 18) (st := [.long 0, .int 0, .int x0, .int 6, .ref 239]) (rest := []) (b := 239) (vs := [.int 6, .int x0, .int 0, .long 0]) (h := (mz_S0, m)) rfl rfl (Nat.le_of_ble_eq_true rfl) (Nat.le_of_ble_eq_true rfl) tg_239 (by decide)) (mz_dc_lt (n := 6) rfl (by decide +kernel) (by decide +kernel)) (by decide +kernel) (by decide +kernel) (fun m264 => ?_)
                  refine q_ic (v := 1) (mz_fe (e := (104, .iconst 1, 1, (0, 0, 0), [])) (by decide +kernel)) (by decide) ?_
                  exact q_retI (mz_fe (e := (105, .ireturn, 1, (0, 0, 0), [])) (by decide +kernel)) (by decide +kernel)
                · refine q_bi (v := 13) (mz_fe (e := (91, .bipush 13, 2, (0, 0, 0), [])) (by decide +kernel)) (by decide) ?_
                  refine q_s (mz_fe (e := (93, .istore 4, 2, (0, 0, 0), [])) (by decide +kernel)) (pc' := 95) (L' := [some (.ref 239), some (.int x0), some (.int x1), some (.int x2), some (.int 13)]) (st' := []) rfl ?_
                  refine q_o (mz_fe (e := (95, .aload_n 0, 1, (0, 0, 0), [])) (by decide +kernel)) (pc2 := 96) rfl ?_
                  refine q_o (mz_fe (e := (96, .iload 4, 2, (0, 0, 0), [])) (by decide +kernel)) (pc2 := 98) rfl ?_
                  refine q_o (mz_fe (e := (98, .iload_n 1, 1, (0, 0, 0), [])) (by decide +kernel)) (pc2 := 99) rfl ?_
                  refine q_ic (v := 0) (mz_fe (e := (99, .iconst 0, 1, (0, 0, 0), [])) (by decide +kernel)) (by decide) ?_
                  refine q_o (mz_fe (e := (100, .lconst 0, 1, (0, 0, 0), [])) (by decide +kernel)) (pc2 := 101) (st2 := [.long 0, .int 0, .int x0, .int 13, .ref 239]) rfl ?_
                  refine q_callV (N := 182) (vs := [.ref 239, .int 13, .int x0, .int 0, .long 0]) (rest := []) (L' := [some (.ref 239), some (.int x0), some (.int x1), some (.int x2), some (.int 13)]) rfl (mz_fe (e := (101, .invokevirtual 188, 172, (182, 5, 18), [])) (by decide +kernel)) rfl (mz_inv_virt (N := 182) (k := 5) (t := 18) (st := [.long 0, .int 0, .int x0, .int 13, .ref 239]) (rest := []) (b := 239) (vs := [.int 13, .int x0, .int 0, .long 0]) (h := (mz_S0, m)) rfl rfl (Nat.le_of_ble_eq_true rfl) (Nat.le_of_ble_eq_true rfl) tg_239 (by decide)) (mz_dc_lt (n := 6) rfl (by decide +kernel) (by decide +kernel)) (by decide +kernel) (by decide +kernel) (fun m267 => ?_)
                  refine q_ic (v := 1) (mz_fe (e := (104, .iconst 1, 1, (0, 0, 0), [])) (by decide +kernel)) (by decide) ?_
                  exact q_retI (mz_fe (e := (105, .ireturn, 1, (0, 0, 0), [])) (by decide +kernel)) (by decide +kernel)
              · refine q_bi (v := 15) (mz_fe (e := (81, .bipush 15, 2, (0, 0, 0), [])) (by decide +kernel)) (by decide) ?_
                refine q_s (mz_fe (e := (83, .istore 4, 2, (0, 0, 0), [])) (by decide +kernel)) (pc' := 85) (L' := [some (.ref 239), some (.int x0), some (.int x1), some (.int x2), some (.int 15)]) (st' := []) rfl ?_
                refine q_o (mz_fe (e := (85, .iload_n 2, 1, (0, 0, 0), [])) (by decide +kernel)) (pc2 := 86) rfl ?_
                refine q_bi (v := 60) (mz_fe (e := (86, .bipush 60, 2, (0, 0, 0), [])) (by decide +kernel)) (by decide) ?_
                refine q_if (c := .ne) (off := 7) (t := 95) (x := x1) (y := 60) (st := []) (mz_fe (e := (88, .if_icmp .ne 7, 3, (0, 0, 0), [])) (by decide +kernel)) (fun _ => rfl) rfl rfl rfl (fun c270 => ?_) (fun c270 => ?_)
                · refine q_o (mz_fe (e := (95, .aload_n 0, 1, (0, 0, 0), [])) (by decide +kernel)) (pc2 := 96) rfl ?_
                  refine q_o (mz_fe (e := (96, .iload 4, 2, (0, 0, 0), [])) (by decide +kernel)) (pc2 := 98) rfl ?_
                  refine q_o (mz_fe (e := (98, .iload_n 1, 1, (0, 0, 0), [])) (by decide +kernel)) (pc2 := 99) rfl ?_
                  refine q_ic (v := 0) (mz_fe (e := (99, .iconst 0, 1, (0, 0, 0), [])) (by decide +kernel)) (by decide) ?_
                  refine q_o (mz_fe (e := (100, .lconst 0, 1, (0, 0, 0), [])) (by decide +kernel)) (pc2 := 101) (st2 := [.long 0, .int 0, .int x0, .int 15, .ref 239]) rfl ?_
                  refine q_callV (N := 182) (vs := [.ref 239, .int 15, .int x0, .int 0, .long 0]) (rest := []) (L' := [some (.ref 239), some (.int x0), some (.int x1), some (.int x2), some (.int 15)]) rfl (mz_fe (e := (101, .invokevirtual 188, 172, (182, 5, 18), [])) (by decide +kernel)) rfl (mz_inv_virt (N := 182) (k := 5) (t := 18) (st := [.long 0, .int 0, .int x0, .int 15, .ref 239]) (rest := []) (b := 239) (vs := [.int 15, .int x0, .int 0, .long 0]) (h := (mz_S0, m)) rfl rfl (Nat.le_of_ble_eq_true rfl) (Nat.le_of_ble_eq_true rfl) tg_239 (by decide)) (mz_dc_lt (n := 6) rfl (by decide +kernel) (by decide +kernel)) (by decide +kernel) (by decide +kernel) (fun m271 => ?_)
                  refine q_ic (v := 1) (mz_fe (e := (104, .iconst 1, 1, (0, 0, 0), [])) (by decide +kernel)) (by decide) ?_
                  exact q_retI (mz_fe (e := (105, .ireturn, 1, (0, 0, 0), [])) (by decide +kernel)) (by decide +kernel)
                · refine q_bi (v := 13) (mz_fe (e := (91, .bipush 13, 2, (0, 0, 0), [])) (by decide +kernel)) (by decide) ?_
                  refine q_s (mz_fe (e := (93, .istore 4, 2, (0, 0, 0), [])) (by decide +kernel)) (pc' := 95) (L' := [some (.ref 239), some (.int x0), some (.int x1), some (.int x2), some (.int 13)]) (st' := []) rfl ?_
                  refine q_o (mz_fe (e := (95, .aload_n 0, 1, (0, 0, 0), [])) (by decide +kernel)) (pc2 := 96) rfl ?_
                  refine q_o (mz_fe (e := (96, .iload 4, 2, (0, 0, 0), [])) (by decide +kernel)) (pc2 := 98) rfl ?_
                  refine q_o (mz_fe (e := (98, .iload_n 1, 1, (0, 0, 0), [])) (by decide +kernel)) (pc2 := 99) rfl ?_
                  refine q_ic (v := 0) (mz_fe (e := (99, .iconst 0, 1, (0, 0, 0), [])) (by decide +kernel)) (by decide) ?_
                  refine q_o (mz_fe (e := (100, .lconst 0, 1, (0, 0, 0), [])) (by decide +kernel)) (pc2 := 101) (st2 := [.long 0, .int 0, .int x0, .int 13, .ref 239]) rfl ?_
                  refine q_callV (N := 182) (vs := [.ref 239, .int 13, .int x0, .int 0, .long 0]) (rest := []) (L' := [some (.ref 239), some (.int x0), some (.int x1), some (.int x2), some (.int 13)]) rfl (mz_fe (e := (101, .invokevirtual 188, 172, (182, 5, 18), [])) (by decide +kernel)) rfl (mz_inv_virt (N := 182) (k := 5) (t := 18) (st := [.long 0, .int 0, .int x0, .int 13, .ref 239]) (rest := []) (b := 239) (vs := [.int 13, .int x0, .int 0, .long 0]) (h := (mz_S0, m)) rfl rfl (Nat.le_of_ble_eq_true rfl) (Nat.le_of_ble_eq_true rfl) tg_239 (by decide)) (mz_dc_lt (n := 6) rfl (by decide +kernel) (by decide +kernel)) (by decide +kernel) (by decide +kernel) (fun m274 => ?_)
                  refine q_ic (v := 1) (mz_fe (e := (104, .iconst 1, 1, (0, 0, 0), [])) (by decide +kernel)) (by decide) ?_
                  exact q_retI (mz_fe (e := (105, .ireturn, 1, (0, 0, 0), [])) (by decide +kernel)) (by decide +kernel)
            · refine q_bi (v := 10) (mz_fe (e := (71, .bipush 10, 2, (0, 0, 0), [])) (by decide +kernel)) (by decide) ?_
              refine q_s (mz_fe (e := (73, .istore 4, 2, (0, 0, 0), [])) (by decide +kernel)) (pc' := 75) (L' := [some (.ref 239), some (.int x0), some (.int x1), some (.int x2), some (.int 10)]) (st' := []) rfl ?_
              refine q_o (mz_fe (e := (75, .iload_n 2, 1, (0, 0, 0), [])) (by decide +kernel)) (pc2 := 76) rfl ?_
              refine q_bi (v := 47) (mz_fe (e := (76, .bipush 47, 2, (0, 0, 0), [])) (by decide +kernel)) (by decide) ?_
              refine q_if (c := .ne) (off := 7) (t := 85) (x := x1) (y := 47) (st := []) (mz_fe (e := (78, .if_icmp .ne 7, 3, (0, 0, 0), [])) (by decide +kernel)) (fun _ => rfl) rfl rfl rfl (fun c277 => ?_) (fun c277 => ?_)
              · refine q_o (mz_fe (e := (85, .iload_n 2, 1, (0, 0, 0), [])) (by decide +kernel)) (pc2 := 86) rfl ?_
                refine q_bi (v := 60) (mz_fe (e := (86, .bipush 60, 2, (0, 0, 0), [])) (by decide +kernel)) (by decide) ?_
                refine q_if (c := .ne) (off := 7) (t := 95) (x := x1) (y := 60) (st := []) (mz_fe (e := (88, .if_icmp .ne 7, 3, (0, 0, 0), [])) (by decide +kernel)) (fun _ => rfl) rfl rfl rfl (fun c278 => ?_) (fun c278 => ?_)
                · refine q_o (mz_fe (e := (95, .aload_n 0, 1, (0, 0, 0), [])) (by decide +kernel)) (pc2 := 96) rfl ?_
                  refine q_o (mz_fe (e := (96, .iload 4, 2, (0, 0, 0), [])) (by decide +kernel)) (pc2 := 98) rfl ?_
                  refine q_o (mz_fe (e := (98, .iload_n 1, 1, (0, 0, 0), [])) (by decide +kernel)) (pc2 := 99) rfl ?_
                  refine q_ic (v := 0) (mz_fe (e := (99, .iconst 0, 1, (0, 0, 0), [])) (by decide +kernel)) (by decide) ?_
                  refine q_o (mz_fe (e := (100, .lconst 0, 1, (0, 0, 0), [])) (by decide +kernel)) (pc2 := 101) (st2 := [.long 0, .int 0, .int x0, .int 10, .ref 239]) rfl ?_
                  refine q_callV (N := 182) (vs := [.ref 239, .int 10, .int x0, .int 0, .long 0]) (rest := []) (L' := [some (.ref 239), some (.int x0), some (.int x1), some (.int x2), some (.int 10)]) rfl (mz_fe (e := (101, .invokevirtual 188, 172, (182, 5, 18), [])) (by decide +kernel)) rfl (mz_inv_virt (N := 182) (k := 5) (t := 18) (st := [.long 0, .int 0, .int x0, .int 10, .ref 239]) (rest := []) (b := 239) (vs := [.int 10, .int x0, .int 0, .long 0]) (h := (mz_S0, m)) rfl rfl (Nat.le_of_ble_eq_true rfl) (Nat.le_of_ble_eq_true rfl) tg_239 (by decide)) (mz_dc_lt (n := 6) rfl (by decide +kernel) (by decide +kernel)) (by decide +kernel) (by decide +kernel) (fun m279 => ?_)
                  refine q_ic (v := 1) (mz_fe (e := (104, .iconst 1, 1, (0, 0, 0), [])) (by decide +kernel)) (by decide) ?_
                  exact q_retI (mz_fe (e := (105, .ireturn, 1, (0, 0, 0), [])) (by decide +kernel)) (by decide +kernel)
                · refine q_bi (v := 13) (mz_fe (e := (91, .bipush 13, 2, (0, 0, 0), [])) (by decide +kernel)) (by decide) ?_
                  refine q_s (mz_fe (e := (93, .istore 4, 2, (0, 0, 0), [])) (by decide +kernel)) (pc' := 95) (L' := [some (.ref 239), some (.int x0), some (.int x1), some (.int x2), some (.int 13)]) (st' := []) rfl ?_
                  refine q_o (mz_fe (e := (95, .aload_n 0, 1, (0, 0, 0), [])) (by decide +kernel)) (pc2 := 96) rfl ?_
                  refine q_o (mz_fe (e := (96, .iload 4, 2, (0, 0, 0), [])) (by decide +kernel)) (pc2 := 98) rfl ?_
                  refine q_o (mz_fe (e := (98, .iload_n 1, 1, (0, 0, 0), [])) (by decide +kernel)) (pc2 := 99) rfl ?_
                  refine q_ic (v := 0) (mz_fe (e := (99, .iconst 0, 1, (0, 0, 0), [])) (by decide +kernel)) (by decide) ?_
                  refine q_o (mz_fe (e := (100, .lconst 0, 1, (0, 0, 0), [])) (by decide +kernel)) (pc2 := 101) (st2 := [.long 0, .int 0, .int x0, .int 13, .ref 239]) rfl ?_
                  refine q_callV (N := 182) (vs := [.ref 239, .int 13, .int x0, .int 0, .long 0]) (rest := []) (L' := [some (.ref 239), some (.int x0), some (.int x1), some (.int x2), some (.int 13)]) rfl (mz_fe (e := (101, .invokevirtual 188, 172, (182, 5, 18), [])) (by decide +kernel)) rfl (mz_inv_virt (N := 182) (k := 5) (t := 18) (st := [.long 0, .int 0, .int x0, .int 13, .ref 239]) (rest := []) (b := 239) (vs := [.int 13, .int x0, .int 0, .long 0]) (h := (mz_S0, m)) rfl rfl (Nat.le_of_ble_eq_true rfl) (Nat.le_of_ble_eq_true rfl) tg_239 (by decide)) (mz_dc_lt (n := 6) rfl (by decide +kernel) (by decide +kernel)) (by decide +kernel) (by decide +kernel) (fun m282 => ?_)
                  refine q_ic (v := 1) (mz_fe (e := (104, .iconst 1, 1, (0, 0, 0), [])) (by decide +kernel)) (by decide) ?_
                  exact q_retI (mz_fe (e := (105, .ireturn, 1, (0, 0, 0), [])) (by decide +kernel)) (by decide +kernel)
              · refine q_bi (v := 15) (mz_fe (e := (81, .bipush 15, 2, (0, 0, 0), [])) (by decide +kernel)) (by decide) ?_
                refine q_s (mz_fe (e := (83, .istore 4, 2, (0, 0, 0), [])) (by decide +kernel)) (pc' := 85) (L' := [some (.ref 239), some (.int x0), some (.int x1), some (.int x2), some (.int 15)]) (st' := []) rfl ?_
                refine q_o (mz_fe (e := (85, .iload_n 2, 1, (0, 0, 0), [])) (by decide +kernel)) (pc2 := 86) rfl ?_
                refine q_bi (v := 60) (mz_fe (e := (86, .bipush 60, 2, (0, 0, 0), [])) (by decide +kernel)) (by decide) ?_
                refine q_if (c := .ne) (off := 7) (t := 95) (x := x1) (y := 60) (st := []) (mz_fe (e := (88, .if_icmp .ne 7, 3, (0, 0, 0), [])) (by decide +kernel)) (fun _ => rfl) rfl rfl rfl (fun c285 => ?_) (fun c285 => ?_)
                · refine q_o (mz_fe (e := (95, .aload_n 0, 1, (0, 0, 0), [])) (by decide +kernel)) (pc2 := 96) rfl ?_
                  refine q_o (mz_fe (e := (96, .iload 4, 2, (0, 0, 0), [])) (by decide +kernel)) (pc2 := 98) rfl ?_
                  refine q_o (mz_fe (e := (98, .iload_n 1, 1, (0, 0, 0), [])) (by decide +kernel)) (pc2 := 99) rfl ?_
                  refine q_ic (v := 0) (mz_fe (e := (99, .iconst 0, 1, (0, 0, 0), [])) (by decide +kernel)) (by decide) ?_
                  refine q_o (mz_fe (e := (100, .lconst 0, 1, (0, 0, 0), [])) (by decide +kernel)) (pc2 := 101) (st2 := [.long 0, .int 0, .int x0, .int 15, .ref 239]) rfl ?_
                  refine q_callV (N := 182) (vs := [.ref 239, .int 15, .int x0, .int 0, .long 0]) (rest := []) (L' := [some (.ref 239), some (.int x0), some (.int x1), some (.int x2), some (.int 15)]) rfl (mz_fe (e := (101, .invokevirtual 188, 172, (182, 5, 18), [])) (by decide +kernel)) rfl (mz_inv_virt (N := 182) (k := 5) (t := 18) (st := [.long 0, .int 0, .int x0, .int 15, .ref 239]) (rest := []) (b := 239) (vs := [.int 15, .int x0, .int 0, .long 0]) (h := (mz_S0, m)) rfl rfl (Nat.le_of_ble_eq_true rfl) (Nat.le_of_ble_eq_true rfl) tg_239 (by decide)) (mz_dc_lt (n := 6) rfl (by decide +kernel) (by decide +kernel)) (by decide +kernel) (by decide +kernel) (fun m286 => ?_)
                  refine q_ic (v := 1) (mz_fe (e := (104, .iconst 1, 1, (0, 0, 0), [])) (by decide +kernel)) (by decide) ?_
                  exact q_retI (mz_fe (e := (105, .ireturn, 1, (0, 0, 0), [])) (by decide +kernel)) (by decide +kernel)
                · refine q_bi (v := 13) (mz_fe (e := (91, .bipush 13, 2, (0, 0, 0), [])) (by decide +kernel)) (by decide) ?_
                  refine q_s (mz_fe (e := (93, .istore 4, 2, (0, 0, 0), [])) (by decide +kernel)) (pc' := 95) (L' := [some (.ref 239), some (.int x0), some (.int x1), some (.int x2), some (.int 13)]) (st' := []) rfl ?_
                  refine q_o (mz_fe (e := (95, .aload_n 0, 1, (0, 0, 0), [])) (by decide +kernel)) (pc2 := 96) rfl ?_
                  refine q_o (mz_fe (e := (96, .iload 4, 2, (0, 0, 0), [])) (by decide +kernel)) (pc2 := 98) rfl ?_
                  refine q_o (mz_fe (e := (98, .iload_n 1, 1, (0, 0, 0), [])) (by decide +kernel)) (pc2 := 99) rfl ?_
                  refine q_ic (v := 0) (mz_fe (e := (99, .iconst 0, 1, (0, 0, 0), [])) (by decide +kernel)) (by decide) ?_
                  refine q_o (mz_fe (e := (100, .lconst 0, 1, (0, 0, 0), [])) (by decide +kernel)) (pc2 := 101) (st2 := [.long 0, .int 0, .int x0, .int 13, .ref 239]) rfl ?_
                  refine q_callV (N := 182) (vs := [.ref 239, .int 13, .int x0, .int 0, .long 0]) (rest := []) (L' := [some (.ref 239), some (.int x0), some (.int x1), some (.int x2), some (.int 13)]) rfl (mz_fe (e := (101, .invokevirtual 188, 172, (182, 5, 18), [])) (by decide +kernel)) rfl (mz_inv_virt (N := 182) (k := 5) (t := 18) (st := [.long 0, .int 0, .int x0, .int 13, .ref 239]) (rest := []) (b := 239) (vs := [.int 13, .int x0, .int 0, .long 0]) (h := (mz_S0, m)) rfl rfl (Nat.le_of_ble_eq_true rfl) (Nat.le_of_ble_eq_true rfl) tg_239 (by decide)) (mz_dc_lt (n := 6) rfl (by decide +kernel) (by decide +kernel)) (by decide +kernel) (by decide +kernel) (fun m289 => ?_)
                  refine q_ic (v := 1) (mz_fe (e := (104, .iconst 1, 1, (0, 0, 0), [])) (by decide +kernel)) (by decide) ?_
                  exact q_retI (mz_fe (e := (105, .ireturn, 1, (0, 0, 0), [])) (by decide +kernel)) (by decide +kernel)
          · refine q_bi (v := 9) (mz_fe (e := (61, .bipush 9, 2, (0, 0, 0), [])) (by decide +kernel)) (by decide) ?_
            refine q_s (mz_fe (e := (63, .istore 4, 2, (0, 0, 0), [])) (by decide +kernel)) (pc' := 65) (L' := [some (.ref 239), some (.int x0), some (.int x1), some (.int x2), some (.int 9)]) (st' := []) rfl ?_
            refine q_o (mz_fe (e := (65, .iload_n 2, 1, (0, 0, 0), [])) (by decide +kernel)) (pc2 := 66) rfl ?_
            refine q_bi (v := 42) (mz_fe (e := (66, .bipush 42, 2, (0, 0, 0), [])) (by decide +kernel)) (by decide) ?_
            refine q_if (c := .ne) (off := 7) (t := 75) (x := x1) (y := 42) (st := []) (mz_fe (e := (68, .if_icmp .ne 7, 3, (0, 0, 0), [])) (by decide +kernel)) (fun _ => rfl) rfl rfl rfl (fun c292 => ?_) (fun c292 => ?_)
            · refine q_o (mz_fe (e := (75, .iload_n 2, 1, (0, 0, 0), [])) (by decide +kernel)) (pc2 := 76) rfl ?_
              refine q_bi (v := 47) (mz_fe (e := (76, .bipush 47, 2, (0, 0, 0), [])) (by decide +kernel)) (by decide) ?_
              refine q_if (c := .ne) (off := 7) (t := 85) (x := x1) (y := 47) (st := []) (mz_fe (e := (78, .if_icmp .ne 7, 3, (0, 0, 0), [])) (by decide +kernel)) (fun _ => rfl) rfl rfl rfl (fun c293 => ?_) (fun c293 => ?_)
              · refine q_o (mz_fe (e := (85, .iload_n 2, 1, (0, 0, 0), [])) (by decide +kernel)) (pc2 := 86) rfl ?_
                refine q_bi (v := 60) (mz_fe (e := (86, .bipush 60, 2, (0, 0, 0), [])) (by decide +kernel)) (by decide) ?_
                refine q_if (c := .ne) (off := 7) (t := 95) (x := x1) (y := 60) (st := []) (mz_fe (e := (88, .if_icmp .ne 7, 3, (0, 0, 0), [])) (by decide +kernel)) (fun _ => rfl) rfl rfl rfl (fun c294 => ?_) (fun c294 => ?_)
                · refine q_o (mz_fe (e := (95, .aload_n 0, 1, (0, 0, 0), [])) (by decide +kernel)) (pc2 := 96) rfl ?_
                  refine q_o (mz_fe (e := (96, .iload 4, 2, (0, 0, 0), [])) (by decide +kernel)) (pc2 := 98) rfl ?_
                  refine q_o (mz_fe (e := (98, .iload_n 1, 1, (0, 0, 0), [])) (by decide +kernel)) (pc2 := 99) rfl ?_
                  refine q_ic (v := 0) (mz_fe (e := (99, .iconst 0, 1, (0, 0, 0), [])) (by decide +kernel)) (by decide) ?_
                  refine q_o (mz_fe (e := (100, .lconst 0, 1, (0, 0, 0), [])) (by decide +kernel)) (pc2 := 101) (st2 := [.long 0, .int 0, .int x0, .int 9, .ref 239]) rfl ?_
                  refine q_callV (N := 182) (vs := [.ref 239, .int 9, .int x0, .int 0, .long 0]) (rest := []) (L' := [some (.ref 239), some (.int x0), some (.int x1), some (.int x2), some (.int 9)]) rfl (mz_fe (e := (101, .invokevirtual 188, 172, (182, 5, 18), [])) (by decide +kernel)) rfl (mz_inv_virt (N := 182) (k := 5) (t := 18) (st := [.long 0, .int 0, .int x0, .int 9, .ref 239]) (rest := []) (b := 239) (vs := [.int 9, .int x0, .int 0, .long 0]) (h := (mz_S0, m)) rfl rfl (Nat.le_of_ble_eq_true rfl) (Nat.le_of_ble_eq_true rfl) tg_239 (by decide)) (mz_dc_lt (n := 6) rfl (by decide +kernel) (by decide +kernel)) (by decide +kernel) (by decide +kernel) (fun m295 => ?_)
                  refine q_ic (v := 1) (mz_fe (e := (104, .iconst 1, 1, (0, 0, 0), [])) (by decide +kernel)) (by decide) ?_
                  exact q_retI (mz_fe (e := (105, .ireturn, 1, (0, 0, 0), [])) (by decide +kernel)) (by decide +kernel)
                · refine q_bi (v := 13) (mz_fe (e := (91, .bipush 13, 2, (0, 0, 0), [])) (by decide +kernel)) (by decide) ?_
                  refine q_s (mz_fe (e := (93, .istore 4, 2, (0, 0, 0), [])) (by decide +kernel)) (pc' := 95) (L' := [some (.ref 239), some (.int x0), some (.int x1), some (.int x2), some (.int 13)]) (st' := []) rfl ?_
                  refine q_o (mz_fe (e := (95, .aload_n 0, 1, (0, 0, 0), [])) (by decide +kernel)) (pc2 := 96) rfl ?_
                  refine q_o (mz_fe (e := (96, .iload 4, 2, (0, 0, 0), [])) (by decide +kernel)) (pc2 := 98) rfl ?_
                  refine q_o (mz_fe (e := (98, .iload_n 1, 1, (0, 0, 0), [])) (by decide +kernel)) (pc2 := 99) rfl ?_
                  refine q_ic (v := 0) (mz_fe (e := (99, .iconst 0, 1, (0, 0, 0), [])) (by decide +kernel)) (by decide) ?_
                  refine q_o (mz_fe (e := (100, .lconst 0, 1, (0, 0, 0), [])) (by decide +kernel)) (pc2 := 101) (st2 := [.long 0, .int 0, .int x0, .int 13, .ref 239]) rfl ?_
                  refine q_callV (N := 182) (vs := [.ref 239, .int 13, .int x0, .int 0, .long 0]) (rest := []) (L' := [some (.ref 239), some (.int x0), some (.int x1), some (.int x2), some (.int 13)]) rfl (mz_fe (e := (101, .invokevirtual 188, 172, (182, 5, 18), [])) (by decide +kernel)) rfl (mz_inv_virt (N := 182) (k := 5) (t := 18) (st := [.long 0, .int 0, .int x0, .int 13, .ref 239]) (rest := []) (b := 239) (vs := [.int 13, .int x0, .int 0, .long 0]) (h := (mz_S0, m)) rfl rfl (Nat.le_of_ble_eq_true rfl) (Nat.le_of_ble_eq_true rfl) tg_239 (by decide)) (mz_dc_lt (n := 6) rfl (by decide +kernel) (by decide +kernel)) (by decide +kernel) (by decide +kernel) (fun m298 => ?_)
                  refine q_ic (v := 1) (mz_fe (e := (104, .iconst 1, 1, (0, 0, 0), [])) (by decide +kernel)) (by decide) ?_
                  exact q_retI (mz_fe (e := (105, .ireturn, 1, (0, 0, 0), [])) (by decide +kernel)) (by decide +kernel)
              · refine q_bi (v := 15) (mz_fe (e := (81, .bipush 15, 2, (0, 0, 0), [])) (by decide +kernel)) (by decide) ?_
                refine q_s (mz_fe (e := (83, .istore 4, 2, (0, 0, 0), [])) (by decide +kernel)) (pc' := 85) (L' := [some (.ref 239), some (.int x0), some (.int x1), some (.int x2), some (.int 15)]) (st' := []) rfl ?_
                refine q_o (mz_fe (e := (85, .iload_n 2, 1, (0, 0, 0), [])) (by decide +kernel)) (pc2 := 86) rfl ?_
                refine q_bi (v := 60) (mz_fe (e := (86, .bipush 60, 2, (0, 0, 0), [])) (by decide +kernel)) (by decide) ?_
                refine q_if (c := .ne) (off := 7) (t := 95) (x := x1) (y := 60) (st := []) (mz_fe (e := (88, .if_icmp .ne 7, 3, (0, 0, 0), [])) (by decide +kernel)) (fun _ => rfl) rfl rfl rfl (fun c301 => ?_) (fun c301 => ?_)
                · refine q_o (mz_fe (e := (95, .aload_n 0, 1, (0, 0, 0), [])) (by decide +kernel)) (pc2 := 96) rfl ?_
                  refine q_o (mz_fe (e := (96, .iload 4, 2, (0, 0, 0), [])) (by decide +kernel)) (pc2 := 98) rfl ?_
                  refine q_o (mz_fe (e := (98, .iload_n 1, 1, (0, 0, 0), [])) (by decide +kernel)) (pc2 := 99) rfl ?_
                  refine q_ic (v := 0) (mz_fe (e := (99, .iconst 0, 1, (0, 0, 0), [])) (by decide +kernel)) (by decide) ?_
                  refine q_o (mz_fe (e := (100, .lconst 0, 1, (0, 0, 0), [])) (by decide +kernel)) (pc2 := 101) (st2 := [.long 0, .int 0, .int x0, .int 15, .ref 239]) rfl ?_
                  refine q_callV (N := 182) (vs := [.ref 239, .int 15, .int x0, .int 0, .long 0]) (rest := []) (L' := [some (.ref 239), some (.int x0), some (.int x1), some (.int x2), some (.int 15)]) rfl (mz_fe (e := (101, .invokevirtual 188, 172, (182, 5, 18), [])) (by decide +kernel)) rfl (mz_inv_virt (N := 182) (k := 5) (t := 18) (st := [.long 0, .int 0, .int x0, .int 15, .ref 239]) (rest := []) (b := 239) (vs := [.int 15, .int x0, .int 0, .long 0]) (h := (mz_S0, m)) rfl rfl (Nat.le_of_ble_eq_true rfl) (Nat.le_of_ble_eq_true rfl) tg_239 (by decide)) (mz_dc_lt (n := 6) rfl (by decide +kernel) (by decide +kernel)) (by decide +kernel) (by decide +kernel) (fun m302 => ?_)
                  refine q_ic (v := 1) (mz_fe (e := (104, .iconst 1, 1, (0, 0, 0), [])) (by decide +kernel)) (by decide) ?_
                  exact q_retI (mz_fe (e := (105, .ireturn, 1, (0, 0, 0), [])) (by decide +kernel)) (by decide +kernel)
                · refine q_bi (v := 13) (mz_fe (e := (91, .bipush 13, 2, (0, 0, 0), [])) (by decide +kernel)) (by decide) ?_
                  refine q_s (mz_fe (e := (93, .istore 4, 2, (0, 0, 0), [])) (by decide +kernel)) (pc' := 95) (L' := [some (.ref 239), some (.int x0), some (.int x1), some (.int x2), some (.int 13)]) (st' := []) rfl ?_
                  refine q_o (mz_fe (e := (95, .aload_n 0, 1, (0, 0, 0), [])) (by decide +kernel)) (pc2 := 96) rfl ?_
                  refine q_o (mz_fe (e := (96, .iload 4, 2, (0, 0, 0), [])) (by decide +kernel)) (pc2 := 98) rfl ?_
                  refine q_o (mz_fe (e := (98, .iload_n 1, 1, (0, 0, 0), [])) (by decide +kernel)) (pc2 := 99) rfl ?_
                  refine q_ic (v := 0) (mz_fe (e := (99, .iconst 0, 1, (0, 0, 0), [])) (by decide +kernel)) (by decide) ?_
                  refine q_o (mz_fe (e := (100, .lconst 0, 1, (0, 0, 0), [])) (by decide +kernel)) (pc2 := 101) (st2 := [.long 0, .int 0, .int x0, .int 13, .ref 239]) rfl ?_
                  refine q_callV (N := 182) (vs := [.ref 239, .int 13, .int x0, .int 0, .long 0]) (rest := []) (L' := [some (.ref 239), some (.int x0), some (.int x1), some (.int x2), some (.int 13)]) rfl (mz_fe (e := (101, .invokevirtual 188, 172, (182, 5, 18), [])) (by decide +kernel)) rfl (mz_inv_virt (N := 182) (k := 5) (t := 18) (st := [.long 0, .int 0, .int x0, .int 13, .ref 239]) (rest := []) (b := 239) (vs := [.int 13, .int x0, .int 0, .long 0]) (h := (mz_S0, m)) rfl rfl (Nat.le_of_ble_eq_true rfl) (Nat.le_of_ble_eq_true rfl) tg_239 (by decide)) (mz_dc_lt (n := 6) rfl (by decide +kernel) (by decide +kernel)) (by decide +kernel) (by decide +kernel) (fun m305 => ?_)
                  refine q_ic (v := 1) (mz_fe (e := (104, .iconst 1, 1, (0, 0, 0), [])) (by decide +kernel)) (by decide) ?_
                  exact q_retI (mz_fe (e := (105, .ireturn, 1, (0, 0, 0), [])) (by decide +kernel)) (by decide +kernel)
            · refine q_bi (v := 10) (mz_fe (e := (71, .bipush 10, 2, (0, 0, 0), [])) (by decide +kernel)) (by decide) ?_
              refine q_s (mz_fe (e := (73, .istore 4, 2, (0, 0, 0), [])) (by decide +kernel)) (pc' := 75) (L' := [some (.ref 239), some (.int x0), some (.int x1), some (.int x2), some (.int 10)]) (st' := []) rfl ?_
              refine q_o (mz_fe (e := (75, .iload_n 2, 1, (0, 0, 0), [])) (by decide +kernel)) (pc2 := 76) rfl ?_
              refine q_bi (v := 47) (mz_fe (e := (76, .bipush 47, 2, (0, 0, 0), [])) (by decide +kernel)) (by decide) ?_
              refine q_if (c := .ne) (off := 7) (t := 85) (x := x1) (y := 47) (st := []) (mz_fe (e := (78, .if_icmp .ne 7, 3, (0, 0, 0), [])) (by decide +kernel)) (fun _ => rfl) rfl rfl rfl (fun c308 => ?_) (fun c308 => ?_)
              · refine q_o (mz_fe (e := (85, .iload_n 2, 1, (0, 0, 0), [])) (by decide +kernel)) (pc2 := 86) rfl ?_
                refine q_bi (v := 60) (mz_fe (e := (86, .bipush 60, 2, (0, 0, 0), [])) (by decide +kernel)) (by decide) ?_
                refine q_if (c := .ne) (off := 7) (t := 95) (x := x1) (y := 60) (st := []) (mz_fe (e := (88, .if_icmp .ne 7, 3, (0, 0, 0), [])) (by decide +kernel)) (fun _ => rfl) rfl rfl rfl (fun c309 => ?_) (fun c309 => ?_)
                · refine q_o (mz_fe (e := (95, .aload_n 0, 1, (0, 0, 0), [])) (by decide +kernel)) (pc2 := 96) rfl ?_
                  refine q_o (mz_fe (e := (96, .iload 4, 2, (0, 0, 0), [])) (by decide +kernel)) (pc2 := 98) rfl ?_
                  refine q_o (mz_fe (e := (98, .iload_n 1, 1, (0, 0, 0), [])) (by decide +kernel)) (pc2 := 99) rfl ?_
                  refine q_ic (v := 0) (mz_fe (e := (99, .iconst 0, 1, (0, 0, 0), [])) (by decide +kernel)) (by decide) ?_
                  refine q_o (mz_fe (e := (100, .lconst 0, 1, (0, 0, 0), [])) (by decide +kernel)) (pc2 := 101) (st2 := [.long 0, .int 0, .int x0, .int 10, .ref 239]) rfl ?_
                  refine q_callV (N := 182) (vs := [.ref 239, .int 10, .int x0, .int 0, .long 0]) (rest := []) (L' := [some (.ref 239), some (.int x0), some (.int x1), some (.int x2), some (.int 10)]) rfl (mz_fe (e := (101, .invokevirtual 188, 172, (182, 5, 18), [])) (by decide +kernel)) rfl (mz_inv_virt (N := 182) (k := 5) (t := 18) (st := [.long 0, .int 0, .int x0, .int 10, .ref 239]) (rest := []) (b := 239) (vs := [.int 10, .int x0, .int 0, .long 0]) (h := (mz_S0, m)) rfl rfl (Nat.le_of_ble_eq_true rfl) (Nat.le_of_ble_eq_true rfl) tg_239 (by decide)) (mz_dc_lt (n := 6) rfl (by decide +kernel) (by decide +kernel)) (by decide +kernel) (by decide +kernel) (fun m310 => ?_)
                  refine q_ic (v := 1) (mz_fe (e := (104, .iconst 1, 1, (0, 0, 0), [])) (by decide +kernel)) (by decide) ?_
                  exact q_retI (mz_fe (e := (105, .ireturn, 1, (0, 0, 0), [])) (by decide +kernel)) (by decide +kernel)
                · refine q_bi (v := 13) (mz_fe (e := (91, .bipush 13, 2, (0, 0, 0), [])) (by decide +kernel)) (by decide) ?_
                  refine q_s (mz_fe (e := (93, .istore 4, 2, (0, 0, 0), [])) (by decide +kernel)) (pc' := 95) (L' := [some (.ref 239), some (.int x0), some (.int x1), some (.int x2), some (.int 13)]) (st' := []) rfl ?_
                  refine q_o (mz_fe (e := (95, .aload_n 0, 1, (0, 0, 0), [])) (by decide +kernel)) (pc2 := 96) rfl ?_
                  refine q_o (mz_fe (e := (96, .iload 4, 2, (0, 0, 0), [])) (by decide +kernel)) (pc2 := 98) rfl ?_
                  refine q_o (mz_fe (e := (98, .iload_n 1, 1, (0, 0, 0), [])) (by decide +kernel)) (pc2 := 99) rfl ?_
                  refine q_ic (v := 0) (mz_fe (e := (99, .iconst 0, 1, (0, 0, 0), [])) (by decide +kernel)) (by decide) ?_
                  refine q_o (mz_fe (e := (100, .lconst 0, 1, (0, 0, 0), [])) (by decide +kernel)) (pc2 := 101) (st2 := [.long 0, .int 0, .int x0, .int 13, .ref 239]) rfl ?_
                  refine q_callV (N := 182) (vs := [.ref 239, .int 13, .int x0, .int 0, .long 0]) (rest := []) (L' := [some (.ref 239), some (.int x0), some (.int x1), some (.int x2), some (.int 13)]) rfl (mz_fe (e := (101, .invokevirtual 188, 172, (182, 5, 18), [])) (by decide +kernel)) rfl (mz_inv_virt (N := 182) (k := 5) (t := 18) (st := [.long 0, .int 0, .int x0, .int 13, .ref 239]) (rest := []) (b := 239) (vs := [.int 13, .int x0, .int 0, .long 0]) (h := (mz_S0, m)) rfl rfl (Nat.le_of_ble_eq_true rfl) (Nat.le_of_ble_eq_true rfl) tg_239 (by decide)) (mz_dc_lt (n := 6) rfl (by decide +kernel) (by decide +kernel)) (by decide +kernel) (by decide +kernel) (fun m313 => ?_)
                  refine q_ic (v := 1) (mz_fe (e := (104, .iconst 1, 1, (0, 0, 0), [])) (by decide +kernel)) (by decide) ?_
                  exact q_retI (mz_fe (e := (105, .ireturn, 1, (0, 0, 0), [])) (by decide +kernel)) (by decide +kernel)
              · refine q_bi (v := 15) (mz_fe (e := (81, .bipush 15, 2, (0, 0, 0), [])) (by decide +kernel)) (by decide) ?_
                refine q_s (mz_fe (e := (83, .istore 4, 2, (0, 0, 0), [])) (by decide +kernel)) (pc' := 85) (L' := [some (.ref 239), some (.int x0), some (.int x1), some (.int x2), some (.int 15)]) (st' := []) rfl ?_
                refine q_o (mz_fe (e := (85, .iload_n 2, 1, (0, 0, 0), [])) (by decide +kernel)) (pc2 := 86) rfl ?_
                refine q_bi (v := 60) (mz_fe (e := (86, .bipush 60, 2, (0, 0, 0), [])) (by decide +kernel)) (by decide) ?_
                refine q_if (c := .ne) (off := 7) (t := 95) (x := x1) (y := 60) (st := []) (mz_fe (e := (88, .if_icmp .ne 7, 3, (0, 0, 0), [])) (by decide +kernel)) (fun _ => rfl) rfl rfl rfl (fun c316 => ?_) (fun c316 => ?_)
                · refine q_o (mz_fe (e := (95, .aload_n 0, 1, (0, 0, 0), [])) (by decide +kernel)) (pc2 := 96) rfl ?_
                  refine q_o (mz_fe (e := (96, .iload 4, 2, (0, 0, 0), [])) (by decide +kernel)) (pc2 := 98) rfl ?_
                  refine q_o (mz_fe (e := (98, .iload_n 1, 1, (0, 0, 0), [])) (by decide +kernel)) (pc2 := 99) rfl ?_
                  refine q_ic (v := 0) (mz_fe (e := (99, .iconst 0, 1, (0, 0, 0), [])) (by decide +kernel)) (by decide) ?_
                  refine q_o (mz_fe (e := (100, .lconst 0, 1, (0, 0, 0), [])) (by decide +kernel)) (pc2 := 101) (st2 := [.long 0, .int 0, .int x0, .int 15, .ref 239]) rfl ?_
                  refine q_callV (N := 182) (vs := [.ref 239, .int 15, .int x0, .int 0, .long 0]) (rest := []) (L' := [some (.ref 239), some (.int x0), some (.int x1), some (.int x2), some (.int 15)]) rfl (mz_fe (e := (101, .invokevirtual 188, 172, (182, 5, 18), [])) (by decide +kernel)) rfl (mz_inv_virt (N := 182) (k := 5) (t := 18) (st := [.long 0, .int 0, .int x0, .int 15, .ref 239]) (rest := []) (b := 239) (vs := [.int 15, .int x0, .int 0, .long 0]) (h := (mz_S0, m)) rfl rfl (Nat.le_of_ble_eq_true rfl) (Nat.le_of_ble_eq_true rfl) tg_239 (by decide)) (mz_dc_lt (n := 6) rfl (by decide +kernel) (by decide +kernel)) (by decide +kernel) (by decide +kernel) (fun m317 => ?_)
                  refine q_ic (v := 1) (mz_fe (e := (104, .iconst 1, 1, (0, 0, 0), [])) (by decide +kernel)) (by decide) ?_
                  exact q_retI (mz_fe (e := (105, .ireturn, 1, (0, 0, 0), [])) (by decide +kernel)) (by decide +kernel)
                · refine q_bi (v := 13) (mz_fe (e := (91, .bipush 13, 2, (0, 0, 0), [])) (by decide +kernel)) (by decide) ?_
                  refine q_s (mz_fe (e := (93, .istore 4, 2, (0, 0, 0), [])) (by decide +kernel)) (pc' := 95) (L' := [some (.ref 239), some (.int x0), some (.int x1), some (.int x2), some (.int 13)]) (st' := []) rfl ?_
                  refine q_o (mz_fe (e := (95, .aload_n 0, 1, (0, 0, 0), [])) (by decide +kernel)) (pc2 := 96) rfl ?_
                  refine q_o (mz_fe (e := (96, .iload 4, 2, (0, 0, 0), [])) (by decide +kernel)) (pc2 := 98) rfl ?_
                  refine q_o (mz_fe (e := (98, .iload_n 1, 1, (0, 0, 0), [])) (by decide +kernel)) (pc2 := 99) rfl ?_
                  refine q_ic (v := 0) (mz_fe (e := (99, .iconst 0, 1, (0, 0, 0), [])) (by decide +kernel)) (by decide) ?_
                  refine q_o (mz_fe (e := (100, .lconst 0, 1, (0, 0, 0), [])) (by decide +kernel)) (pc2 := 101) (st2 := [.long 0, .int 0, .int x0, .int 13, .ref 239]) rfl ?_
                  refine q_callV (N := 182) (vs := [.ref 239, .int 13, .int x0, .int 0, .long 0]) (rest := []) (L' := [some (.ref 239), some (.int x0), some (.int x1), some (.int x2), some (.int 13)]) rfl (mz_fe (e := (101, .invokevirtual 188, 172, (182, 5, 18), [])) (by decide +kernel)) rfl (mz_inv_virt (N := 182) (k := 5) (t := 18) (st := [.long 0, .int 0, .int x0, .int 13, .ref 239]) (rest := []) (b := 239) (vs := [.int 13, .int x0, .int 0, .long 0]) (h := (mz_S0, m)) rfl rfl (Nat.le_of_ble_eq_true rfl) (Nat.le_of_ble_eq_true rfl) tg_239 (by decide)) (mz_dc_lt (n := 6) rfl (by decide +kernel) (by decide +kernel)) (by decide +kernel) (by decide +kernel) (fun m320 => ?_)
                  refine q_ic (v := 1) (mz_fe (e := (104, .iconst 1, 1, (0, 0, 0), [])) (by decide +kernel)) (by decide) ?_
                  exact q_retI (mz_fe (e := (105, .ireturn, 1, (0, 0, 0), [])) (by decide +kernel)) (by decide +kernel)
        · refine q_bi (v := 8) (mz_fe (e := (51, .bipush 8, 2, (0, 0, 0), [])) (by decide +kernel)) (by decide) ?_
          refine q_s (mz_fe (e := (53, .istore 4, 2, (0, 0, 0), [])) (by decide +kernel)) (pc' := 55) (L' := [some (.ref 239), some (.int x0), some (.int x1), some (.int x2), some (.int 8)]) (st' := []) rfl ?_
          refine q_o (mz_fe (e := (55, .iload_n 2, 1, (0, 0, 0), [])) (by decide +kernel)) (pc2 := 56) rfl ?_
          refine q_bi (v := 45) (mz_fe (e := (56, .bipush 45, 2, (0, 0, 0), [])) (by decide +kernel)) (by decide) ?_
          refine q_if (c := .ne) (off := 7) (t := 65) (x := x1) (y := 45) (st := []) (mz_fe (e := (58, .if_icmp .ne 7, 3, (0, 0, 0), [])) (by decide +kernel)) (fun _ => rfl) rfl rfl rfl (fun c323 => ?_) (fun c323 => ?_)
          · refine q_o (mz_fe (e := (65, .iload_n 2, 1, (0, 0, 0), [])) (by decide +kernel)) (pc2 := 66) rfl ?_
            refine q_bi (v := 42) (mz_fe (e := (66, .bipush 42, 2, (0, 0, 0), [])) (by decide +kernel)) (by decide) ?_
            refine q_if (c := .ne) (off := 7) (t := 75) (x := x1) (y := 42) (st := []) (mz_fe (e := (68, .if_icmp .ne 7, 3, (0, 0, 0), [])) (by decide +kernel)) (fun _ => rfl) rfl rfl rfl (fun c324 => ?_) (fun c324 => ?_)
            · refine q_o (mz_fe (e := (75, .iload_n 2, 1, (0, 0, 0), [])) (by decide +kernel)) (pc2 := 76) rfl ?_
              refine q_bi (v := 47) (mz_fe (e := (76, .bipush 47, 2, (0, 0, 0), [])) (by decide +kernel)) (by decide) ?_
              refine q_if (c := .ne) (off := 7) (t := 85) (x := x1) (y := 47) (st := []) (mz_fe (e := (78, .if_icmp .ne 7, 3, (0, 0, 0), [])) (by decide +kernel)) (fun _ => rfl) rfl rfl rfl (fun c325 => ?_) (fun c325 => ?_)
              · refine q_o (mz_fe (e := (85, .iload_n 2, 1, (0, 0, 0), [])) (by decide +kernel)) (pc2 := 86) rfl ?_
                refine q_bi (v := 60) (mz_fe (e := (86, .bipush 60, 2, (0, 0, 0), [])) (by decide +kernel)) (by decide) ?_
                refine q_if (c := .ne) (off := 7) (t := 95) (x := x1) (y := 60) (st := []) (mz_fe (e := (88, .if_icmp .ne 7, 3, (0, 0, 0), [])) (by decide +kernel)) (fun _ => rfl) rfl rfl rfl (fun c326 => ?_) (fun c326 => ?_)
                · refine q_o (mz_fe (e := (95, .aload_n 0, 1, (0, 0, 0), [])) (by decide +kernel)) (pc2 := 96) rfl ?_
                  refine q_o (mz_fe (e := (96, .iload 4, 2, (0, 0, 0), [])) (by decide +kernel)) (pc2 := 98) rfl ?_
                  refine q_o (mz_fe (e := (98, .iload_n 1, 1, (0, 0, 0), [])) (by decide +kernel)) (pc2 := 99) rfl ?_
                  refine q_ic (v := 0) (mz_fe (e := (99, .iconst 0, 1, (0, 0, 0), [])) (by decide +kernel)) (by decide) ?_
                  refine q_o (mz_fe (e := (100, .lconst 0, 1, (0, 0, 0), [])) (by decide +kernel)) (pc2 := 101) (st2 := [.long 0, .int 0, .int x0, .int 8, .ref 239]) rfl ?_
                  refine q_callV (N := 182) (vs := [.ref 239, .int 8, .int x0, .int 0, .long 0]) (rest := []) (L' := [some (.ref 239), some (.int x0), some (.int x1), some (.int x2), some (.int 8)]) rfl (mz_fe (e := (101, .invokevirtual 188, 172, (182, 5, 18), [])) (by decide +kernel)) rfl (mz_inv_virt (N := 182) (k := 5) (t := 18) (st := [.long 0, .int 0, .int x0, .int 8, .ref 239]) (rest := []) (b := 239) (vs := [.int 8, .int x0, .int 0, .long 0]) (h := (mz_S0, m)) rfl rfl (Nat.le_of_ble_eq_true rfl) (Nat.le_of_ble_eq_true rfl) tg_239 (by decide)) (mz_dc_lt (n := 6) rfl (by decide +kernel) (by decide +kernel)) (by decide +kernel) (by decide +kernel) (fun m327 => ?_)
                  refine q_ic (v := 1) (mz_fe (e := (104, .iconst 1, 1, (0, 0, 0), [])) (by decide +kernel)) (by decide) ?_
                  exact q_retI (mz_fe (e := (105, .ireturn, 1, (0, 0, 0), [])) (by decide +kernel)) (by decide +kernel)
                · refine q_bi (v := 13) (mz_fe (e := (91, .bipush 13, 2, (0, 0, 0), [])) (by decide +kernel)) (by decide) ?_
                  refine q_s (mz_fe (e := (93, .istore 4, 2, (0, 0, 0), [])) (by decide +kernel)) (pc' := 95) (L' := [some (.ref 239), some (.int x0), some (.int x1), some (.int x2), some (.int 13)]) (st' := []) rfl ?_
                  refine q_o (mz_fe (e := (95, .aload_n 0, 1, (0, 0, 0), [])) (by decide +kernel)) (pc2 := 96) rfl ?_
                  refine q_o (mz_fe (e := (96, .iload 4, 2, (0, 0, 0), [])) (by decide +kernel)) (pc2 := 98) rfl ?_
                  refine q_o (mz_fe (e := (98, .iload_n 1, 1, (0, 0, 0), [])) (by decide +kernel)) (pc2 := 99) rfl ?_
                  refine q_ic (v := 0) (mz_fe (e := (99, .iconst 0, 1, (0, 0, 0), [])) (by decide +kernel)) (by decide) ?_
                  refine q_o (mz_fe (e := (100, .lconst 0, 1, (0, 0, 0), [])) (by decide +kernel)) (pc2 := 101) (st2 := [.long 0, .int 0, .int x0, .int 13, .ref 239]) rfl ?_
                  refine q_callV (N := 182) (vs := [.ref 239, .int 13, .int x0, .int 0, .long 0]) (rest := []) (L' := [some (.ref 239), some (.int x0), some (.int x1), some (.int x2), some (.int 13)]) rfl (mz_fe (e := (101, .invokevirtual 188, 172, (182, 5, 18), [])) (by decide +kernel)) rfl (mz_inv_virt (N := 182) (k := 5) (t := 18) (st := [.long 0, .int 0, .int x0, .int 13, .ref 239]) (rest := []) (b := 239) (vs := [.int 13, .int x0, .int 0, .long 0]) (h := (mz_S0, m)) rfl rfl (Nat.le_of_ble_eq_true rfl) (Nat.le_of_ble_eq_true rfl) tg_239 (by decide)) (mz_dc_lt (n := 6) rfl (by decide +kernel) (by decide +kernel)) (by decide +kernel) (by decide +kernel) (fun m330 => ?_)
                  refine q_ic (v := 1) (mz_fe (e := (104, .iconst 1, 1, (0, 0, 0), [])) (by decide +kernel)) (by decide) ?_
                  exact q_retI (mz_fe (e := (105, .ireturn, 1, (0, 0, 0), [])) (by decide +kernel)) (by decide +kernel)
              · refine q_bi (v := 15) (mz_fe (e := (81, .bipush 15, 2, (0, 0, 0), [])) (by decide +kernel)) (by decide) ?_
                refine q_s (mz_fe (e := (83, .istore 4, 2, (0, 0, 0), [])) (by decide +kernel)) (pc' := 85) (L' := [some (.ref 239), some (.int x0), some (.int x1), some (.int x2), some (.int 15)]) (st' := []) rfl ?_
                refine q_o (mz_fe (e := (85, .iload_n 2, 1, (0, 0, 0), [])) (by decide +kernel)) (pc2 := 86) rfl ?_
                refine q_bi (v := 60) (mz_fe (e := (86, .bipush 60, 2, (0, 0, 0), [])) (by decide +kernel)) (by decide) ?_
                refine q_if (c := .ne) (off := 7) (t := 95) (x := x1) (y := 60) (st := []) (mz_fe (e := (88, .if_icmp .ne 7, 3, (0, 0, 0), [])) (by decide +kernel)) (fun _ => rfl) rfl rfl rfl (fun c333 => ?_) (fun c333 => ?_)
                · refine q_o (mz_fe (e := (95, .aload_n 0, 1, (0, 0, 0), [])) (by decide +kernel)) (pc2 := 96) rfl ?_
                  refine q_o (mz_fe (e := (96, .iload 4, 2, (0, 0, 0), [])) (by decide +kernel)) (pc2 := 98) rfl ?_
                  refine q_o (mz_fe (e := (98, .iload_n 1, 1, (0, 0, 0), [])) (by decide +kernel)) (pc2 := 99) rfl ?_
                  refine q_ic (v := 0) (mz_fe (e := (99, .iconst 0, 1, (0, 0, 0), [])) (by decide +kernel)) (by decide) ?_
                  refine q_o (mz_fe (e := (100, .lconst 0, 1, (0, 0, 0), [])) (by decide +kernel)) (pc2 := 101) (st2 := [.long 0, .int 0, .int x0, .int 15, .ref 239]) rfl ?_
                  refine q_callV (N := 182) (vs := [.ref 239, .int 15, .int x0, .int 0, .long 0]) (rest := []) (L' := [some (.ref 239), some (.int x0), some (.int x1), some (.int x2), some (.int 15)]) rfl (mz_fe (e := (101, .invokevirtual 188, 172, (182, 5, 18), [])) (by decide +kernel)) rfl (mz_inv_virt (N := 182) (k := 5) (t := 18) (st := [.long 0, .int 0, .int x0, .int 15, .ref 239]) (rest := []) (b := 239) (vs := [.int 15, .int x0, .int 0, .long 0]) (h := (mz_S0, m)) rfl rfl (Nat.le_of_ble_eq_true rfl) (Nat.le_of_ble_eq_true rfl) tg_239 (by decide)) (mz_dc_lt (n := 6) rfl (by decide +kernel) (by decide +kernel)) (by decide +kernel) (by decide +kernel) (fun m334 => ?_)
                  refine q_ic (v := 1) (mz_fe (e := (104, .iconst 1, 1, (0, 0, 0), [])) (by decide +kernel)) (by decide) ?_
                  exact q_retI (mz_fe (e := (105, .ireturn, 1, (0, 0, 0), [])) (by decide +kernel)) (by decide +kernel)
                · refine q_bi (v := 13) (mz_fe (e := (91, .bipush 13, 2, (0, 0, 0), [])) (by decide +kernel)) (by decide) ?_
                  refine q_s (mz_fe (e := (93, .istore 4, 2, (0, 0, 0), [])) (by decide +kernel)) (pc' := 95) (L' := [some (.ref 239), some (.int x0), some (.int x1), some (.int x2), some (.int 13)]) (st' := []) rfl ?_
                  refine q_o (mz_fe (e := (95, .aload_n 0, 1, (0, 0, 0), [])) (by decide +kernel)) (pc2 := 96) rfl ?_
                  refine q_o (mz_fe (e := (96, .iload 4, 2, (0, 0, 0), [])) (by decide +kernel)) (pc2 := 98) rfl ?_
                  refine q_o (mz_fe (e := (98, .iload_n 1, 1, (0, 0, 0), [])) (by decide +kernel)) (pc2 := 99) rfl ?_
                  refine q_ic (v := 0) (mz_fe (e := (99, .iconst 0, 1, (0, 0, 0), [])) (by decide +kernel)) (by decide) ?_
                  refine q_o (mz_fe (e := (100, .lconst 0, 1, (0, 0, 0), [])) (by decide +kernel)) (pc2 := 101) (st2 := [.long 0, .int 0, .int x0, .int 13, .ref 239]) rfl ?_
                  refine q_callV (N := 182) (vs := [.ref 239, .int 13, .int x0, .int 0, .long 0]) (rest := []) (L' := [some (.ref 239), some (.int x0), some (.int x1), some (.int x2), some (.int 13)]) rfl (mz_fe (e := (101, .invokevirtual 188, 172, (182, 5, 18), [])) (by decide +kernel)) rfl (mz_inv_virt (N := 182) (k := 5) (t := 18) (st := [.long 0, .int 0, .int x0, .int 13, .ref 239]) (rest := []) (b := 239) (vs := [.int 13, .int x0, .int 0, .long 0]) (h := (mz_S0, m)) rfl rfl (Nat.le_of_ble_eq_true rfl) (Nat.le_of_ble_eq_true rfl) tg_239 (by decide)) (mz_dc_lt (n := 6) rfl (by decide +kernel) (by decide +kernel)) (by decide +kernel) (by decide +kernel) (fun m337 => ?_)
                  refine q_ic (v := 1) (mz_fe (e := (104, .iconst 1, 1, (0, 0, 0), [])) (by decide +kernel)) (by decide) ?_
                  exact q_retI (mz_fe (e := (105, .ireturn, 1, (0, 0, 0), [])) (by decide +kernel)) (by decide +kernel)
            · refine q_bi (v := 10) (mz_fe (e := (71, .bipush 10, 2, (0, 0, 0), [])) (by decide +kernel)) (by decide) ?_
              refine q_s (mz_fe (e := (73, .istore 4, 2, (0, 0, 0), [])) (by decide +kernel)) (pc' := 75) (L' := [some (.ref 239), some (.int x0), some (.int x1), some (.int x2), some (.int 10)]) (st' := []) rfl ?_
              refine q_o (mz_fe (e := (75, .iload_n 2, 1, (0, 0, 0), [])) (by decide +kernel)) (pc2 := 76) rfl ?_
              refine q_bi (v := 47) (mz_fe (e := (76, .bipush 47, 2, (0, 0, 0), [])) (by decide +kernel)) (by decide) ?_
              refine q_if (c := .ne) (off := 7) (t := 85) (x := x1) (y := 47) (st := []) (mz_fe (e := (78, .if_icmp .ne 7, 3, (0, 0, 0), [])) (by decide +kernel)) (fun _ => rfl) rfl rfl rfl (fun c340 => ?_) (fun c340 => ?_)
              · refine q_o (mz_fe (e := (85, .iload_n 2, 1, (0, 0, 0), [])) (by decide +kernel)) (pc2 := 86) rfl ?_
                refine q_bi (v := 60) (mz_fe (e := (86, .bipush 60, 2, (0, 0, 0), [])) (by decide +kernel)) (by decide) ?_
                refine q_if (c := .ne) (off := 7) (t := 95) (x := x1) (y := 60) (st := []) (mz_fe (e := (88, .if_icmp .ne 7, 3, (0, 0, 0), [])) (by decide +kernel)) (fun _ => rfl) rfl rfl rfl (fun c341 => ?_) (fun c341 => ?_)
                · refine q_o (mz_fe (e := (95, .aload_n 0, 1, (0, 0, 0), [])) (by decide +kernel)) (pc2 := 96) rfl ?_
                  refine q_o (mz_fe (e := (96, .iload 4, 2, (0, 0, 0), [])) (by decide +kernel)) (pc2 := 98) rfl ?_
                  refine q_o (mz_fe (e := (98, .iload_n 1, 1, (0, 0, 0), [])) (by decide +kernel)) (pc2 := 99) rfl ?_
                  refine q_ic (v := 0) (mz_fe (e := (99, .iconst 0, 1, (0, 0, 0), [])) (by decide +kernel)) (by decide) ?_
                  refine q_o (mz_fe (e := (100, .lconst 0, 1, (0, 0, 0), [])) (by decide +kernel)) (pc2 := 101) (st2 := [.long 0, .int 0, .int x0, .int 10, .ref 239]) rfl ?_
                  refine q_callV (N := 182) (vs := [.ref 239, .int 10, .int x0, .int 0, .long 0]) (rest := []) (L' := [some (.ref 239), some (.int x0), some (.int x1), some (.int x2), some (.int 10)]) rfl (mz_fe (e := (101, .invokevirtual 188, 172, (182, 5, 18), [])) (by decide +kernel)) rfl (mz_inv_virt (N := 182) (k := 5) (t := 18) (st := [.long 0, .int 0, .int x0, .int 10, .ref 239]) (rest := []) (b := 239) (vs := [.int 10, .int x0, .int 0, .long 0]) (h := (mz_S0, m)) rfl rfl (Nat.le_of_ble_eq_true rfl) (Nat.le_of_ble_eq_true rfl) tg_239 (by decide)) (mz_dc_lt (n := 6) rfl (by decide +kernel) (by decide +kernel)) (by decide +kernel) (by decide +kernel) (fun m342 => ?_)
                  refine q_ic (v := 1) (mz_fe (e := (104, .iconst 1, 1, (0, 0, 0), [])) (by decide +kernel)) (by decide) ?_
                  exact q_retI (mz_fe (e := (105, .ireturn, 1, (0, 0, 0), [])) (by decide +kernel)) (by decide +kernel)
                · refine q_bi (v := 13) (mz_fe (e := (91, .bipush 13, 2, (0, 0, 0), [])) (by decide +kernel)) (by decide) ?_
                  refine q_s (mz_fe (e := (93, .istore 4, 2, (0, 0, 0), [])) (by decide +kernel)) (pc' := 95) (L' := [some (.ref 239), some (.int x0), some (.int x1), some (.int x2), some (.int 13)]) (st' := []) rfl ?_
                  refine q_o (mz_fe (e := (95, .aload_n 0, 1, (0, 0, 0), [])) (by decide +kernel)) (pc2 := 96) rfl ?_
                  refine q_o (mz_fe (e := (96, .iload 4, 2, (0, 0, 0), [])) (by decide +kernel)) (pc2 := 98) rfl ?_
                  refine q_o (mz_fe (e := (98, .iload_n 1, 1, (0, 0, 0), [])) (by decide +kernel)) (pc2 := 99) rfl ?_
                  refine q_ic (v := 0) (mz_fe (e := (99, .iconst 0, 1, (0, 0, 0), [])) (by decide +kernel)) (by decide) ?_
                  refine q_o (mz_fe (e := (100, .lconst 0, 1, (0, 0, 0), [])) (by decide +kernel)) (pc2 := 101) (st2 := [.long 0, .int 0, .int x0, .int 13, .ref 239]) rfl ?_
                  refine q_callV (N := 182) (vs := [.ref 239, .int 13, .int x0, .int 0, .long 0]) (rest := []) (L' := [some (.ref 239), some (.int x0), some (.int x1), some (.int x2), some (.int 13)]) rfl (mz_fe (e := (101, .invokevirtual 188, 172, (182, 5, 18), [])) (by decide +kernel)) rfl (mz_inv_virt (N := 182) (k := 5) (t := 18) (st := [.long 0, .int 0, .int x0, .int 13, .ref 239]) (rest := []) (b := 239) (vs := [.int 13, .int x0, .int 0, .long 0]) (h := (mz_S0, m)) rfl rfl (Nat.le_of_ble_eq_true rfl) (Nat.le_of_ble_eq_true rfl) tg_239 (by decide)) (mz_dc_lt (n := 6) rfl (by decide +kernel) (by decide +kernel)) (by decide +kernel) (by decide +kernel) (fun m345 => ?_)
                  refine q_ic (v := 1) (mz_fe (e := (104, .iconst 1, 1, (0, 0, 0), [])) (by decide +kernel)) (by decide) ?_
                  exact q_retI (mz_fe (e := (105, .ireturn, 1, (0, 0, 0), [])) (by decide +kernel)) (by decide +kernel)
              · refine q_bi (v := 15) (mz_fe (e := (81, .bipush 15, 2, (0, 0, 0), [])) (by decide +kernel)) (by decide) ?_
                refine q_s (mz_fe (e := (83, .istore 4, 2, (0, 0, 0), [])) (by decide +kernel)) (pc' := 85) (L' := [some (.ref 239), some (.int x0), some (.int x1), some (.int x2), some (.int 15)]) (st' := []) rfl ?_
                refine q_o (mz_fe (e := (85, .iload_n 2, 1, (0, 0, 0), [])) (by decide +kernel)) (pc2 := 86) rfl ?_
                refine q_bi (v := 60) (mz_fe (e := (86, .bipush 60, 2, (0, 0, 0), [])) (by decide +kernel)) (by decide) ?_
                refine q_if (c := .ne) (off := 7) (t := 95) (x := x1) (y := 60) (st := []) (mz_fe (e := (88, .if_icmp .ne 7, 3, (0, 0, 0), [])) (by decide +kernel)) (fun _ => rfl) rfl rfl rfl (fun c348 => ?_) (fun c348 => ?_)
                · refine q_o (mz_fe (e := (95, .aload_n 0, 1, (0, 0, 0), [])) (by decide +kernel)) (pc2 := 96) rfl ?_
                  refine q_o (mz_fe (e := (96, .iload 4, 2, (0, 0, 0), [])) (by decide +kernel)) (pc2 := 98) rfl ?_
                  refine q_o (mz_fe (e := (98, .iload_n 1, 1, (0, 0, 0), [])) (by decide +kernel)) (pc2 := 99) rfl ?_
                  refine q_ic (v := 0) (mz_fe (e := (99, .iconst 0, 1, (0, 0, 0), [])) (by decide +kernel)) (by decide) ?_
                  refine q_o (mz_fe (e := (100, .lconst 0, 1, (0, 0, 0), [])) (by decide +kernel)) (pc2 := 101) (st2 := [.long 0, .int 0, .int x0, .int 15, .ref 239]) rfl ?_
                  refine q_callV (N := 182) (vs := [.ref 239, .int 15, .int x0, .int 0, .long 0]) (rest := []) (L' := [some (.ref 239), some (.int x0), some (.int x1), some (.int x2), some (.int 15)]) rfl (mz_fe (e := (101, .invokevirtual 188, 172, (182, 5, 18), [])) (by decide +kernel)) rfl (mz_inv_virt (N := 182) (k := 5) (t := 18) (st := [.long 0, .int 0, .int x0, .int 15, .ref 239]) (rest := []) (b := 239) (vs := [.int 15, .int x0, .int 0, .long 0]) (h := (mz_S0, m)) rfl rfl (Nat.le_of_ble_eq_true rfl) (Nat.le_of_ble_eq_true rfl) tg_239 (by decide)) (mz_dc_lt (n := 6) rfl (by decide +kernel) (by decide +kernel)) (by decide +kernel) (by decide +kernel) (fun m349 => ?_)
                  refine q_ic (v := 1) (mz_fe (e := (104, .iconst 1, 1, (0, 0, 0), [])) (by decide +kernel)) (by decide) ?_
                  exact q_retI (mz_fe (e := (105, .ireturn, 1, (0, 0, 0), [])) (by decide +kernel)) (by decide +kernel)
                · refine q_bi (v := 13) (mz_fe (e := (91, .bipush 13, 2, (0, 0, 0), [])) (by decide +kernel)) (by decide) ?_
                  refine q_s (mz_fe (e := (93, .istore 4, 2, (0, 0, 0), [])) (by decide +kernel)) (pc' := 95) (L' := [some (.ref 239), some (.int x0), some (.int x1), some (.int x2), some (.int 13)]) (st' := []) rfl ?_
                  refine q_o (mz_fe (e := (95, .aload_n 0, 1, (0, 0, 0), [])) (by decide +kernel)) (pc2 := 96) rfl ?_
                  refine q_o (mz_fe (e := (96, .iload 4, 2, (0, 0, 0), [])) (by decide +kernel)) (pc2 := 98) rfl ?_
                  refine q_o (mz_fe (e := (98, .iload_n 1, 1, (0, 0, 0), [])) (by decide +kernel)) (pc2 := 99) rfl ?_
                  refine q_ic (v := 0) (mz_fe (e := (99, .iconst 0, 1, (0, 0, 0), [])) (by decide +kernel)) (by decide) ?_
                  refine q_o (mz_fe (e := (100, .lconst 0, 1, (0, 0, 0), [])) (by decide +kernel)) (pc2 := 101) (st2 := [.long 0, .int 0, .int x0, .int 13, .ref 239]) rfl ?_
                  refine q_callV (N := 182) (vs := [.ref 239, .int 13, .int x0, .int 0, .long 0]) (rest := []) (L' := [some (.ref 239), some (.int x0), some (.int x1), some (.int x2), some (.int 13)]) rfl (mz_fe (e := (101, .invokevirtual 188, 172, (182, 5, 18), [])) (by decide +kernel)) rfl (mz_inv_virt (N := 182) (k := 5) (t := 18) (st := [.long 0, .int 0, .int x0, .int 13, .ref 239]) (rest := []) (b := 239) (vs := [.int 13, .int x0, .int 0, .long 0]) (h := (mz_S0, m)) rfl rfl (Nat.le_of_ble_eq_true rfl) (Nat.le_of_ble_eq_true rfl) tg_239 (by decide)) (mz_dc_lt (n := 6) rfl (by decide +kernel) (by decide +kernel)) (by decide +kernel) (by decide +kernel) (fun m352 => ?_)
                  refine q_ic (v := 1) (mz_fe (e := (104, .iconst 1, 1, (0, 0, 0), [])) (by decide +kernel)) (by decide) ?_
                  exact q_retI (mz_fe (e := (105, .ireturn, 1, (0, 0, 0), [])) (by decide +kernel)) (by decide +kernel)
          · refine q_bi (v := 9) (mz_fe (e := (61, .bipush 9, 2, (0, 0, 0), [])) (by decide +kernel)) (by decide) ?_
            refine q_s (mz_fe (e := (63, .istore 4, 2, (0, 0, 0), [])) (by decide +kernel)) (pc' := 65) (L' := [some (.ref 239), some (.int x0), some (.int x1), some (.int x2), some (.int 9)]) (st' := []) rfl ?_
            refine q_o (mz_fe (e := (65, .iload_n 2, 1, (0, 0, 0), [])) (by decide +kernel)) (pc2 := 66) rfl ?_
            refine q_bi (v := 42) (mz_fe (e := (66, .bipush 42, 2, (0, 0, 0), [])) (by decide +kernel)) (by decide) ?_
            refine q_if (c := .ne) (off := 7) (t := 75) (x := x1) (y := 42) (st := []) (mz_fe (e := (68, .if_icmp .ne 7, 3, (0, 0, 0), [])) (by decide +kernel)) (fun _ => rfl) rfl rfl rfl (fun c355 => ?_) (fun c355 => ?_)
            · refine q_o (mz_fe (e := (75, .iload_n 2, 1, (0, 0, 0), [])) (by decide +kernel)) (pc2 := 76) rfl ?_
              refine q_bi (v := 47) (mz_fe (e := (76, .bipush 47, 2, (0, 0, 0), [])) (by decide +kernel)) (by decide) ?_
              refine q_if (c := .ne) (off := 7) (t := 85) (x := x1) (y := 47) (st := []) (mz_fe (e := (78, .if_icmp .ne 7, 3, (0, 0, 0), [])) (by decide +kernel)) (fun _ => rfl) rfl rfl rfl (fun c356 => ?_) (fun c356 => ?_)
              · refine q_o (mz_fe (e := (85, .iload_n 2, 1, (0, 0, 0), [])) (by decide +kernel)) (pc2 := 86) rfl ?_
                refine q_bi (v := 60) (mz_fe (e := (86, .bipush 60, 2, (0, 0, 0), [])) (by decide +kernel)) (by decide) ?_
                refine q_if (c := .ne) (off := 7) (t := 95) (x := x1) (y := 60) (st := []) (mz_fe (e := (88, .if_icmp .ne 7, 3, (0, 0, 0), [])) (by decide +kernel)) (fun _ => rfl) rfl rfl rfl (fun c357 => ?_) (fun c357 => ?_)
                · refine q_o (mz_fe (e := (95, .aload_n 0, 1, (0, 0, 0), [])) (by decide +kernel)) (pc2 := 96) rfl ?_
                  refine q_o (mz_fe (e := (96, .iload 4, 2, (0, 0, 0), [])) (by decide +kernel)) (pc2 := 98) rfl ?_
                  refine q_o (mz_fe (e := (98, .iload_n 1, 1, (0, 0, 0), [])) (by decide +kernel)) (pc2 := 99) rfl ?_
                  refine q_ic (v := 0) (mz_fe (e := (99, .iconst 0, 1, (0, 0, 0), [])) (by decide +kernel)) (by decide) ?_
                  refine q_o (mz_fe (e := (100, .lconst 0, 1, (0, 0, 0), [])) (by decide +kernel)) (pc2 := 101) (st2 := [.long 0, .int 0, .int x0, .int 9, .ref 239]) rfl ?_
                  refine q_callV (N := 182) (vs := [.ref 239, .int 9, .int x0, .int 0, .long 0]) (rest := []) (L' := [some (.ref 239), some (.int x0), some (.int x1), some (.int x2), some (.int 9)]) rfl (mz_fe (e := (101, .invokevirtual 188, 172, (182, 5, 18), [])) (by decide +kernel)) rfl (mz_inv_virt (N := 182) (k := 5) (t := 18) (st := [.long 0, .int 0, .int x0, .int 9, .ref 239]) (rest := []) (b := 239) (vs := [.int 9, .int x0, .int 0, .long 0]) (h := (mz_S0, m)) rfl rfl (Nat.le_of_ble_eq_true rfl) (Nat.le_of_ble_eq_true rfl) tg_239 (by decide)) (mz_dc_lt (n := 6) rfl (by decide +kernel) (by decide +kernel)) (by decide +kernel) (by decide +kernel) (fun m358 => ?_)
                  refine q_ic (v := 1) (mz_fe (e := (104, .iconst 1, 1, (0, 0, 0), [])) (by decide +kernel)) (by decide) ?_
                  exact q_retI (mz_fe (e := (105, .ireturn, 1, (0, 0, 0), [])) (by decide +kernel)) (by decide +kernel)
                · refine q_bi (v := 13) (mz_fe (e := (91, .bipush 13, 2, (0, 0, 0), [])) (by decide +kernel)) (by decide) ?_
                  refine q_s (mz_fe (e := (93, .istore 4, 2, (0, 0, 0), [])) (by decide +kernel)) (pc' := 95) (L' := [some (.ref 239), some (.int x0), some (.int x1), some (.int x2), some (.int 13)]) (st' := []) rfl ?_
                  refine q_o (mz_fe (e := (95, .aload_n 0, 1, (0, 0, 0), [])) (by decide +kernel)) (pc2 := 96) rfl ?_
                  refine q_o (mz_fe (e := (96, .iload 4, 2, (0, 0, 0), [])) (by decide +kernel)) (pc2 := 98) rfl ?_
                  refine q_o (mz_fe (e := (98, .iload_n 1, 1, (0, 0, 0), [])) (by decide +kernel)) (pc2 := 99) rfl ?_
                  refine q_ic (v := 0) (mz_fe (e := (99, .iconst 0, 1, (0, 0, 0), [])) (by decide +kernel)) (by decide) ?_
                  refine q_o (mz_fe (e := (100, .lconst 0, 1, (0, 0, 0), [])) (by decide +kernel)) (pc2 := 101) (st2 := [.long 0, .int 0, .int x0, .int 13, .ref 239]) rfl ?_
                  refine q_callV (N := 182) (vs := [.ref 239, .int 13, .int x0, .int 0, .long 0]) (rest := []) (L' := [some (.ref 239), some (.int x0), some (.int x1), some (.int x2), some (.int 13)]) rfl (mz_fe (e := (101, .invokevirtual 188, 172, (182, 5, 18), [])) (by decide +kernel)) rfl (mz_inv_virt (N := 182) (k := 5) (t := 18) (st := [.long 0, .int 0, .int x0, .int 13, .ref 239]) (rest := []) (b := 239) (vs := [.int 13, .int x0, .int 0, .long 0]) (h := (mz_S0, m)) rfl rfl (Nat.le_of_ble_eq_true rfl) (Nat.le_of_ble_eq_true rfl) tg_239 (by decide)) (mz_dc_lt (n := 6) rfl (by decide +kernel) (by decide +kernel)) (by decide +kernel) (by decide +kernel) (fun m361 => ?_)
                  refine q_ic (v := 1) (mz_fe (e := (104, .iconst 1, 1, (0, 0, 0), [])) (by decide +kernel)) (by decide) ?_
                  exact q_retI (mz_fe (e := (105, .ireturn, 1, (0, 0, 0), [])) (by decide +kernel)) (by decide +kernel)
              · refine q_bi (v := 15) (mz_fe (e := (81, .bipush 15, 2, (0, 0, 0), [])) (by decide +kernel)) (by decide) ?_
                refine q_s (mz_fe (e := (83, .istore 4, 2, (0, 0, 0), [])) (by decide +kernel)) (pc' := 85) (L' := [some (.ref 239), some (.int x0), some (.int x1), some (.int x2), some (.int 15)]) (st' := []) rfl ?_
                refine q_o (mz_fe (e := (85, .iload_n 2, 1, (0, 0, 0), [])) (by decide +kernel)) (pc2 := 86) rfl ?_
                refine q_bi (v := 60) (mz_fe (e := (86, .bipush 60, 2, (0, 0, 0), [])) (by decide +kernel)) (by decide) ?_
                refine q_if (c := .ne) (off := 7) (t := 95) (x := x1) (y := 60) (st := []) (mz_fe (e := (88, .if_icmp .ne 7, 3, (0, 0, 0), [])) (by decide +kernel)) (fun _ => rfl) rfl rfl rfl (fun c364 => ?_) (fun c364 => ?_)
                · refine q_o (mz_fe (e := (95, .aload_n 0, 1, (0, 0, 0), [])) (by decide +kernel)) (pc2 := 96) rfl ?_
                  refine q_o (mz_fe (e := (96, .iload 4, 2, (0, 0, 0), [])) (by decide +kernel)) (pc2 := 98) rfl ?_
                  refine q_o (mz_fe (e := (98, .iload_n 1, 1, (0, 0, 0), [])) (by decide +kernel)) (pc2 := 99) rfl ?_
                  refine q_ic (v := 0) (mz_fe (e := (99, .iconst 0, 1, (0, 0, 0), [])) (by decide +kernel)) (by decide) ?_
                  refine q_o (mz_fe (e := (100, .lconst 0, 1, (0, 0, 0), [])) (by decide +kernel)) (pc2 := 101) (st2 := [.long 0, .int 0, .int x0, .int 15, .ref 239]) rfl ?_
                  refine q_callV (N := 182) (vs := [.ref 239, .int 15, .int x0, .int 0, .long 0]) (rest := []) (L' := [some (.ref 239), some (.int x0), some (.int x1), some (.int x2), some (.int 15)]) rfl (mz_fe (e := (101, .invokevirtual 188, 172, (182, 5, 18), [])) (by decide +kernel)) rfl (mz_inv_virt (N := 182) (k := 5) (t := 18) (st := [.long 0, .int 0, .int x0, .int 15, .ref 239]) (rest := []) (b := 239) (vs := [.int 15, .int x0, .int 0, .long 0]) (h := (mz_S0, m)) rfl rfl (Nat.le_of_ble_eq_true rfl) (Nat.le_of_ble_eq_true rfl) tg_239 (by decide)) (mz_dc_lt (n := 6) rfl (by decide +kernel) (by decide +kernel)) (by decide +kernel) (by decide +kernel) (fun m365 => ?_)
                  refine q_ic (v := 1) (mz_fe (e := (104, .iconst 1, 1, (0, 0, 0), [])) (by decide +kernel)) (by decide) ?_
                  exact q_retI (mz_fe (e := (105, .ireturn, 1, (0, 0, 0), [])) (by decide +kernel)) (by decide +kernel)
                · refine q_bi (v := 13) (mz_fe (e := (91, .bipush 13, 2, (0, 0, 0), [])) (by decide +kernel)) (by decide) ?_
                  refine q_s (mz_fe (e := (93, .istore 4, 2, (0, 0, 0), [])) (by decide +kernel)) (pc' := 95) (L' := [some (.ref 239), some (.int x0), some (.int x1), some (.int x2), some (.int 13)]) (st' := []) rfl ?_
                  refine q_o (mz_fe (e := (95, .aload_n 0, 1, (0, 0, 0), [])) (by decide +kernel)) (pc2 := 96) rfl ?_
                  refine q_o (mz_fe (e := (96, .iload 4, 2, (0, 0, 0), [])) (by decide +kernel)) (pc2 := 98) rfl ?_
                  refine q_o (mz_fe (e := (98, .iload_n 1, 1, (0, 0, 0), [])) (by decide +kernel)) (pc2 := 99) rfl ?_
                  refine q_ic (v := 0) (mz_fe (e := (99, .iconst 0, 1, (0, 0, 0), [])) (by decide +kernel)) (by decide) ?_
                  refine q_o (mz_fe (e := (100, .lconst 0, 1, (0, 0, 0), [])) (by decide +kernel)) (pc2 := 101) (st2 := [.long 0, .int 0, .int x0, .int 13, .ref 239]) rfl ?_
                  refine q_callV (N := 182) (vs := [.ref 239, .int 13, .int x0, .int 0, .long 0]) (rest := []) (L' := [some (.ref 239), some (.int x0), some (.int x1), some (.int x2), some (.int 13)]) rfl (mz_fe (e := (101, .invokevirtual 188, 172, (182, 5, 18), [])) (by decide +kernel)) rfl (mz_inv_virt (N := 182) (k := 5) (t := 18) (st := [.long 0, .int 0, .int x0, .int 13, .ref 239]) (rest := []) (b := 239) (vs := [.int 13, .int x0, .int 0, .long 0]) (h := (mz_S0, m)) rfl rfl (Nat.le_of_ble_eq_true rfl) (Nat.le_of_ble_eq_true rfl) tg_239 (by decide)) (mz_dc_lt (n := 6) rfl (by decide +kernel) (by decide +kernel)) (by decide +kernel) (by decide +kernel) (fun m368 => ?_)
                  refine q_ic (v := 1) (mz_fe (e := (104, .iconst 1, 1, (0, 0, 0), [])) (by decide +kernel)) (by decide) ?_
                  exact q_retI (mz_fe (e := (105, .ireturn, 1, (0, 0, 0), [])) (by decide +kernel)) (by decide +kernel)
            · refine q_bi (v := 10) (mz_fe (e := (71, .bipush 10, 2, (0, 0, 0), [])) (by decide +kernel)) (by decide) ?_
              refine q_s (mz_fe (e := (73, .istore 4, 2, (0, 0, 0), [])) (by decide +kernel)) (pc' := 75) (L' := [some (.ref 239), some (.int x0), some (.int x1), some (.int x2), some (.int 10)]) (st' := []) rfl ?_
              refine q_o (mz_fe (e := (75, .iload_n 2, 1, (0, 0, 0), [])) (by decide +kernel)) (pc2 := 76) rfl ?_
              refine q_bi (v := 47) (mz_fe (e := (76, .bipush 47, 2, (0, 0, 0), [])) (by decide +kernel)) (by decide) ?_
              refine q_if (c := .ne) (off := 7) (t := 85) (x := x1) (y := 47) (st := []) (mz_fe (e := (78, .if_icmp .ne 7, 3, (0, 0, 0), [])) (by decide +kernel)) (fun _ => rfl) rfl rfl rfl (fun c371 => ?_) (fun c371 => ?_)
              · refine q_o (mz_fe (e := (85, .iload_n 2, 1, (0, 0, 0), [])) (by decide +kernel)) (pc2 := 86) rfl ?_
                refine q_bi (v := 60) (mz_fe (e := (86, .bipush 60, 2, (0, 0, 0), [])) (by decide +kernel)) (by decide) ?_
                refine q_if (c := .ne) (off := 7) (t := 95) (x := x1) (y := 60) (st := []) (mz_fe (e := (88, .if_icmp .ne 7, 3, (0, 0, 0), [])) (by decide +kernel)) (fun _ => rfl) rfl rfl rfl (fun c372 => ?_) (fun c372 => ?_)
                · refine q_o (mz_fe (e := (95, .aload_n 0, 1, (0, 0, 0), [])) (by decide +kernel)) (pc2 := 96) rfl ?_
                  refine q_o (mz_fe (e := (96, .iload 4, 2, (0, 0, 0), [])) (by decide +kernel)) (pc2 := 98) rfl ?_
                  refine q_o (mz_fe (e := (98, .iload_n 1, 1, (0, 0, 0), [])) (by decide +kernel)) (pc2 := 99) rfl ?_
                  refine q_ic (v := 0) (mz_fe (e := (99, .iconst 0, 1, (0, 0, 0), [])) (by decide +kernel)) (by decide) ?_
                  refine q_o (mz_fe (e := (100, .lconst 0, 1, (0, 0, 0), [])) (by decide +kernel)) (pc2 := 101) (st2 := [.long 0, .int 0, .int x0, .int 10, .ref 239]) rfl ?_
                  refine q_callV (N := 182) (vs := [.ref 239, .int 10, .int x0, .int 0, .long 0]) (rest := []) (L' := [some (.ref 239), some (.int x0), some (.int x1), some (.int x2), some (.int 10)]) rfl (mz_fe (e := (101, .invokevirtual 188, 172, (182, 5, 18), [])) (by decide +kernel)) rfl (mz_inv_virt (N := 182) (k := 5) (t := 18) (st := [.long 0, .int 0, .int x0, .int 10, .ref 239]) (rest := []) (b := 239) (vs := [.int 10, .int x0, .int 0, .long 0]) (h := (mz_S0, m)) rfl rfl (Nat.le_of_ble_eq_true rfl) (Nat.le_of_ble_eq_true rfl) tg_239 (by decide)) (mz_dc_lt (n := 6) rfl (by decide +kernel) (by decide +kernel)) (by decide +kernel) (by decide +kernel) (fun m373 => ?_)
                  refine q_ic (v := 1) (mz_fe (e := (104, .iconst 1, 1, (0, 0, 0), [])) (by decide +kernel)) (by decide) ?_
                  exact q_retI (mz_fe (e := (105, .ireturn, 1, (0, 0, 0), [])) (by decide +kernel)) (by decide +kernel)
                · refine q_bi (v := 13) (mz_fe (e := (91, .bipush 13, 2, (0, 0, 0), [])) (by decide +kernel)) (by decide) ?_
                  refine q_s (mz_fe (e := (93, .istore 4, 2, (0, 0, 0), [])) (by decide +kernel)) (pc' := 95) (L' := [some (.ref 239), some (.int x0), some (.int x1), some (.int x2), some (.int 13)]) (st' := []) rfl ?_
                  refine q_o (mz_fe (e := (95, .aload_n 0, 1, (0, 0, 0), [])) (by decide +kernel)) (pc2 := 96) rfl ?_
                  refine q_o (mz_fe (e := (96, .iload 4, 2, (0, 0, 0), [])) (by decide +kernel)) (pc2 := 98) rfl ?_
                  refine q_o (mz_fe (e := (98, .iload_n 1, 1, (0, 0, 0), [])) (by decide +kernel)) (pc2 := 99) rfl ?_
                  refine q_ic (v := 0) (mz_fe (e := (99, .iconst 0, 1, (0, 0, 0), [])) (by decide +kernel)) (by decide) ?_
                  refine q_o (mz_fe (e := (100, .lconst 0, 1, (0, 0, 0), [])) (by decide +kernel)) (pc2 := 101) (st2 := [.long 0, .int 0, .int x0, .int 13, .ref 239]) rfl ?_
                  refine q_callV (N := 182) (vs := [.ref 239, .int 13, .int x0, .int 0, .long 0]) (rest := []) (L' := [some (.ref 239), some (.int x0), some (.int x1), some (.int x2), some (.int 13)]) rfl (mz_fe (e := (101, .invokevirtual 188, 172, (182, 5, 18), [])) (by decide +kernel)) rfl (mz_inv_virt (N := 182) (k := 5) (t := 18) (st := [.long 0, .int 0, .int x0, .int 13, .ref 239]) (rest := []) (b := 239) (vs := [.int 13, .int x0, .int 0, .long 0]) (h := (mz_S0, m)) rfl rfl (Nat.le_of_ble_eq_true rfl) (Nat.le_of_ble_eq_true rfl) tg_239 (by decide)) (mz_dc_lt (n := 6) rfl (by decide +kernel) (by decide +kernel)) (by decide +kernel) (by decide +kernel) (fun m376 => ?_)
                  refine q_ic (v := 1) (mz_fe (e := (104, .iconst 1, 1, (0, 0, 0), [])) (by decide +kernel)) (by decide) ?_
                  exact q_retI (mz_fe (e := (105, .ireturn, 1, (0, 0, 0), [])) (by decide +kernel)) (by decide +kernel)
              · refine q_bi (v := 15) (mz_fe (e := (81, .bipush 15, 2, (0, 0, 0), [])) (by decide +kernel)) (by decide) ?_
                refine q_s (mz_fe (e := (83, .istore 4, 2, (0, 0, 0), [])) (by decide +kernel)) (pc' := 85) (L' := [some (.ref 239), some (.int x0), some (.int x1), some (.int x2), some (.int 15)]) (st' := []) rfl ?_
                refine q_o (mz_fe (e := (85, .iload_n 2, 1, (0, 0, 0), [])) (by decide +kernel)) (pc2 := 86) rfl ?_
                refine q_bi (v := 60) (mz_fe (e := (86, .bipush 60, 2, (0, 0, 0), [])) (by decide +kernel)) (by decide) ?_
                refine q_if (c := .ne) (off := 7) (t := 95) (x := x1) (y := 60) (st := []) (mz_fe (e := (88, .if_icmp .ne 7, 3, (0, 0, 0), [])) (by decide +kernel)) (fun _ => rfl) rfl rfl rfl (fun c379 => ?_) (fun c379 => ?_)
                · refine q_o (mz_fe (e := (95, .aload_n 0, 1, (0, 0, 0), [])) (by decide +kernel)) (pc2 := 96) rfl ?_
                  refine q_o (mz_fe (e := (96, .iload 4, 2, (0, 0, 0), [])) (by decide +kernel)) (pc2 := 98) rfl ?_
                  refine q_o (mz_fe (e := (98, .iload_n 1, 1, (0, 0, 0), [])) (by decide +kernel)) (pc2 := 99) rfl ?_
                  refine q_ic (v := 0) (mz_fe (e := (99, .iconst 0, 1, (0, 0, 0), [])) (by decide +kernel)) (by decide) ?_
                  refine q_o (mz_fe (e := (100, .lconst 0, 1, (0, 0, 0), [])) (by decide +kernel)) (pc2 := 101) (st2 := [.long 0, .int 0, .int x0, .int 15, .ref 239]) rfl ?_
                  refine q_callV (N := 182) (vs := [.ref 239, .int 15, .int x0, .int 0, .long 0]) (rest := []) (L' := [some (.ref 239), some (.int x0), some (.int x1), some (.int x2), some (.int 15)]) rfl (mz_fe (e := (101, .invokevirtual 188, 172, (182, 5, 18), [])) (by decide +kernel)) rfl (mz_inv_virt (N := 182) (k := 5) (t := 18) (st := [.long 0, .int 0, .int x0, .int 15, .ref 239]) (rest := []) (b := 239) (vs := [.int 15, .int x0, .int 0, .long 0]) (h := (mz_S0, m)) rfl rfl (Nat.le_of_ble_eq_true rfl) (Nat.le_of_ble_eq_true rfl) tg_239 (by decide)) (mz_dc_lt (n := 6) rfl (by decide +kernel) (by decide +kernel)) (by decide +kernel) (by decide +kernel) (fun m380 => ?_)
                  refine q_ic (v := 1) (mz_fe (e := (104, .iconst 1, 1, (0, 0, 0), [])) (by decide +kernel)) (by decide) ?_
                  exact q_retI (mz_fe (e := (105, .ireturn, 1, (0, 0, 0), [])) (by decide +kernel)) (by decide +kernel)
                · refine q_bi (v := 13) (mz_fe (e := (91, .bipush 13, 2, (0, 0, 0), [])) (by decide +kernel)) (by decide) ?_
                  refine q_s (mz_fe (e := (93, .istore 4, 2, (0, 0, 0), [])) (by decide +kernel)) (pc' := 95) (L' := [some (.ref 239), some (.int x0), some (.int x1), some (.int x2), some (.int 13)]) (st' := []) rfl ?_
                  refine q_o (mz_fe (e := (95, .aload_n 0, 1, (0, 0, 0), [])) (by decide +kernel)) (pc2 := 96) rfl ?_
                  refine q_o (mz_fe (e := (96, .iload 4, 2, (0, 0, 0), [])) (by decide +kernel)) (pc2 := 98) rfl ?_
                  refine q_o (mz_fe (e := (98, .iload_n 1, 1, (0, 0, 0), [])) (by decide +kernel)) (pc2 := 99) rfl ?_
                  refine q_ic (v := 0) (mz_fe (e := (99, .iconst 0, 1, (0, 0, 0), [])) (by decide +kernel)) (by decide) ?_
                  refine q_o (mz_fe (e := (100, .lconst 0, 1, (0, 0, 0), [])) (by decide +kernel)) (pc2 := 101) (st2 := [.long 0, .int 0, .int x0, .int 13, .ref 239]) rfl ?_
                  refine q_callV (N := 182) (vs := [.ref 239, .int 13, .int x0, .int 0, .long 0]) (rest := []) (L' := [some (.ref 239), some (.int x0), some (.int x1), some (.int x2), some (.int 13)]) rfl (mz_fe (e := (101, .invokevirtual 188, 172, (182, 5, 18), [])) (by decide +kernel)) rfl (mz_inv_virt (N := 182) (k := 5) (t := 18) (st := [.long 0, .int 0, .int x0, .int 13, .ref 239]) (rest := []) (b := 239) (vs := [.int 13, .int x0, .int 0, .long 0]) (h := (mz_S0, m)) rfl rfl (Nat.le_of_ble_eq_true rfl) (Nat.le_of_ble_eq_true rfl) tg_239 (by decide)) (mz_dc_lt (n := 6) rfl (by decide +kernel) (by decide +kernel)) (by decide +kernel) (by decide +kernel) (fun m383 => ?_)
                  refine q_ic (v := 1) (mz_fe (e := (104, .iconst 1, 1, (0, 0, 0), [])) (by decide +kernel)) (by decide) ?_
                  exact q_retI (mz_fe (e := (105, .ireturn, 1, (0, 0, 0), [])) (by decide +kernel)) (by decide +kernel)
    · refine q_ic (v := 5) (mz_fe (e := (16, .iconst 5, 1, (0, 0, 0), [])) (by decide +kernel)) (by decide) ?_
      refine q_o (mz_fe (e := (17, .goto 26, 3, (0, 0, 0), [])) (by decide +kernel)) (pc2 := 43) rfl ?_
      refine q_s (mz_fe (e := (43, .istore 4, 2, (0, 0, 0), [])) (by decide +kernel)) (pc' := 45) (L' := [some (.ref 239), some (.int x0), some (.int x1), some (.int x2), some (.int 5)]) (st' := []) rfl ?_
      refine q_o (mz_fe (e := (45, .iload_n 2, 1, (0, 0, 0), [])) (by decide +kernel)) (pc2 := 46) rfl ?_
      refine q_bi (v := 43) (mz_fe (e := (46, .bipush 43, 2, (0, 0, 0), [])) (by decide +kernel)) (by decide) ?_
      refine q_if (c := .ne) (off := 7) (t := 55) (x := x1) (y := 43) (st := []) (mz_fe (e := (48, .if_icmp .ne 7, 3, (0, 0, 0), [])) (by decide +kernel)) (fun _ => rfl) rfl rfl rfl (fun c386 => ?_) (fun c386 => ?_)
      · refine q_o (mz_fe (e := (55, .iload_n 2, 1, (0, 0, 0), [])) (by decide +kernel)) (pc2 := 56) rfl ?_
        refine q_bi (v := 45) (mz_fe (e := (56, .bipush 45, 2, (0, 0, 0), [])) (by decide +kernel)) (by decide) ?_
        refine q_if (c := .ne) (off := 7) (t := 65) (x := x1) (y := 45) (st := []) (mz_fe (e := (58, .if_icmp .ne 7, 3, (0, 0, 0), [])) (by decide +kernel)) (fun _ => rfl) rfl rfl rfl (fun c387 => ?_) (fun c387 => ?_)
        · refine q_o (mz_fe (e := (65, .iload_n 2, 1, (0, 0, 0), [])) (by decide +kernel)) (pc2 := 66) rfl ?_
          refine q_bi (v := 42) (mz_fe (e := (66, .bipush 42, 2, (0, 0, 0), [])) (by decide +kernel)) (by decide) ?_
          refine q_if (c := .ne) (off := 7) (t := 75) (x := x1) (y := 42) (st := []) (mz_fe (e := (68, .if_icmp .ne 7, 3, (0, 0, 0), [])) (by decide +kernel)) (fun _ => rfl) rfl rfl rfl (fun c388 => ?_) (fun c388 => ?_)
          · refine q_o (mz_fe (e := (75, .iload_n 2, 1, (0, 0, 0), [])) (by decide +kernel)) (pc2 := 76) rfl ?_
            refine q_bi (v := 47) (mz_fe (e := (76, .bipush 47, 2, (0, 0, 0), [])) (by decide +kernel)) (by decide) ?_
            refine q_if (c := .ne) (off := 7) (t := 85) (x := x1) (y := 47) (st := []) (mz_fe (e := (78, .if_icmp .ne 7, 3, (0, 0, 0), [])) (by decide +kernel)) (fun _ => rfl) rfl rfl rfl (fun c389 => ?_) (fun c389 => ?_)
            · refine q_o (mz_fe (e := (85, .iload_n 2, 1, (0, 0, 0), [])) (by decide +kernel)) (pc2 := 86) rfl ?_
              refine q_bi (v := 60) (mz_fe (e := (86, .bipush 60, 2, (0, 0, 0), [])) (by decide +kernel)) (by decide) ?_
              refine q_if (c := .ne) (off := 7) (t := 95) (x := x1) (y := 60) (st := []) (mz_fe (e := (88, .if_icmp .ne 7, 3, (0, 0, 0), [])) (by decide +kernel)) (fun _ => rfl) rfl rfl rfl (fun c390 => ?_) (fun c390 => ?_)
              · refine q_o (mz_fe (e := (95, .aload_n 0, 1, (0, 0, 0), [])) (by decide +kernel)) (pc2 := 96) rfl ?_
                refine q_o (mz_fe (e := (96, .iload 4, 2, (0, 0, 0), [])) (by decide +kernel)) (pc2 := 98) rfl ?_
                refine q_o (mz_fe (e := (98, .iload_n 1, 1, (0, 0, 0), [])) (by decide +kernel)) (pc2 := 99) rfl ?_
                refine q_ic (v := 0) (mz_fe (e := (99, .iconst 0, 1, (0, 0, 0), [])) (by decide +kernel)) (by decide) ?_
                refine q_o (mz_fe (e := (100, .lconst 0, 1, (0, 0, 0), [])) (by decide +kernel)) (pc2 := 101) (st2 := [.long 0, .int 0, .int x0, .int 5, .ref 239]) rfl ?_
                refine q_callV (N := 182) (vs := [.ref 239, .int 5, .int x0, .int 0, .long 0]) (rest := []) (L' := [some (.ref 239), some (.int x0), some (.int x1), some (.int x2), some (.int 5)]) rfl (mz_fe (e := (101, .invokevirtual 188, 172, (182, 5, 18), [])) (by decide +kernel)) rfl (mz_inv_virt (N := 182) (k := 5) (t := 18) (st := [.long 0, .int 0, .int x0, .int 5, .ref 239]) (rest := []) (b := 239) (vs := [.int 5, .int x0, .int 0, .long 0]) (h := (mz_S0, m)) rfl rfl (Nat.le_of_ble_eq_true rfl) (Nat.le_of_ble_eq_true rfl) tg_239 (by decide)) (mz_dc_lt (n := 6) rfl (by decide +kernel) (by decide +kernel)) (by decide +kernel) (by decide +kernel) (fun m391 => ?_)
                refine q_ic (v := 1) (mz_fe (e := (104, .iconst 1, 1, (0, 0, 0), [])) (by decide +kernel)) (by decide) ?_
                exact q_retI (mz_fe (e := (105, .ireturn, 1, (0, 0, 0), [])) (by decide +kernel)) (by decide +kernel)
              · refine q_bi (v := 13) (mz_fe (e := (91, .bipush 13, 2, (0, 0, 0), [])) (by decide +kernel)) (by decide) ?_
                refine q_s (mz_fe (e := (93, .istore 4, 2, (0, 0, 0), [])) (by decide +kernel)) (pc' := 95) (L' := [some (.ref 239), some (.int x0), some (.int x1), some (.int x2), some (.int 13)]) (st' := []) rfl ?_
                refine q_o (mz_fe (e := (95, .aload_n 0, 1, (0, 0, 0), [])) (by decide +kernel)) (pc2 := 96) rfl ?_
                refine q_o (mz_fe (e := (96, .iload 4, 2, (0, 0, 0), [])) (by decide +kernel)) (pc2 := 98) rfl ?_
                refine q_o (mz_fe (e := (98, .iload_n 1, 1, (0, 0, 0), [])) (by decide +kernel)) (pc2 := 99) rfl ?_
                refine q_ic (v := 0) (mz_fe (e := (99, .iconst 0, 1, (0, 0, 0), [])) (by decide +kernel)) (by decide) ?_
                refine q_o (mz_fe (e := (100, .lconst 0, 1, (0, 0, 0), [])) (by decide +kernel)) (pc2 := 101) (st2 := [.long 0, .int 0, .int x0, .int 13, .ref 239]) rfl ?_
                refine q_callV (N := 182) (vs := [.ref 239, .int 13, .int x0, .int 0, .long 0]) (rest := []) (L' := [some (.ref 239), some (.int x0), some (.int x1), some (.int x2), some (.int 13)]) rfl (mz_fe (e := (101, .invokevirtual 188, 172, (182, 5, 18), [])) (by decide +kernel)) rfl (mz_inv_virt (N := 182) (k := 5) (t := 18) (st := [.long 0, .int 0, .int x0, .int 13, .ref 239]) (rest := []) (b := 239) (vs := [.int 13, .int x0, .int 0, .long 0]) (h := (mz_S0, m)) rfl rfl (Nat.le_of_ble_eq_true rfl) (Nat.le_of_ble_eq_true rfl) tg_239 (by decide)) (mz_dc_lt (n := 6) rfl (by decide +kernel) (by decide +kernel)) (by decide +kernel) (by decide +kernel) (fun m394 => ?_)
                refine q_ic (v := 1) (mz_fe (e := (104, .iconst 1, 1, (0, 0, 0), [])) (by decide +kernel)) (by decide) ?_
                exact q_retI (mz_fe (e := (105, .ireturn, 1, (0, 0, 0), [])) (by decide +kernel)) (by decide +kernel)
            · refine q_bi (v := 15) (mz_fe (e := (81, .bipush 15, 2, (0, 0, 0), [])) (by decide +kernel)) (by decide) ?_
              refine q_s (mz_fe (e := (83, .istore 4, 2, (0, 0, 0), [])) (by decide +kernel)) (pc' := 85) (L' := [some (.ref 239), some (.int x0), some (.int x1), some (.int x2), some (.int 15)]) (st' := []) rfl ?_
              refine q_o (mz_fe (e := (85, .iload_n 2, 1, (0, 0, 0), [])) (by decide +kernel)) (pc2 := 86) rfl ?_
              refine q_bi (v := 60) (mz_fe (e := (86, .bipush 60, 2, (0, 0, 0), [])) (by decide +kernel)) (by decide) ?_
              refine q_if (c := .ne) (off := 7) (t := 95) (x := x1) (y := 60) (st := []) (mz_fe (e := (88, .if_icmp .ne 7, 3, (0, 0, 0), [])) (by decide +kernel)) (fun _ => rfl) rfl rfl rfl (fun c397 => ?_) (fun c397 => ?_)
              · refine q_o (mz_fe (e := (95, .aload_n 0, 1, (0, 0, 0), [])) (by decide +kernel)) (pc2 := 96) rfl ?_
                refine q_o (mz_fe (e := (96, .iload 4, 2, (0, 0, 0), [])) (by decide +kernel)) (pc2 := 98) rfl ?_
                refine q_o (mz_fe (e := (98, .iload_n 1, 1, (0, 0, 0), [])) (by decide +kernel)) (pc2 := 99) rfl ?_
                refine q_ic (v := 0) (mz_fe (e := (99, .iconst 0, 1, (0, 0, 0), [])) (by decide +kernel)) (by decide) ?_
                refine q_o (mz_fe (e := (100, .lconst 0, 1, (0, 0, 0), [])) (by decide +kernel)) (pc2 := 101) (st2 := [.long 0, .int 0, .int x0, .int 15, .ref 239]) rfl ?_
                refine q_callV (N := 182) (vs := [.ref 239, .int 15, .int x0, .int 0, .long 0]) (rest := []) (L' := [some (.ref 239), some (.int x0), some (.int x1), some (.int x2), some (.int 15)]) rfl (mz_fe (e := (101, .invokevirtual 188, 172, (182, 5, 18), [])) (by decide +kernel)) rfl (mz_inv_virt (N := 182) (k := 5) (t := 18) (st := [.long 0, .int 0, .int x0, .int 15, .ref 239]) (rest := []) (b := 239) (vs := [.int 15, .int x0, .int 0, .long 0]) (h := (mz_S0, m)) rfl rfl (Nat.le_of_ble_eq_true rfl) (Nat.le_of_ble_eq_true rfl) tg_239 (by decide)) (mz_dc_lt (n := 6) rfl (by decide +kernel) (by decide +kernel)) (by decide +kernel) (by decide +kernel) (fun m398 => ?_)
                refine q_ic (v := 1) (mz_fe (e := (104, .iconst 1, 1, (0, 0, 0), [])) (by decide +kernel)) (by decide) ?_
                exact q_retI (mz_fe (e := (105, .ireturn, 1, (0, 0, 0), [])) (by decide +kernel)) (by decide +kernel)
              · refine q_bi (v := 13) (mz_fe (e := (91, .bipush 13, 2, (0, 0, 0), [])) (by decide +kernel)) (by decide) ?_
                refine q_s (mz_fe (e := (93, .istore 4, 2, (0, 0, 0), [])) (by decide +kernel)) (pc' := 95) (L' := [some (.ref 239), some (.int x0), some (.int x1), some (.int x2), some (.int 13)]) (st' := []) rfl ?_
                refine q_o (mz_fe (e := (95, .aload_n 0, 1, (0, 0, 0), [])) (by decide +kernel)) (pc2 := 96) rfl ?_
                refine q_o (mz_fe (e := (96, .iload 4, 2, (0, 0, 0), [])) (by decide +kernel)) (pc2 := 98) rfl ?_
                refine q_o (mz_fe (e := (98, .iload_n 1, 1, (0, 0, 0), [])) (by decide +kernel)) (pc2 := 99) rfl ?_
                refine q_ic (v := 0) (mz_fe (e := (99, .iconst 0, 1, (0, 0, 0), [])) (by decide +kernel)) (by decide) ?_
                refine q_o (mz_fe (e := (100, .lconst 0, 1, (0, 0, 0), [])) (by decide +kernel)) (pc2 := 101) (st2 := [.long 0, .int 0, .int x0, .int 13, .ref 239]) rfl ?_
                refine q_callV (N := 182) (vs := [.ref 239, .int 13, .int x0, .int 0, .long 0]) (rest := []) (L' := [some (.ref 239), some (.int x0), some (.int x1), some (.int x2), some (.int 13)]) rfl (mz_fe (e := (101, .invokevirtual 188, 172, (182, 5, 18), [])) (by decide +kernel)) rfl (mz_inv_virt (N := 182) (k := 5) (t := 18) (st := [.long 0, .int 0, .int x0, .int 13, .ref 239]) (rest := []) (b := 239) (vs := [.int 13, .int x0, .int 0, .long 0]) (h := (mz_S0, m)) rfl rfl (Nat.le_of_ble_eq_true rfl) (Nat.le_of_ble_eq_true rfl) tg_239 (by decide)) (mz_dc_lt (n := 6) rfl (by decide +kernel) (by decide +kernel)) (by decide +kernel) (by decide +kernel) (fun m401 => ?_)
                refine q_ic (v := 1) (mz_fe (e := (104, .iconst 1, 1, (0, 0, 0), [])) (by decide +kernel)) (by decide) ?_
                exact q_retI (mz_fe (e := (105, .ireturn, 1, (0, 0, 0), [])) (by decide +kernel)) (by decide +kernel)
          · refine q_bi (v := 10) (mz_fe (e := (71, .bipush 10, 2, (0, 0, 0), [])) (by decide +kernel)) (by decide) ?_
            refine q_s (mz_fe (e := (73, .istore 4, 2, (0, 0, 0), [])) (by decide +kernel)) (pc' := 75) (L' := [some (.ref 239), some (.int x0), some (.int x1), some (.int x2), some (.int 10)]) (st' := []) rfl ?_
            refine q_o (mz_fe (e := (75, .iload_n 2, 1, (0, 0, 0), [])) (by decide +kernel)) (pc2 := 76) rfl ?_
            refine q_bi (v := 47) (mz_fe (e := (76, .bipush 47, 2, (0, 0, 0), [])) (by decide +kernel)) (by decide) ?_
            refine q_if (c := .ne) (off := 7) (t := 85) (x := x1) (y := 47) (st := []) (mz_fe (e := (78, .if_icmp .ne 7, 3, (0, 0, 0), [])) (by decide +kernel)) (fun _ => rfl) rfl rfl rfl (fun c404 => ?_) (fun c404 => ?_)
            · refine q_o (mz_fe (e := (85, .iload_n 2, 1, (0, 0, 0), [])) (by decide +kernel)) (pc2 := 86) rfl ?_
              refine q_bi (v := 60) (mz_fe (e := (86, .bipush 60, 2, (0, 0, 0), [])) (by decide +kernel)) (by decide) ?_
              refine q_if (c := .ne) (off := 7) (t := 95) (x := x1) (y := 60) (st := []) (mz_fe (e := (88, .if_icmp .ne 7, 3, (0, 0, 0), [])) (by decide +kernel)) (fun _ => rfl) rfl rfl rfl (fun c405 => ?_) (fun c405 => ?_)
              · refine q_o (mz_fe (e := (95, .aload_n 0, 1, (0, 0, 0), [])) (by decide +kernel)) (pc2 := 96) rfl ?_
                refine q_o (mz_fe (e := (96, .iload 4, 2, (0, 0, 0), [])) (by decide +kernel)) (pc2 := 98) rfl ?_
                refine q_o (mz_fe (e := (98, .iload_n 1, 1, (0, 0, 0), [])) (by decide +kernel)) (pc2 := 99) rfl ?_
                refine q_ic (v := 0) (mz_fe (e := (99, .iconst 0, 1, (0, 0, 0), [])) (by decide +kernel)) (by decide) ?_
                refine q_o (mz_fe (e := (100, .lconst 0, 1, (0, 0, 0), [])) (by decide +kernel)) (pc2 := 101) (st2 := [.long 0, .int 0, .int x0, .int 10, .ref 239]) rfl ?_
                refine q_callV (N := 182) (vs := [.ref 239, .int 10, .int x0, .int 0, .long 0]) (rest := []) (L' := [some (.ref 239), some (.int x0), some (.int x1), some (.int x2), some (.int 10)]) rfl (mz_fe (e := (101, .invokevirtual 188, 172, (182, 5, 18), [])) (by decide +kernel)) rfl (mz_inv_virt (N := 182) (k := 5) (t := 18) (st := [.long 0, .int 0, .int x0, .int 10, .ref 239]) (rest := []) (b := 239) (vs := [.int 10, .int x0, .int 0, .long 0]) (h := (mz_S0, m)) rfl rfl (Nat.le_of_ble_eq_true rfl) (Nat.le_of_ble_eq_true rfl) tg_239 (by decide)) (mz_dc_lt (n := 6) rfl (by decide +kernel) (by decide +kernel)) (by decide +kernel) (by decide +kernel) (fun m406 => ?_)
                refine q_ic (v := 1) (mz_fe (e := (104, .iconst 1, 1, (0, 0, 0), [])) (by decide +kernel)) (by decide) ?_
                exact q_retI (mz_fe (e := (105, .ireturn, 1, (0, 0, 0), [])) (by decide +kernel)) (by decide +kernel)
              · refine q_bi (v := 13) (mz_fe (e := (91, .bipush 13, 2, (0, 0, 0), [])) (by decide +kernel)) (by decide) ?_
                refine q_s (mz_fe (e := (93, .istore 4, 2, (0, 0, 0), [])) (by decide +kernel)) (pc' := 95) (L' := [some (.ref 239), some (.int x0), some (.int x1), some (.int x2), some (.int 13)]) (st' := []) rfl ?_
                refine q_o (mz_fe (e := (95, .aload_n 0, 1, (0, 0, 0), [])) (by decide +kernel)) (pc2 := 96) rfl ?_
                refine q_o (mz_fe (e := (96, .iload 4, 2, (0, 0, 0), [])) (by decide +kernel)) (pc2 := 98) rfl ?_
                refine q_o (mz_fe (e := (98, .iload_n 1, 1, (0, 0, 0), [])) (by decide +kernel)) (pc2 := 99) rfl ?_
                refine q_ic (v := 0) (mz_fe (e := (99, .iconst 0, 1, (0, 0, 0), [])) (by decide +kernel)) (by decide) ?_
                refine q_o (mz_fe (e := (100, .lconst 0, 1, (0, 0, 0), [])) (by decide +kernel)) (pc2 := 101) (st2 := [.long 0, .int 0, .int x0, .int 13, .ref 239]) rfl ?_
                refine q_callV (N := 182) (vs := [.ref 239, .int 13, .int x0, .int 0, .long 0]) (rest := []) (L' := [some (.ref 239), some (.int x0), some (.int x1), some (.int x2), some (.int 13)]) rfl (mz_fe (e := (101, .invokevirtual 188, 172, (182, 5, 18), [])) (by decide +kernel)) rfl (mz_inv_virt (N := 182) (k := 5) (t := 18) (st := [.long 0, .int 0, .int x0, .int 13, .ref 239]) (rest := []) (b := 239) (vs := [.int 13, .int x0, .int 0, .long 0]) (h := (mz_S0, m)) rfl rfl (Nat.le_of_ble_eq_true rfl) (Nat.le_of_ble_eq_true rfl) tg_239 (by decide)) (mz_dc_lt (n := 6) rfl (by decide +kernel) (by decide +kernel)) (by decide +kernel) (by decide +kernel) (fun m409 => ?_)
                refine q_ic (v := 1) (mz_fe (e := (104, .iconst 1, 1, (0, 0, 0), [])) (by decide +kernel)) (by decide) ?_
                exact q_retI (mz_fe (e := (105, .ireturn, 1, (0, 0, 0), [])) (by decide +kernel)) (by decide +kernel)
            · refine q_bi (v := 15) (mz_fe (e := (81, .bipush 15, 2, (0, 0, 0), [])) (by decide +kernel)) (by decide) ?_
              refine q_s (mz_fe (e := (83, .istore 4, 2, (0, 0, 0), [])) (by decide +kernel)) (pc' := 85) (L' := [some (.ref 239), some (.int x0), some (.int x1), some (.int x2), some (.int 15)]) (st' := []) rfl ?_
              refine q_o (mz_fe (e := (85, .iload_n 2, 1, (0, 0, 0), [])) (by decide +kernel)) (pc2 := 86) rfl ?_
              refine q_bi (v := 60) (mz_fe (e := (86, .bipush 60, 2, (0, 0, 0), [])) (by decide +kernel)) (by decide) ?_
              refine q_if (c := .ne) (off := 7) (t := 95) (x := x1) (y := 60) (st := []) (mz_fe (e := (88, .if_icmp .ne 7, 3, (0, 0, 0), [])) (by decide +kernel)) (fun _ => rfl) rfl rfl rfl (fun c412 => ?_) (fun c412 => ?_)
              · refine q_o (mz_fe (e := (95, .aload_n 0, 1, (0, 0, 0), [])) (by decide +kernel)) (pc2 := 96) rfl ?_
                refine q_o (mz_fe (e := (96, .iload 4, 2, (0, 0, 0), [])) (by decide +kernel)) (pc2 := 98) rfl ?_
                refine q_o (mz_fe (e := (98, .iload_n 1, 1, (0, 0, 0), [])) (by decide +kernel)) (pc2 := 99) rfl ?_
                refine q_ic (v := 0) (mz_fe (e := (99, .iconst 0, 1, (0, 0, 0), [])) (by decide +kernel)) (by decide) ?_
                refine q_o (mz_fe (e := (100, .lconst 0, 1, (0, 0, 0), [])) (by decide +kernel)) (pc2 := 101) (st2 := [.long 0, .int 0, .int x0, .int 15, .ref 239]) rfl ?_
                refine q_callV (N := 182) (vs := [.ref 239, .int 15, .int x0, .int 0, .long 0]) (rest := []) (L' := [some (.ref 239), some (.int x0), some (.int x1), some (.int x2), some (.int 15)]) rfl (mz_fe (e := (101, .invokevirtual 188, 172, (182, 5, 18), [])) (by decide +kernel)) rfl (mz_inv_virt (N := 182) (k := 5) (t := 18) (st := [.long 0, .int 0, .int x0, .int 15, .ref 239]) (rest := []) (b := 239) (vs := [.int 15, .int x0, .int 0, .long 0]) (h := (mz_S0, m)) rfl rfl (Nat.le_of_ble_eq_true rfl) (Nat.le_of_ble_eq_true rfl) tg_239 (by decide)) (mz_dc_lt (n := 6) rfl (by decide +kernel) (by decide +kernel)) (by decide +kernel) (by decide +kernel) (fun m413 => ?_)
                refine q_ic (v := 1) (mz_fe (e := (104, .iconst 1, 1, (0, 0, 0), [])) (by decide +kernel)) (by decide) ?_
                exact q_retI (mz_fe (e := (105, .ireturn, 1, (0, 0, 0), [])) (by decide +kernel)) (by decide +kernel)
              · refine q_bi (v := 13) (mz_fe (e := (91, .bipush 13, 2, (0, 0, 0), [])) (by decide +kernel)) (by decide) ?_
                refine q_s (mz_fe (e := (93, .istore 4, 2, (0, 0, 0), [])) (by decide +kernel)) (pc' := 95) (L' := [some (.ref 239), some (.int x0), some (.int x1), some (.int x2), some (.int 13)]) (st' := []) rfl ?_
                refine q_o (mz_fe (e := (95, .aload_n 0, 1, (0, 0, 0), [])) (by decide +kernel)) (pc2 := 96) rfl ?_
                refine q_o (mz_fe (e := (96, .iload 4, 2, (0, 0, 0), [])) (by decide +kernel)) (pc2 := 98) rfl ?_
                refine q_o (mz_fe (e := (98, .iload_n 1, 1, (0, 0, 0), [])) (by decide +kernel)) (pc2 := 99) rfl ?_
                refine q_ic (v := 0) (mz_fe (e := (99, .iconst 0, 1, (0, 0, 0), [])) (by decide +kernel)) (by decide) ?_
                refine q_o (mz_fe (e := (100, .lconst 0, 1, (0, 0, 0), [])) (by decide +kernel)) (pc2 := 101) (st2 := [.long 0, .int 0, .int x0, .int 13, .ref 239]) rfl ?_
                refine q_callV (N := 182) (vs := [.ref 239, .int 13, .int x0, .int 0, .long 0]) (rest := []) (L' := [some (.ref 239), some (.int x0), some (.int x1), some (.int x2), some (.int 13)]) rfl (mz_fe (e := (101, .invokevirtual 188, 172, (182, 5, 18), [])) (by decide +kernel)) rfl (mz_inv_virt (N := 182) (k := 5) (t := 18) (st := [.long 0, .int 0, .int x0, .int 13, .ref 239]) (rest := []) (b := 239) (vs := [.int 13, .int x0, .int 0, .long 0]) (h := (mz_S0, m)) rfl rfl (Nat.le_of_ble_eq_true rfl) (Nat.le_of_ble_eq_true rfl) tg_239 (by decide)) (mz_dc_lt (n := 6) rfl (by decide +kernel) (by decide +kernel)) (by decide +kernel) (by decide +kernel) (fun m416 => ?_)
                refine q_ic (v := 1) (mz_fe (e := (104, .iconst 1, 1, (0, 0, 0), [])) (by decide +kernel)) (by decide) ?_
                exact q_retI (mz_fe (e := (105, .ireturn, 1, (0, 0, 0), [])) (by decide +kernel)) (by decide +kernel)
        · refine q_bi (v := 9) (mz_fe (e := (61, .bipush 9, 2, (0, 0, 0), [])) (by decide +kernel)) (by decide) ?_
          refine q_s (mz_fe (e := (63, .istore 4, 2, (0, 0, 0), [])) (by decide +kernel)) (pc' := 65) (L' := [some (.ref 239), some (.int x0), some (.int x1), some (.int x2), some (.int 9)]) (st' := []) rfl ?_
          refine q_o (mz_fe (e := (65, .iload_n 2, 1, (0, 0, 0), [])) (by decide +kernel)) (pc2 := 66) rfl ?_
          refine q_bi (v := 42) (mz_fe (e := (66, .bipush 42, 2, (0, 0, 0), [])) (by decide +kernel)) (by decide) ?_
          refine q_if (c := .ne) (off := 7) (t := 75) (x := x1) (y := 42) (st := []) (mz_fe (e := (68, .if_icmp .ne 7, 3, (0, 0, 0), [])) (by decide +kernel)) (fun _ => rfl) rfl rfl rfl (fun c419 => ?_) (fun c419 => ?_)
          · refine q_o (mz_fe (e := (75, .iload_n 2, 1, (0, 0, 0), [])) (by decide +kernel)) (pc2 := 76) rfl ?_
            refine q_bi (v := 47) (mz_fe (e := (76, .bipush 47, 2, (0, 0, 0), [])) (by decide +kernel)) (by decide) ?_
            refine q_if (c := .ne) (off := 7) (t := 85) (x := x1) (y := 47) (st := []) (mz_fe (e := (78, .if_icmp .ne 7, 3, (0, 0, 0), [])) (by decide +kernel)) (fun _ => rfl) rfl rfl rfl (fun c420 => ?_) (fun c420 => ?_)
            · refine q_o (mz_fe (e := (85, .iload_n 2, 1, (0, 0, 0), [])) (by decide +kernel)) (pc2 := 86) rfl ?_
              refine q_bi (v := 60) (mz_fe (e := (86, .bipush 60, 2, (0, 0, 0), [])) (by decide +kernel)) (by decide) ?_
              refine q_if (c := .ne) (off := 7) (t := 95) (x := x1) (y := 60) (st := []) (mz_fe (e := (88, .if_icmp .ne 7, 3, (0, 0, 0), [])) (by decide +kernel)) (fun _ => rfl) rfl rfl rfl (fun c421 => ?_) (fun c421 => ?_)
              · refine q_o (mz_fe (e := (95, .aload_n 0, 1, (0, 0, 0), [])) (by decide +kernel)) (pc2 := 96) rfl ?_
                refine q_o (mz_fe (e := (96, .iload 4, 2, (0, 0, 0), [])) (by decide +kernel)) (pc2 := 98) rfl ?_
                refine q_o (mz_fe (e := (98, .iload_n 1, 1, (0, 0, 0), [])) (by decide +kernel)) (pc2 := 99) rfl ?_
                refine q_ic (v := 0) (mz_fe (e := (99, .iconst 0, 1, (0, 0, 0), [])) (by decide +kernel)) (by decide) ?_
                refine q_o (mz_fe (e := (100, .lconst 0, 1, (0, 0, 0), [])) (by decide +kernel)) (pc2 := 101) (st2 := [.long 0, .int 0, .int x0, .int 9, .ref 239]) rfl ?_
                refine q_callV (N := 182) (vs := [.ref 239, .int 9, .int x0, .int 0, .long 0]) (rest := []) (L' := [some (.ref 239), some (.int x0), some (.int x1), some (.int x2), some (.int 9)]) rfl (mz_fe (e := (101, .invokevirtual 188, 172, (182, 5, 18), [])) (by decide +kernel)) rfl (mz_inv_virt (N := 182) (k := 5) (t := 18) (st := [.long 0, .int 0, .int x0, .int 9, .ref 239]) (rest := []) (b := 239) (vs := [.int 9, .int x0, .int 0, .long 0]) (h := (mz_S0, m)) rfl rfl (Nat.le_of_ble_eq_true rfl) (Nat.le_of_ble_eq_true rfl) tg_239 (by decide)) (mz_dc_lt (n := 6) rfl (by decide +kernel) (by decide +kernel)) (by decide +kernel) (by decide +kernel) (fun m422 => ?_)
                refine q_ic (v := 1) (mz_fe (e := (104, .iconst 1, 1, (0, 0, 0), [])) (by decide +kernel)) (by decide) ?_
                exact q_retI (mz_fe (e := (105, .ireturn, 1, (0, 0, 0), [])) (by decide +kernel)) (by decide +kernel)
              · refine q_bi (v := 13) (mz_fe (e := (91, .bipush 13, 2, (0, 0, 0), [])) (by decide +kernel)) (by decide) ?_
                refine q_s (mz_fe (e := (93, .istore 4, 2, (0, 0, 0), [])) (by decide +kernel)) (pc' := 95) (L' := [some (.ref 239), some (.int x0), some (.int x1), some (.int x2), some (.int 13)]) (st' := []) rfl ?_
                refine q_o (mz_fe (e := (95, .aload_n 0, 1, (0, 0, 0), [])) (by decide +kernel)) (pc2 := 96) rfl ?_
                refine q_o (mz_fe (e := (96, .iload 4, 2, (0, 0, 0), [])) (by decide +kernel)) (pc2 := 98) rfl ?_
                refine q_o (mz_fe (e := (98, .iload_n 1, 1, (0, 0, 0), [])) (by decide +kernel)) (pc2 := 99) rfl ?_
                refine q_ic (v := 0) (mz_fe (e := (99, .iconst 0, 1, (0, 0, 0), [])) (by decide +kernel)) (by decide) ?_
                refine q_o (mz_fe (e := (100, .lconst 0, 1, (0, 0, 0), [])) (by decide +kernel)) (pc2 := 101) (st2 := [.long 0, .int 0, .int x0, .int 13, .ref 239]) rfl ?_
                refine q_callV (N := 182) (vs := [.ref 239, .int 13, .int x0, .int 0, .long 0]) (rest := []) (L' := [some (.ref 239), some (.int x0), some (.int x1), some (.int x2), some (.int 13)]) rfl (mz_fe (e := (101, .invokevirtual 188, 172, (182, 5, 18), [])) (by decide +kernel)) rfl (mz_inv_virt (N := 182) (k := 5) (t := 18) (st := [.long 0, .int 0, .int x0, .int 13, .ref 239]) (rest := []) (b := 239) (vs := [.int 13, .int x0, .int 0, .long 0]) (h := (mz_S0, m)) rfl rfl (Nat.le_of_ble_eq_true rfl) (Nat.le_of_ble_eq_true rfl) tg_239 (by decide)) (mz_dc_lt (n := 6) rfl (by decide +kernel) (by decide +kernel)) (by decide +kernel) (by decide +kernel) (fun m425 => ?_)
                refine q_ic (v := 1) (mz_fe (e := (104, .iconst 1, 1, (0, 0, 0), [])) (by decide +kernel)) (by decide) ?_
                exact q_retI (mz_fe (e := (105, .ireturn, 1, (0, 0, 0), [])) (by decide +kernel)) (by decide +kernel)
            · refine q_bi (v := 15) (mz_fe (e := (81, .bipush 15, 2, (0, 0, 0), [])) (by decide +kernel)) (by decide) ?_
              refine q_s (mz_fe (e := (83, .istore 4, 2, (0, 0, 0), [])) (by decide +kernel)) (pc' := 85) (L' := [some (.ref 239), some (.int x0), some (.int x1), some (.int x2), some (.int 15)]) (st' := []) rfl ?_
              refine q_o (mz_fe (e := (85, .iload_n 2, 1, (0, 0, 0), [])) (by decide +kernel)) (pc2 := 86) rfl ?_
              refine q_bi (v := 60) (mz_fe (e := (86, .bipush 60, 2, (0, 0, 0), [])) (by decide +kernel)) (by decide) ?_
              refine q_if (c := .ne) (off := 7) (t := 95) (x := x1) (y := 60) (st := []) (mz_fe (e := (88, .if_icmp .ne 7, 3, (0, 0, 0), [])) (by decide +kernel)) (fun _ => rfl) rfl rfl rfl (fun c428 => ?_) (fun c428 => ?_)
              · refine q_o (mz_fe (e := (95, .aload_n 0, 1, (0, 0, 0), [])) (by decide +kernel)) (pc2 := 96) rfl ?_
                refine q_o (mz_fe (e := (96, .iload 4, 2, (0, 0, 0), [])) (by decide +kernel)) (pc2 := 98) rfl ?_
                refine q_o (mz_fe (e := (98, .iload_n 1, 1, (0, 0, 0), [])) (by decide +kernel)) (pc2 := 99) rfl ?_
                refine q_ic (v := 0) (mz_fe (e := (99, .iconst 0, 1, (0, 0, 0), [])) (by decide +kernel)) (by decide) ?_
                refine q_o (mz_fe (e := (100, .lconst 0, 1, (0, 0, 0), [])) (by decide +kernel)) (pc2 := 101) (st2 := [.long 0, .int 0, .int x0, .int 15, .ref 239]) rfl ?_
                refine q_callV (N := 182) (vs := [.ref 239, .int 15, .int x0, .int 0, .long 0]) (rest := []) (L' := [some (.ref 239), some (.int x0), some (.int x1), some (.int x2), some (.int 15)]) rfl (mz_fe (e := (101, .invokevirtual 188, 172, (182, 5, 18), [])) (by decide +kernel)) rfl (mz_inv_virt (N := 182) (k := 5) (t := 18) (st := [.long 0, .int 0, .int x0, .int 15, .ref 239]) (rest := []) (b := 239) (vs := [.int 15, .int x0, .int 0, .long 0]) (h := (mz_S0, m)) rfl rfl (Nat.le_of_ble_eq_true rfl) (Nat.le_of_ble_eq_true rfl) tg_239 (by decide)) (mz_dc_lt (n := 6) rfl (by decide +kernel) (by decide +kernel)) (by decide +kernel) (by decide +kernel) (fun m429 => ?_)
                refine q_ic (v := 1) (mz_fe (e := (104, .iconst 1, 1, (0, 0, 0), [])) (by decide +kernel)) (by decide) ?_
                exact q_retI (mz_fe (e := (105, .ireturn, 1, (0, 0, 0), [])) (by decide +kernel)) (by decide +kernel)
              · refine q_bi (v := 13) (mz_fe (e := (91, .bipush 13, 2, (0, 0, 0), [])) (by decide +kernel)) (by decide) ?_
                refine q_s (mz_fe (e := (93, .istore 4, 2, (0, 0, 0), [])) (by decide +kernel)) (pc' := 95) (L' := [some (.ref 239), some (.int x0), some (.int x1), some (.int x2), some (.int 13)]) (st' := []) rfl ?_
                refine q_o (mz_fe (e := (95, .aload_n 0, 1, (0, 0, 0), [])) (by decide +kernel)) (pc2 := 96) rfl ?_
                refine q_o (mz_fe (e := (96, .iload 4, 2, (0, 0, 0), [])) (by decide +kernel)) (pc2 := 98) rfl ?_
                refine q_o (mz_fe (e := (98, .iload_n 1, 1, (0, 0, 0), [])) (by decide +kernel)) (pc2 := 99) rfl ?_
                refine q_ic (v := 0) (mz_fe (e := (99, .iconst 0, 1, (0, 0, 0), [])) (by decide +kernel)) (by decide) ?_
                refine q_o (mz_fe (e := (100, .lconst 0, 1, (0, 0, 0), [])) (by decide +kernel)) (pc2 := 101) (st2 := [.long 0, .int 0, .int x0, .int 13, .ref 239]) rfl ?_
                refine q_callV (N := 182) (vs := [.ref 239, .int 13, .int x0, .int 0, .long 0]) (rest := []) (L' := [some (.ref 239), some (.int x0), some (.int x1), some (.int x2), some (.int 13)]) rfl (mz_fe (e := (101, .invokevirtual 188, 172, (182, 5, 18), [])) (by decide +kernel)) rfl (mz_inv_virt (N := 182) (k := 5) (t := 18) (st := [.long 0, .int 0, .int x0, .int 13, .ref 239]) (rest := []) (b := 239) (vs := [.int 13, .int x0, .int 0, .long 0]) (h := (mz_S0, m)) rfl rfl (Nat.le_of_ble_eq_true rfl) (Nat.le_of_ble_eq_true rfl) tg_239 (by decide)) (mz_dc_lt (n := 6) rfl (by decide +kernel) (by decide +kernel)) (by decide +kernel) (by decide +kernel) (fun m432 => ?_)
                refine q_ic (v := 1) (mz_fe (e := (104, .iconst 1, 1, (0, 0, 0), [])) (by decide +kernel)) (by decide) ?_
                exact q_retI (mz_fe (e := (105, .ireturn, 1, (0, 0, 0), [])) (by decide +kernel)) (by decide +kernel)
          · refine q_bi (v := 10) (mz_fe (e := (71, .bipush 10, 2, (0, 0, 0), [])) (by decide +kernel)) (by decide) ?_
            refine q_s (mz_fe (e := (73, .istore 4, 2, (0, 0, 0), [])) (by decide +kernel)) (pc' := 75) (L' := [some (.ref 239), some (.int x0), some (.int x1), some (.int x2), some (.int 10)]) (st' := []) rfl ?_
            refine q_o (mz_fe (e := (75, .iload_n 2, 1, (0, 0, 0), [])) (by decide +kernel)) (pc2 := 76) rfl ?_
            refine q_bi (v := 47) (mz_fe (e := (76, .bipush 47, 2, (0, 0, 0), [])) (by decide +kernel)) (by decide) ?_
            refine q_if (c := .ne) (off := 7) (t := 85) (x := x1) (y := 47) (st := []) (mz_fe (e := (78, .if_icmp .ne 7, 3, (0, 0, 0), [])) (by decide +kernel)) (fun _ => rfl) rfl rfl rfl (fun c435 => ?_) (fun c435 => ?_)
            · refine q_o (mz_fe (e := (85, .iload_n 2, 1, (0, 0, 0), [])) (by decide +kernel)) (pc2 := 86) rfl ?_
              refine q_bi (v := 60) (mz_fe (e := (86, .bipush 60, 2, (0, 0, 0), [])) (by decide +kernel)) (by decide) ?_
              refine q_if (c := .ne) (off := 7) (t := 95) (x := x1) (y := 60) (st := []) (mz_fe (e := (88, .if_icmp .ne 7, 3, (0, 0, 0), [])) (by decide +kernel)) (fun _ => rfl) rfl rfl rfl (fun c436 => ?_) (fun c436 => ?_)
              · refine q_o (mz_fe (e := (95, .aload_n 0, 1, (0, 0, 0), [])) (by decide +kernel)) (pc2 := 96) rfl ?_
                refine q_o (mz_fe (e := (96, .iload 4, 2, (0, 0, 0), [])) (by decide +kernel)) (pc2 := 98) rfl ?_
                refine q_o (mz_fe (e := (98, .iload_n 1, 1, (0, 0, 0), [])) (by decide +kernel)) (pc2 := 99) rfl ?_
                refine q_ic (v := 0) (mz_fe (e := (99, .iconst 0, 1, (0, 0, 0), [])) (by decide +kernel)) (by decide) ?_
                refine q_o (mz_fe (e := (100, .lconst 0, 1, (0, 0, 0), [])) (by decide +kernel)) (pc2 := 101) (st2 := [.long 0, .int 0, .int x0, .int 10, .ref 239]) rfl ?_
                refine q_callV (N := 182) (vs := [.ref 239, .int 10, .int x0, .int 0, .long 0]) (rest := []) (L' := [some (.ref 239), some (.int x0), some (.int x1), some (.int x2), some (.int 10)]) rfl (mz_fe (e := (101, .invokevirtual 188, 172, (182, 5, 18), [])) (by decide +kernel)) rfl (mz_inv_virt (N := 182) (k := 5) (t := 18) (st := [.long 0, .int 0, .int x0, .int 10, .ref 239]) (rest := []) (b := 239) (vs := [.int 10, .int x0, .int 0, .long 0]) (h := (mz_S0, m)) rfl rfl (Nat.le_of_ble_eq_true rfl) (Nat.le_of_ble_eq_true rfl) tg_239 (by decide)) (mz_dc_lt (n := 6) rfl (by decide +kernel) (by decide +kernel)) (by decide +kernel) (by decide +kernel) (fun m437 => ?_)
                refine q_ic (v := 1) (mz_fe (e := (104, .iconst 1, 1, (0, 0, 0), [])) (by decide +kernel)) (by decide) ?_
                exact q_retI (mz_fe (e := (105, .ireturn, 1, (0, 0, 0), [])) (by decide +kernel)) (by decide +kernel)
              · refine q_bi (v := 13) (mz_fe (e := (91, .bipush 13, 2, (0, 0, 0), [])) (by decide +kernel)) (by decide) ?_
                refine q_s (mz_fe (e := (93, .istore 4, 2, (0, 0, 0), [])) (by decide +kernel)) (pc' := 95) (L' := [some (.ref 239), some (.int x0), some (.int x1), some (.int x2), some (.int 13)]) (st' := []) rfl ?_
                refine q_o (mz_fe (e := (95, .aload_n 0, 1, (0, 0, 0), [])) (by decide +kernel)) (pc2 := 96) rfl ?_
                refine q_o (mz_fe (e := (96, .iload 4, 2, (0, 0, 0), [])) (by decide +kernel)) (pc2 := 98) rfl ?_
                refine q_o (mz_fe (e := (98, .iload_n 1, 1, (0, 0, 0), [])) (by decide +kernel)) (pc2 := 99) rfl ?_
                refine q_ic (v := 0) (mz_fe (e := (99, .iconst 0, 1, (0, 0, 0), [])) (by decide +kernel)) (by decide) ?_
                refine q_o (mz_fe (e := (100, .lconst 0, 1, (0, 0, 0), [])) (by decide +kernel)) (pc2 := 101) (st2 := [.long 0, .int 0, .int x0, .int 13, .ref 239]) rfl ?_
                refine q_callV (N := 182) (vs := [.ref 239, .int 13, .int x0, .int 0, .long 0]) (rest := []) (L' := [some (.ref 239), some (.int x0), some (.int x1), some (.int x2), some (.int 13)]) rfl (mz_fe (e := (101, .invokevirtual 188, 172, (182, 5, 18), [])) (by decide +kernel)) rfl (mz_inv_virt (N := 182) (k := 5) (t := 18) (st := [.long 0, .int 0, .int x0, .int 13, .ref 239]) (rest := []) (b := 239) (vs := [.int 13, .int x0, .int 0, .long 0]) (h := (mz_S0, m)) rfl rfl (Nat.le_of_ble_eq_true rfl) (Nat.le_of_ble_eq_true rfl) tg_239 (by decide)) (mz_dc_lt (n := 6) rfl (by decide +kernel) (by decide +kernel)) (by decide +kernel) (by decide +kernel) (fun m440 => ?_)
                refine q_ic (v := 1) (mz_fe (e := (104, .iconst 1, 1, (0, 0, 0), [])) (by decide +kernel)) (by decide) ?_
                exact q_retI (mz_fe (e := (105, .ireturn, 1, (0, 0, 0), [])) (by decide +kernel)) (by decide +kernel)
            · refine q_bi (v := 15) (mz_fe (e := (81, .bipush 15, 2, (0, 0, 0), [])) (by decide +kernel)) (by decide) ?_
              refine q_s (mz_fe (e := (83, .istore 4, 2, (0, 0, 0), [])) (by decide +kernel)) (pc' := 85) (L' := [some (.ref 239), some (.int x0), some (.int x1), some (.int x2), some (.int 15)]) (st' := []) rfl ?_
              refine q_o (mz_fe (e := (85, .iload_n 2, 1, (0, 0, 0), [])) (by decide +kernel)) (pc2 := 86) rfl ?_
              refine q_bi (v := 60) (mz_fe (e := (86, .bipush 60, 2, (0, 0, 0), [])) (by decide +kernel)) (by decide) ?_
              refine q_if (c := .ne) (off := 7) (t := 95) (x := x1) (y := 60) (st := []) (mz_fe (e := (88, .if_icmp .ne 7, 3, (0, 0, 0), [])) (by decide +kernel)) (fun _ => rfl) rfl rfl rfl (fun c443 => ?_) (fun c443 => ?_)
              · refine q_o (mz_fe (e := (95, .aload_n 0, 1, (0, 0, 0), [])) (by decide +kernel)) (pc2 := 96) rfl ?_
                refine q_o (mz_fe (e := (96, .iload 4, 2, (0, 0, 0), [])) (by decide +kernel)) (pc2 := 98) rfl ?_
                refine q_o (mz_fe (e := (98, .iload_n 1, 1, (0, 0, 0), [])) (by decide +kernel)) (pc2 := 99) rfl ?_
                refine q_ic (v := 0) (mz_fe (e := (99, .iconst 0, 1, (0, 0, 0), [])) (by decide +kernel)) (by decide) ?_
                refine q_o (mz_fe (e := (100, .lconst 0, 1, (0, 0, 0), [])) (by decide +kernel)) (pc2 := 101) (st2 := [.long 0, .int 0, .int x0, .int 15, .ref 239]) rfl ?_
                refine q_callV (N := 182) (vs := [.ref 239, .int 15, .int x0, .int 0, .long 0]) (rest := []) (L' := [some (.ref 239), some (.int x0), some (.int x1), some (.int x2), some (.int 15)]) rfl (mz_fe (e := (101, .invokevirtual 188, 172, (182, 5, 18), [])) (by decide +kernel)) rfl (mz_inv_virt (N := 182) (k := 5) (t := 18) (st := [.long 0, .int 0, .int x0, .int 15, .ref 239]) (rest := []) (b := 239) (vs := [.int 15, .int x0, .int 0, .long 0]) (h := (mz_S0, m)) rfl rfl (Nat.le_of_ble_eq_true rfl) (Nat.le_of_ble_eq_true rfl) tg_239 (by decide)) (mz_dc_lt (n := 6) rfl (by decide +kernel) (by decide +kernel)) (by decide +kernel) (by decide +kernel) (fun m444 => ?_)
                refine q_ic (v := 1) (mz_fe (e := (104, .iconst 1, 1, (0, 0, 0), [])) (by decide +kernel)) (by decide) ?_
                exact q_retI (mz_fe (e := (105, .ireturn, 1, (0, 0, 0), [])) (by decide +kernel)) (by decide +kernel)
              · refine q_bi (v := 13) (mz_fe (e := (91, .bipush 13, 2, (0, 0, 0), [])) (by decide +kernel)) (by decide) ?_
                refine q_s (mz_fe (e := (93, .istore 4, 2, (0, 0, 0), [])) (by decide +kernel)) (pc' := 95) (L' := [some (.ref 239), some (.int x0), some (.int x1), some (.int x2), some (.int 13)]) (st' := []) rfl ?_
                refine q_o (mz_fe (e := (95, .aload_n 0, 1, (0, 0, 0), [])) (by decide +kernel)) (pc2 := 96) rfl ?_
                refine q_o (mz_fe (e := (96, .iload 4, 2, (0, 0, 0), [])) (by decide +kernel)) (pc2 := 98) rfl ?_
                refine q_o (mz_fe (e := (98, .iload_n 1, 1, (0, 0, 0), [])) (by decide +kernel)) (pc2 := 99) rfl ?_
                refine q_ic (v := 0) (mz_fe (e := (99, .iconst 0, 1, (0, 0, 0), [])) (by decide +kernel)) (by decide) ?_
                refine q_o (mz_fe (e := (100, .lconst 0, 1, (0, 0, 0), [])) (by decide +kernel)) (pc2 := 101) (st2 := [.long 0, .int 0, .int x0, .int 13, .ref 239]) rfl ?_
                refine q_callV (N := 182) (vs := [.ref 239, .int 13, .int x0, .int 0, .long 0]) (rest := []) (L' := [some (.ref 239), some (.int x0), some (.int x1), some (.int x2), some (.int 13)]) rfl (mz_fe (e := (101, .invokevirtual 188, 172, (182, 5, 18), [])) (by decide +kernel)) rfl (mz_inv_virt (N := 182) (k := 5) (t := 18) (st := [.long 0, .int 0, .int x0, .int 13, .ref 239]) (rest := []) (b := 239) (vs := [.int 13, .int x0, .int 0, .long 0]) (h := (mz_S0, m)) rfl rfl (Nat.le_of_ble_eq_true rfl) (Nat.le_of_ble_eq_true rfl) tg_239 (by decide)) (mz_dc_lt (n := 6) rfl (by decide +kernel) (by decide +kernel)) (by decide +kernel) (by decide +kernel) (fun m447 => ?_)
                refine q_ic (v := 1) (mz_fe (e := (104, .iconst 1, 1, (0, 0, 0), [])) (by decide +kernel)) (by decide) ?_
                exact q_retI (mz_fe (e := (105, .ireturn, 1, (0, 0, 0), [])) (by decide +kernel)) (by decide +kernel)
      · refine q_bi (v := 8) (mz_fe (e := (51, .bipush 8, 2, (0, 0, 0), [])) (by decide +kernel)) (by decide) ?_
        refine q_s (mz_fe (e := (53, .istore 4, 2, (0, 0, 0), [])) (by decide +kernel)) (pc' := 55) (L' := [some (.ref 239), some (.int x0), some (.int x1), some (.int x2), some (.int 8)]) (st' := []) rfl ?_
        refine q_o (mz_fe (e := (55, .iload_n 2, 1, (0, 0, 0), [])) (by decide +kernel)) (pc2 := 56) rfl ?_
        refine q_bi (v := 45) (mz_fe (e := (56, .bipush 45, 2, (0, 0, 0), [])) (by decide +kernel)) (by decide) ?_
        refine q_if (c := .ne) (off := 7) (t := 65) (x := x1) (y := 45) (st := []) (mz_fe (e := (58, .if_icmp .ne 7, 3, (0, 0, 0), [])) (by decide +kernel)) (fun _ => rfl) rfl rfl rfl (fun c450 => ?_) (fun c450 => ?_)
        · refine q_o (mz_fe (e := (65, .iload_n 2, 1, (0, 0, 0), [])) (by decide +kernel)) (pc2 := 66) rfl ?_
          refine q_bi (v := 42) (mz_fe (e := (66, .bipush 42, 2, (0, 0, 0), [])) (by decide +kernel)) (by decide) ?_
          refine q_if (c := .ne) (off := 7) (t := 75) (x := x1) (y := 42) (st := []) (mz_fe (e := (68, .if_icmp .ne 7, 3, (0, 0, 0), [])) (by decide +kernel)) (fun _ => rfl) rfl rfl rfl (fun c451 => ?_) (fun c451 => ?_)
          · refine q_o (mz_fe (e := (75, .iload_n 2, 1, (0, 0, 0), [])) (by decide +kernel)) (pc2 := 76) rfl ?_
            refine q_bi (v := 47) (mz_fe (e := (76, .bipush 47, 2, (0, 0, 0), [])) (by decide +kernel)) (by decide) ?_
            refine q_if (c := .ne) (off := 7) (t := 85) (x := x1) (y := 47) (st := []) (mz_fe (e := (78, .if_icmp .ne 7, 3, (0, 0, 0), [])) (by decide +kernel)) (fun _ => rfl) rfl rfl rfl (fun c452 => ?_) (fun c452 => ?_)
            · refine q_o (mz_fe (e := (85, .iload_n 2, 1, (0, 0, 0), [])) (by decide +kernel)) (pc2 := 86) rfl ?_
              refine q_bi (v := 60) (mz_fe (e := (86, .bipush 60, 2, (0, 0, 0), [])) (by decide +kernel)) (by decide) ?_
              refine q_if (c := .ne) (off := 7) (t := 95) (x := x1) (y := 60) (st := []) (mz_fe (e := (88, .if_icmp .ne 7, 3, (0, 0, 0), [])) (by decide +kernel)) (fun _ => rfl) rfl rfl rfl (fun c453 => ?_) (fun c453 => ?_)
              · refine q_o (mz_fe (e := (95, .aload_n 0, 1, (0, 0, 0), [])) (by decide +kernel)) (pc2 := 96) rfl ?_
                refine q_o (mz_fe (e := (96, .iload 4, 2, (0, 0, 0), [])) (by decide +kernel)) (pc2 := 98) rfl ?_
                refine q_o (mz_fe (e := (98, .iload_n 1, 1, (0, 0, 0), [])) (by decide +kernel)) (pc2 := 99) rfl ?_
                refine q_ic (v := 0) (mz_fe (e := (99, .iconst 0, 1, (0, 0, 0), [])) (by decide +kernel)) (by decide) ?_
                refine q_o (mz_fe (e := (100, .lconst 0, 1, (0, 0, 0), [])) (by decide +kernel)) (pc2 := 101) (st2 := [.long 0, .int 0, .int x0, .int 8, .ref 239]) rfl ?_
                refine q_callV (N := 182) (vs := [.ref 239, .int 8, .int x0, .int 0, .long 0]) (rest := []) (L' := [some (.ref 239), some (.int x0), some (.int x1), some (.int x2), some (.int 8)]) rfl (mz_fe (e := (101, .invokevirtual 188, 172, (182, 5, 18), [])) (by decide +kernel)) rfl (mz_inv_virt (N := 182) (k := 5) (t := 18) (st := [.long 0, .int 0, .int x0, .int 8, .ref 239]) (rest := []) (b := 239) (vs := [.int 8, .int x0, .int 0, .long 0]) (h := (mz_S0, m)) rfl rfl (Nat.le_of_ble_eq_true rfl) (Nat.le_of_ble_eq_true rfl) tg_239 (by decide)) (mz_dc_lt (n := 6) rfl (by decide +kernel) (by decide +kernel)) (by decide +kernel) (by decide +kernel) (fun m454 => ?_)
                refine q_ic (v := 1) (mz_fe (e := (104, .iconst 1, 1, (0, 0, 0), [])) (by decide +kernel)) (by decide) ?_
                exact q_retI (mz_fe (e := (105, .ireturn, 1, (0, 0, 0), [])) (by decide +kernel)) (by decide +kernel)
              · refine q_bi (v := 13) (mz_fe (e := (91, .bipush 13, 2, (0, 0, 0), [])) (by decide +kernel)) (by decide) ?_
                refine q_s (mz_fe (e := (93, .istore 4, 2, (0, 0, 0), [])) (by decide +kernel)) (pc' := 95) (L' := [some (.ref 239), some (.int x0), some (.int x1), some (.int x2), some (.int 13)]) (st' := []) rfl ?_
                refine q_o (mz_fe (e := (95, .aload_n 0, 1, (0, 0, 0), [])) (by decide +kernel)) (pc2 := 96) rfl ?_
                refine q_o (mz_fe (e := (96, .iload 4, 2, (0, 0, 0), [])) (by decide +kernel)) (pc2 := 98) rfl ?_
                refine q_o (mz_fe (e := (98, .iload_n 1, 1, (0, 0, 0), [])) (by decide +kernel)) (pc2 := 99) rfl ?_
                refine q_ic (v := 0) (mz_fe (e := (99, .iconst 0, 1, (0, 0, 0), [])) (by decide +kernel)) (by decide) ?_
                refine q_o (mz_fe (e := (100, .lconst 0, 1, (0, 0, 0), [])) (by decide +kernel)) (pc2 := 101) (st2 := [.long 0, .int 0, .int x0, .int 13, .ref 239]) rfl ?_
                refine q_callV (N := 182) (vs := [.ref 239, .int 13, .int x0, .int 0, .long 0]) (rest := []) (L' := [some (.ref 239), some (.int x0), some (.int x1), some (.int x2), some (.int 13)]) rfl (mz_fe (e := (101, .invokevirtual 188, 172, (182, 5, 18), [])) (by decide +kernel)) rfl (mz_inv_virt (N := 182) (k := 5) (t := 18) (st := [.long 0, .int 0, .int x0, .int 13, .ref 239]) (rest := []) (b := 239) (vs := [.int 13, .int x0, .int 0, .long 0]) (h := (mz_S0, m)) rfl rfl (Nat.le_of_ble_eq_true rfl) (Nat.le_of_ble_eq_true rfl) tg_239 (by decide)) (mz_dc_lt (n := 6) rfl (by decide +kernel) (by decide +kernel)) (by decide +kernel) (by decide +kernel) (fun m457 => ?_)
                refine q_ic (v := 1) (mz_fe (e := (104, .iconst 1, 1, (0, 0, 0), [])) (by decide +kernel)) (by decide) ?_
                exact q_retI (mz_fe (e := (105, .ireturn, 1, (0, 0, 0), [])) (by decide +kernel)) (by decide +kernel)
            · refine q_bi (v := 15) (mz_fe (e := (81, .bipush 15, 2, (0, 0, 0), [])) (by decide +kernel)) (by decide) ?_
              refine q_s (mz_fe (e := (83, .istore 4, 2, (0, 0, 0), [])) (by decide +kernel)) (pc' := 85) (L' := [some (.ref 239), some (.int x0), some (.int x1), some (.int x2), some (.int 15)]) (st' := []) rfl ?_
              refine q_o (mz_fe (e := (85, .iload_n 2, 1, (0, 0, 0), [])) (by decide +kernel)) (pc2 := 86) rfl ?_
              refine q_bi (v := 60) (mz_fe (e := (86, .bipush 60, 2, (0, 0, 0), [])) (by decide +kernel)) (by decide) ?_
              refine q_if (c := .ne) (off := 7) (t := 95) (x := x1) (y := 60) (st := []) (mz_fe (e := (88, .if_icmp .ne 7, 3, (0, 0, 0), [])) (by decide +kernel)) (fun _ => rfl) rfl rfl rfl (fun c460 => ?_) (fun c460 => ?_)
              · refine q_o (mz_fe (e := (95, .aload_n 0, 1, (0, 0, 0), [])) (by decide +kernel)) (pc2 := 96) rfl ?_
                refine q_o (mz_fe (e := (96, .iload 4, 2, (0, 0, 0), [])) (by decide +kernel)) (pc2 := 98) rfl ?_
                refine q_o (mz_fe (e := (98, .iload_n 1, 1, (0, 0, 0), [])) (by decide +kernel)) (pc2 := 99) rfl ?_
                refine q_ic (v := 0) (mz_fe (e := (99, .iconst 0, 1, (0, 0, 0), [])) (by decide +kernel)) (by decide) ?_
                refine q_o (mz_fe (e := (100, .lconst 0, 1, (0, 0, 0), [])) (by decide +kernel)) (pc2 := 101) (st2 := [.long 0, .int 0, .int x0, .int 15, .ref 239]) rfl ?_
                refine q_callV (N := 182) (vs := [.ref 239, .int 15, .int x0, .int 0, .long 0]) (rest := []) (L' := [some (.ref 239), some (.int x0), some (.int x1), some (.int x2), some (.int 15)]) rfl (mz_fe (e := (101, .invokevirtual 188, 172, (182, 5, 18), [])) (by decide +kernel)) rfl (mz_inv_virt (N := 182) (k := 5) (t := 18) (st := [.long 0, .int 0, .int x0, .int 15, .ref 239]) (rest := []) (b := 239) (vs := [.int 15, .int x0, .int 0, .long 0]) (h := (mz_S0, m)) rfl rfl (Nat.le_of_ble_eq_true rfl) (Nat.le_of_ble_eq_true rfl) tg_239 (by decide)) (mz_dc_lt (n := 6) rfl (by decide +kernel) (by decide +kernel)) (by decide +kernel) (by decide +kernel) (fun m461 => ?_)
                refine q_ic (v := 1) (mz_fe (e := (104, .iconst 1, 1, (0, 0, 0), [])) (by decide +kernel)) (by decide) ?_
                exact q_retI (mz_fe (e := (105, .ireturn, 1, (0, 0, 0), [])) (by decide +kernel)) (by decide +kernel)
              · refine q_bi (v := 13) (mz_fe (e := (91, .bipush 13, 2, (0, 0, 0), [])) (by decide +kernel)) (by decide) ?_
                refine q_s (mz_fe (e := (93, .istore 4, 2, (0, 0, 0), [])) (by decide +kernel)) (pc' := 95) (L' := [some (.ref 239), some (.int x0), some (.int x1), some (.int x2), some (.int 13)]) (st' := []) rfl ?_
                refine q_o (mz_fe (e := (95, .aload_n 0, 1, (0, 0, 0), [])) (by decide +kernel)) (pc2 := 96) rfl ?_
                refine q_o (mz_fe (e := (96, .iload 4, 2, (0, 0, 0), [])) (by decide +kernel)) (pc2 := 98) rfl ?_
                refine q_o (mz_fe (e := (98, .iload_n 1, 1, (0, 0, 0), [])) (by decide +kernel)) (pc2 := 99) rfl ?_
                refine q_ic (v := 0) (mz_fe (e := (99, .iconst 0, 1, (0, 0, 0), [])) (by decide +kernel)) (by decide) ?_
                refine q_o (mz_fe (e := (100, .lconst 0, 1, (0, 0, 0), [])) (by decide +kernel)) (pc2 := 101) (st2 := [.long 0, .int 0, .int x0, .int 13, .ref 239]) rfl ?_
                refine q_callV (N := 182) (vs := [.ref 239, .int 13, .int x0, .int 0, .long 0]) (rest := []) (L' := [some (.ref 239), some (.int x0), some (.int x1), some (.int x2), some (.int 13)]) rfl (mz_fe (e := (101, .invokevirtual 188, 172, (182, 5, 18), [])) (by decide +kernel)) rfl (mz_inv_virt (N := 182) (k := 5) (t := 18) (st := [.long 0, .int 0, .int x0, .int 13, .ref 239]) (rest := []) (b := 239) (vs := [.int 13, .int x0, .int 0, .long 0]) (h := (mz_S0, m)) rfl rfl (Nat.le_of_ble_eq_true rfl) (Nat.le_of_ble_eq_true rfl) tg_239 (by decide)) (mz_dc_lt (n := 6) rfl (by decide +kernel) (by decide +kernel)) (by decide +kernel) (by decide +kernel) (fun m464 => ?_)
                refine q_ic (v := 1) (mz_fe (e := (104, .iconst 1, 1, (0, 0, 0), [])) (by decide +kernel)) (by decide) ?_
                exact q_retI (mz_fe (e := (105, .ireturn, 1, (0, 0, 0), [])) (by decide +kernel)) (by decide +kernel)
          · refine q_bi (v := 10) (mz_fe (e := (71, .bipush 10, 2, (0, 0, 0), [])) (by decide +kernel)) (by decide) ?_
            refine q_s (mz_fe (e := (73, .istore 4, 2, (0, 0, 0), [])) (by decide +kernel)) (pc' := 75) (L' := [some (.ref 239), some (.int x0), some (.int x1), some (.int x2), some (.int 10)]) (st' := []) rfl ?_
            refine q_o (mz_fe (e := (75, .iload_n 2, 1, (0, 0, 0), [])) (by decide +kernel)) (pc2 := 76) rfl ?_
            refine q_bi (v := 47) (mz_fe (e := (76, .bipush 47, 2, (0, 0, 0), [])) (by decide +kernel)) (by decide) ?_
            refine q_if (c := .ne) (off := 7) (t := 85) (x := x1) (y := 47) (st := []) (mz_fe (e := (78, .if_icmp .ne 7, 3, (0, 0, 0), [])) (by decide +kernel)) (fun _ => rfl) rfl rfl rfl (fun c467 => ?_) (fun c467 => ?_)
            · refine q_o (mz_fe (e := (85, .iload_n 2, 1, (0, 0, 0), [])) (by decide +kernel)) (pc2 := 86) rfl ?_
              refine q_bi (v := 60) (mz_fe (e := (86, .bipush 60, 2, (0, 0, 0), [])) (by decide +kernel)) (by decide) ?_
              refine q_if (c := .ne) (off := 7) (t := 95) (x := x1) (y := 60) (st := []) (mz_fe (e := (88, .if_icmp .ne 7, 3, (0, 0, 0), [])) (by decide +kernel)) (fun _ => rfl) rfl rfl rfl (fun c468 => ?_) (fun c468 => ?_)
              · refine q_o (mz_fe (e := (95, .aload_n 0, 1, (0, 0, 0), [])) (by decide +kernel)) (pc2 := 96) rfl ?_
                refine q_o (mz_fe (e := (96, .iload 4, 2, (0, 0, 0), [])) (by decide +kernel)) (pc2 := 98) rfl ?_
                refine q_o (mz_fe (e := (98, .iload_n 1, 1, (0, 0, 0), [])) (by decide +kernel)) (pc2 := 99) rfl ?_
                refine q_ic (v := 0) (mz_fe (e := (99, .iconst 0, 1, (0, 0, 0), [])) (by decide +kernel)) (by decide) ?_
                refine q_o (mz_fe (e := (100, .lconst 0, 1, (0, 0, 0), [])) (by decide +kernel)) (pc2 := 101) (st2 := [.long 0, .int 0, .int x0, .int 10, .ref 239]) rfl ?_
                refine q_callV (N := 182) (vs := [.ref 239, .int 10, .int x0, .int 0, .long 0]) (rest := []) (L' := [some (.ref 239), some (.int x0), some (.int x1), some (.int x2), some (.int 10)]) rfl (mz_fe (e := (101, .invokevirtual 188, 172, (182, 5, 18), [])) (by decide +kernel)) rfl (mz_inv_virt (N := 182) (k := 5) (t := 18) (st := [.long 0, .int 0, .int x0, .int 10, .ref 239]) (rest := []) (b := 239) (vs := [.int 10, .int x0, .int 0, .long 0]) (h := (mz_S0, m)) rfl rfl (Nat.le_of_ble_eq_true rfl) (Nat.le_of_ble_eq_true rfl) tg_239 (by decide)) (mz_dc_lt (n := 6) rfl (by decide +kernel) (by decide +kernel)) (by decide +kernel) (by decide +kernel) (fun m469 => ?_)
                refine q_ic (v := 1) (mz_fe (e := (104, .iconst 1, 1, (0, 0, 0), [])) (by decide +kernel)) (by decide) ?_
                exact q_retI (mz_fe (e := (105, .ireturn, 1, (0, 0, 0), [])) (by decide +kernel)) (by decide +kernel)
              · refine q_bi (v := 13) (mz_fe (e := (91, .bipush 13, 2, (0, 0, 0), [])) (by decide +kernel)) (by decide) ?_
                refine q_s (mz_fe (e := (93, .istore 4, 2, (0, 0, 0), [])) (by decide +kernel)) (pc' := 95) (L' := [some (.ref 239), some (.int x0), some (.int x1), some (.int x2), some (.int 13)]) (st' := []) rfl ?_
                refine q_o (mz_fe (e := (95, .aload_n 0, 1, (0, 0, 0), [])) (by decide +kernel)) (pc2 := 96) rfl ?_
                refine q_o (mz_fe (e := (96, .iload 4, 2, (0, 0, 0), [])) (by decide +kernel)) (pc2 := 98) rfl ?_
                refine q_o (mz_fe (e := (98, .iload_n 1, 1, (0, 0, 0), [])) (by decide +kernel)) (pc2 := 99) rfl ?_
                refine q_ic (v := 0) (mz_fe (e := (99, .iconst 0, 1, (0, 0, 0), [])) (by decide +kernel)) (by decide) ?_
                refine q_o (mz_fe (e := (100, .lconst 0, 1, (0, 0, 0), [])) (by decide +kernel)) (pc2 := 101) (st2 := [.long 0, .int 0, .int x0, .int 13, .ref 239]) rfl ?_
                refine q_callV (N := 182) (vs := [.ref 239, .int 13, .int x0, .int 0, .long 0]) (rest := []) (L' := [some (.ref 239), some (.int x0), some (.int x1), some (.int x2), some (.int 13)]) rfl (mz_fe (e := (101, .invokevirtual 188, 172, (182, 5, 18), [])) (by decide +kernel)) rfl (mz_inv_virt (N := 182) (k := 5) (t := 18) (st := [.long 0, .int 0, .int x0, .int 13, .ref 239]) (rest := []) (b := 239) (vs := [.int 13, .int x0, .int 0, .long 0]) (h := (mz_S0, m)) rfl rfl (Nat.le_of_ble_eq_true rfl) (Nat.le_of_ble_eq_true rfl) tg_239 (by decide)) (mz_dc_lt (n := 6) rfl (by decide +kernel) (by decide +kernel)) (by decide +kernel) (by decide +kernel) (fun m472 => ?_)
                refine q_ic (v := 1) (mz_fe (e := (104, .iconst 1, 1, (0, 0, 0), [])) (by decide +kernel)) (by decide) ?_
                exact q_retI (mz_fe (e := (105, .ireturn, 1, (0, 0, 0), [])) (by decide +kernel)) (by decide +kernel)
            · refine q_bi (v := 15) (mz_fe (e := (81, .bipush 15, 2, (0, 0, 0), [])) (by decide +kernel)) (by decide) ?_
              refine q_s (mz_fe (e := (83, .istore 4, 2, (0, 0, 0), [])) (by decide +kernel)) (pc' := 85) (L' := [some (.ref 239), some (.int x0), some (.int x1), some (.int x2), some (.int 15)]) (st' := []) rfl ?_
              refine q_o (mz_fe (e := (85, .iload_n 2, 1, (0, 0, 0), [])) (by decide +kernel)) (pc2 := 86) rfl ?_
              refine q_bi (v := 60) (mz_fe (e := (86, .bipush 60, 2, (0, 0, 0), [])) (by decide +kernel)) (by decide) ?_
              refine q_if (c := .ne) (off := 7) (t := 95) (x := x1) (y := 60) (st := []) (mz_fe (e := (88, .if_icmp .ne 7, 3, (0, 0, 0), [])) (by decide +kernel)) (fun _ => rfl) rfl rfl rfl (fun c475 => ?_) (fun c475 => ?_)
              · refine q_o (mz_fe (e := (95, .aload_n 0, 1, (0, 0, 0), [])) (by decide +kernel)) (pc2 := 96) rfl ?_
                refine q_o (mz_fe (e := (96, .iload 4, 2, (0, 0, 0), [])) (by decide +kernel)) (pc2 := 98) rfl ?_
                refine q_o (mz_fe (e := (98, .iload_n 1, 1, (0, 0, 0), [])) (by decide +kernel)) (pc2 := 99) rfl ?_
                refine q_ic (v := 0) (mz_fe (e := (99, .iconst 0, 1, (0, 0, 0), [])) (by decide +kernel)) (by decide) ?_
                refine q_o (mz_fe (e := (100, .lconst 0, 1, (0, 0, 0), [])) (by decide +kernel)) (pc2 := 101) (st2 := [.long 0, .int 0, .int x0, .int 15, .ref 239]) rfl ?_
                refine q_callV (N := 182) (vs := [.ref 239, .int 15, .int x0, .int 0, .long 0]) (rest := []) (L' := [some (.ref 239), some (.int x0), some (.int x1), some (.int x2), some (.int 15)]) rfl (mz_fe (e := (101, .invokevirtual 188, 172, (182, 5, 18), [])) (by decide +kernel)) rfl (mz_inv_virt (N := 182) (k := 5) (t := 18) (st := [.long 0, .int 0, .int x0, .int 15, .ref 239]) (rest := []) (b := 239) (vs := [.int 15, .int x0, .int 0, .long 0]) (h := (mz_S0, m)) rfl rfl (Nat.le_of_ble_eq_true rfl) (Nat.le_of_ble_eq_true rfl) tg_239 (by decide)) (mz_dc_lt (n := 6) rfl (by decide +kernel) (by decide +kernel)) (by decide +kernel) (by decide +kernel) (fun m476 => ?_)
                refine q_ic (v := 1) (mz_fe (e := (104, .iconst 1, 1, (0, 0, 0), [])) (by decide +kernel)) (by decide) ?_
                exact q_retI (mz_fe (e := (105, .ireturn, 1, (0, 0, 0), [])) (by decide +kernel)) (by decide +kernel)
              · refine q_bi (v := 13) (mz_fe (e := (91, .bipush 13, 2, (0, 0, 0), [])) (by decide +kernel)) (by decide) ?_
                refine q_s (mz_fe (e := (93, .istore 4, 2, (0, 0, 0), [])) (by decide +kernel)) (pc' := 95) (L' := [some (.ref 239), some (.int x0), some (.int x1), some (.int x2), some (.int 13)]) (st' := []) rfl ?_
                refine q_o (mz_fe (e := (95, .aload_n 0, 1, (0, 0, 0), [])) (by decide +kernel)) (pc2 := 96) rfl ?_
                refine q_o (mz_fe (e := (96, .iload 4, 2, (0, 0, 0), [])) (by decide +kernel)) (pc2 := 98) rfl ?_
                refine q_o (mz_fe (e := (98, .iload_n 1, 1, (0, 0, 0), [])) (by decide +kernel)) (pc2 := 99) rfl ?_
                refine q_ic (v := 0) (mz_fe (e := (99, .iconst 0, 1, (0, 0, 0), [])) (by decide +kernel)) (by decide) ?_
                refine q_o (mz_fe (e := (100, .lconst 0, 1, (0, 0, 0), [])) (by decide +kernel)) (pc2 := 101) (st2 := [.long 0, .int 0, .int x0, .int 13, .ref 239]) rfl ?_
                refine q_callV (N := 182) (vs := [.ref 239, .int 13, .int x0, .int 0, .long 0]) (rest := []) (L' := [some (.ref 239), some (.int x0), some (.int x1), some (.int x2), some (.int 13)]) rfl (mz_fe (e := (101, .invokevirtual 188, 172, (182, 5, 18), [])) (by decide +kernel)) rfl (mz_inv_virt (N := 182) (k := 5) (t := 18) (st := [.long 0, .int 0, .int x0, .int 13, .ref 239]) (rest := []) (b := 239) (vs := [.int 13, .int x0, .int 0, .long 0]) (h := (mz_S0, m)) rfl rfl (Nat.le_of_ble_eq_true rfl) (Nat.le_of_ble_eq_true rfl) tg_239 (by decide)) (mz_dc_lt (n := 6) rfl (by decide +kernel) (by decide +kernel)) (by decide +kernel) (by decide +kernel) (fun m479 => ?_)
                refine q_ic (v := 1) (mz_fe (e := (104, .iconst 1, 1, (0, 0, 0), [])) (by decide +kernel)) (by decide) ?_
                exact q_retI (mz_fe (e := (105, .ireturn, 1, (0, 0, 0), [])) (by decide +kernel)) (by decide +kernel)
        · refine q_bi (v := 9) (mz_fe (e := (61, .bipush 9, 2, (0, 0, 0), [])) (by decide +kernel)) (by decide) ?_
          refine q_s (mz_fe (e := (63, .istore 4, 2, (0, 0, 0), [])) (by decide +kernel)) (pc' := 65) (L' := [some (.ref 239), some (.int x0), some (.int x1), some (.int x2), some (.int 9)]) (st' := []) rfl ?_
          refine q_o (mz_fe (e := (65, .iload_n 2, 1, (0, 0, 0), [])) (by decide +kernel)) (pc2 := 66) rfl ?_
          refine q_bi (v := 42) (mz_fe (e := (66, .bipush 42, 2, (0, 0, 0), [])) (by decide +kernel)) (by decide) ?_
          refine q_if (c := .ne) (off := 7) (t := 75) (x := x1) (y := 42) (st := []) (mz_fe (e := (68, .if_icmp .ne 7, 3, (0, 0, 0), [])) (by decide +kernel)) (fun _ => rfl) rfl rfl rfl (fun c482 => ?_) (fun c482 => ?_)
          · refine q_o (mz_fe (e := (75, .iload_n 2, 1, (0, 0, 0), [])) (by decide +kernel)) (pc2 := 76) rfl ?_
            refine q_bi (v := 47) (mz_fe (e := (76, .bipush 47, 2, (0, 0, 0), [])) (by decide +kernel)) (by decide) ?_
            refine q_if (c := .ne) (off := 7) (t := 85) (x := x1) (y := 47) (st := []) (mz_fe (e := (78, .if_icmp .ne 7, 3, (0, 0, 0), [])) (by decide +kernel)) (fun _ => rfl) rfl rfl rfl (fun c483 => ?_) (fun c483 => ?_)
            · refine q_o (mz_fe (e := (85, .iload_n 2, 1, (0, 0, 0), [])) (by decide +kernel)) (pc2 := 86) rfl ?_
              refine q_bi (v := 60) (mz_fe (e := (86, .bipush 60, 2, (0, 0, 0), [])) (by decide +kernel)) (by decide) ?_
              refine q_if (c := .ne) (off := 7) (t := 95) (x := x1) (y := 60) (st := []) (mz_fe (e := (88, .if_icmp .ne 7, 3, (0, 0, 0), [])) (by decide +kernel)) (fun _ => rfl) rfl rfl rfl (fun c484 => ?_) (fun c484 => ?_)
              · refine q_o (mz_fe (e := (95, .aload_n 0, 1, (0, 0, 0), [])) (by decide +kernel)) (pc2 := 96) rfl ?_
                refine q_o (mz_fe (e := (96, .iload 4, 2, (0, 0, 0), [])) (by decide +kernel)) (pc2 := 98) rfl ?_
                refine q_o (mz_fe (e := (98, .iload_n 1, 1, (0, 0, 0), [])) (by decide +kernel)) (pc2 := 99) rfl ?_
                refine q_ic (v := 0) (mz_fe (e := (99, .iconst 0, 1, (0, 0, 0), [])) (by decide +kernel)) (by decide) ?_
                refine q_o (mz_fe (e := (100, .lconst 0, 1, (0, 0, 0), [])) (by decide +kernel)) (pc2 := 101) (st2 := [.long 0, .int 0, .int x0, .int 9, .ref 239]) rfl ?_
                refine q_callV (N := 182) (vs := [.ref 239, .int 9, .int x0, .int 0, .long 0]) (rest := []) (L' := [some (.ref 239), some (.int x0), some (.int x1), some (.int x2), some (.int 9)]) rfl (mz_fe (e := (101, .invokevirtual 188, 172, (182, 5, 18), [])) (by decide +kernel)) rfl (mz_inv_virt (N := 182) (k := 5) (t := 18) (st := [.long 0, .int 0, .int x0, .int 9, .ref 239]) (rest := []) (b := 239) (vs := [.int 9, .int x0, .int 0, .long 0]) (h := (mz_S0, m)) rfl rfl (Nat.le_of_ble_eq_true rfl) (Nat.le_of_ble_eq_true rfl) tg_239 (by decide)) (mz_dc_lt (n := 6) rfl (by decide +kernel) (by decide +kernel)) (by decide +kernel) (by decide +kernel) (fun m485 => ?_)
                refine q_ic (v := 1) (mz_fe (e := (104, .iconst 1, 1, (0, 0, 0), [])) (by decide +kernel)) (by decide) ?_
                exact q_retI (mz_fe (e := (105, .ireturn, 1, (0, 0, 0), [])) (by decide +kernel)) (by decide +kernel)
              · refine q_bi (v := 13) (mz_fe (e := (91, .bipush 13, 2, (0, 0, 0), [])) (by decide +kernel)) (by decide) ?_
                refine q_s (mz_fe (e := (93, .istore 4, 2, (0, 0, 0), [])) (by decide +kernel)) (pc' := 95) (L' := [some (.ref 239), some (.int x0), some (.int x1), some (.int x2), some (.int 13)]) (st' := []) rfl ?_
                refine q_o (mz_fe (e := (95, .aload_n 0, 1, (0, 0, 0), [])) (by decide +kernel)) (pc2 := 96) rfl ?_
                refine q_o (mz_fe (e := (96, .iload 4, 2, (0, 0, 0), [])) (by decide +kernel)) (pc2 := 98) rfl ?_
                refine q_o (mz_fe (e := (98, .iload_n 1, 1, (0, 0, 0), [])) (by decide +kernel)) (pc2 := 99) rfl ?_
                refine q_ic (v := 0) (mz_fe (e := (99, .iconst 0, 1, (0, 0, 0), [])) (by decide +kernel)) (by decide) ?_
                refine q_o (mz_fe (e := (100, .lconst 0, 1, (0, 0, 0), [])) (by decide +kernel)) (pc2 := 101) (st2 := [.long 0, .int 0, .int x0, .int 13, .ref 239]) rfl ?_
                refine q_callV (N := 182) (vs := [.ref 239, .int 13, .int x0, .int 0, .long 0]) (rest := []) (L' := [some (.ref 239), some (.int x0), some (.int x1), some (.int x2), some (.int 13)]) rfl (mz_fe (e := (101, .invokevirtual 188, 172, (182, 5, 18), [])) (by decide +kernel)) rfl (mz_inv_virt (N := 182) (k := 5) (t := 18) (st := [.long 0, .int 0, .int x0, .int 13, .ref 239]) (rest := []) (b := 239) (vs := [.int 13, .int x0, .int 0, .long 0]) (h := (mz_S0, m)) rfl rfl (Nat.le_of_ble_eq_true rfl) (Nat.le_of_ble_eq_true rfl) tg_239 (by decide)) (mz_dc_lt (n := 6) rfl (by decide +kernel) (by decide +kernel)) (by decide +kernel) (by decide +kernel) (fun m488 => ?_)
                refine q_ic (v := 1) (mz_fe (e := (104, .iconst 1, 1, (0, 0, 0), [])) (by decide +kernel)) (by decide) ?_
                exact q_retI (mz_fe (e := (105, .ireturn, 1, (0, 0, 0), [])) (by decide +kernel)) (by decide +kernel)
            · refine q_bi (v := 15) (mz_fe (e := (81, .bipush 15, 2, (0, 0, 0), [])) (by decide +kernel)) (by decide) ?_
              refine q_s (mz_fe (e := (83, .istore 4, 2, (0, 0, 0), [])) (by decide +kernel)) (pc' := 85) (L' := [some (.ref 239), some (.int x0), some (.int x1), some (.int x2), some (.int 15)]) (st' := []) rfl ?_
              refine q_o (mz_fe (e := (85, .iload_n 2, 1, (0, 0, 0), [])) (by decide +kernel)) (pc2 := 86) rfl ?_
              refine q_bi (v := 60) (mz_fe (e := (86, .bipush 60, 2, (0, 0, 0), [])) (by decide +kernel)) (by decide) ?_
              refine q_if (c := .ne) (off := 7) (t := 95) (x := x1) (y := 60) (st := []) (mz_fe (e := (88, .if_icmp .ne 7, 3, (0, 0, 0), [])) (by decide +kernel)) (fun _ => rfl) rfl rfl rfl (fun c491 => ?_) (fun c491 => ?_)
              · refine q_o (mz_fe (e := (95, .aload_n 0, 1, (0, 0, 0), [])) (by decide +kernel)) (pc2 := 96) rfl ?_
                refine q_o (mz_fe (e := (96, .iload 4, 2, (0, 0, 0), [])) (by decide +kernel)) (pc2 := 98) rfl ?_
                refine q_o (mz_fe (e := (98, .iload_n 1, 1, (0, 0, 0), [])) (by decide +kernel)) (pc2 := 99) rfl ?_
                refine q_ic (v := 0) (mz_fe (e := (99, .iconst 0, 1, (0, 0, 0), [])) (by decide +kernel)) (by decide) ?_
                refine q_o (mz_fe (e := (100, .lconst 0, 1, (0, 0, 0), [])) (by decide +kernel)) (pc2 := 101) (st2 := [.long 0, .int 0, .int x0, .int 15, .ref 239]) rfl ?_
                refine q_callV (N := 182) (vs := [.ref 239, .int 15, .int x0, .int 0, .long 0]) (rest := []) (L' := [some (.ref 239), some (.int x0), some (.int x1), some (.int x2), some (.int 15)]) rfl (mz_fe (e := (101, .invokevirtual 188, 172, (182, 5, 18), [])) (by decide +kernel)) rfl (mz_inv_virt (N := 182) (k := 5) (t := 18) (st := [.long 0, .int 0, .int x0, .int 15, .ref 239]) (rest := []) (b := 239) (vs := [.int 15, .int x0, .int 0, .long 0]) (h := (mz_S0, m)) rfl rfl (Nat.le_of_ble_eq_true rfl) (Nat.le_of_ble_eq_true rfl) tg_239 (by decide)) (mz_dc_lt (n := 6) rfl (by decide +kernel) (by decide +kernel)) (by decide +kernel) (by decide +kernel) (fun m492 => ?_)
                refine q_ic (v := 1) (mz_fe (e := (104, .iconst 1, 1, (0, 0, 0), [])) (by decide +kernel)) (by decide) ?_
                exact q_retI (mz_fe (e := (105, .ireturn, 1, (0, 0, 0), [])) (by decide +kernel)) (by decide +kernel)
              · refine q_bi (v := 13) (mz_fe (e := (91, .bipush 13, 2, (0, 0, 0), [])) (by decide +kernel)) (by decide) ?_
                refine q_s (mz_fe (e := (93, .istore 4, 2, (0, 0, 0), [])) (by decide +kernel)) (pc' := 95) (L' := [some (.ref 239), some (.int x0), some (.int x1), some (.int x2), some (.int 13)]) (st' := []) rfl ?_
                refine q_o (mz_fe (e := (95, .aload_n 0, 1, (0, 0, 0), [])) (by decide +kernel)) (pc2 := 96) rfl ?_
                refine q_o (mz_fe (e := (96, .iload 4, 2, (0, 0, 0), [])) (by decide +kernel)) (pc2 := 98) rfl ?_
                refine q_o (mz_fe (e := (98, .iload_n 1, 1, (0, 0, 0), [])) (by decide +kernel)) (pc2 := 99) rfl ?_
                refine q_ic (v := 0) (mz_fe (e := (99, .iconst 0, 1, (0, 0, 0), [])) (by decide +kernel)) (by decide) ?_
                refine q_o (mz_fe (e := (100, .lconst 0, 1, (0, 0, 0), [])) (by decide +kernel)) (pc2 := 101) (st2 := [.long 0, .int 0, .int x0, .int 13, .ref 239]) rfl ?_
                refine q_callV (N := 182) (vs := [.ref 239, .int 13, .int x0, .int 0, .long 0]) (rest := []) (L' := [some (.ref 239), some (.int x0), some (.int x1), some (.int x2), some (.int 13)]) rfl (mz_fe (e := (101, .invokevirtual 188, 172, (182, 5, 18), [])) (by decide +kernel)) rfl (mz_inv_virt (N := 182) (k := 5) (t := 18) (st := [.long 0, .int 0, .int x0, .int 13, .ref 239]) (rest := []) (b := 239) (vs := [.int 13, .int x0, .int 0, .long 0]) (h := (mz_S0, m)) rfl rfl (Nat.le_of_ble_eq_true rfl) (Nat.le_of_ble_eq_true rfl) tg_239 (by decide)) (mz_dc_lt (n := 6) rfl (by decide +kernel) (by decide +kernel)) (by decide +kernel) (by decide +kernel) (fun m495 => ?_)
                refine q_ic (v := 1) (mz_fe (e := (104, .iconst 1, 1, (0, 0, 0), [])) (by decide +kernel)) (by decide) ?_
                exact q_retI (mz_fe (e := (105, .ireturn, 1, (0, 0, 0), [])) (by decide +kernel)) (by decide +kernel)
          · refine q_bi (v := 10) (mz_fe (e := (71, .bipush 10, 2, (0, 0, 0), [])) (by decide +kernel)) (by decide) ?_
            refine q_s (mz_fe (e := (73, .istore 4, 2, (0, 0, 0), [])) (by decide +kernel)) (pc' := 75) (L' := [some (.ref 239), some (.int x0), some (.int x1), some (.int x2), some (.int 10)]) (st' := []) rfl ?_
            refine q_o (mz_fe (e := (75, .iload_n 2, 1, (0, 0, 0), [])) (by decide +kernel)) (pc2 := 76) rfl ?_
            refine q_bi (v := 47) (mz_fe (e := (76, .bipush 47, 2, (0, 0, 0), [])) (by decide +kernel)) (by decide) ?_
            refine q_if (c := .ne) (off := 7) (t := 85) (x := x1) (y := 47) (st := []) (mz_fe (e := (78, .if_icmp .ne 7, 3, (0, 0, 0), [])) (by decide +kernel)) (fun _ => rfl) rfl rfl rfl (fun c498 => ?_) (fun c498 => ?_)
            · refine q_o (mz_fe (e := (85, .iload_n 2, 1, (0, 0, 0), [])) (by decide +kernel)) (pc2 := 86) rfl ?_
              refine q_bi (v := 60) (mz_fe (e := (86, .bipush 60, 2, (0, 0, 0), [])) (by decide +kernel)) (by decide) ?_
              refine q_if (c := .ne) (off := 7) (t := 95) (x := x1) (y := 60) (st := []) (mz_fe (e := (88, .if_icmp .ne 7, 3, (0, 0, 0), [])) (by decide +kernel)) (fun _ => rfl) rfl rfl rfl (fun c499 => ?_) (fun c499 => ?_)
              · refine q_o (mz_fe (e := (95, .aload_n 0, 1, (0, 0, 0), [])) (by decide +kernel)) (pc2 := 96) rfl ?_
                refine q_o (mz_fe (e := (96, .iload 4, 2, (0, 0, 0), [])) (by decide +kernel)) (pc2 := 98) rfl ?_
                refine q_o (mz_fe (e := (98, .iload_n 1, 1, (0, 0, 0), [])) (by decide +kernel)) (pc2 := 99) rfl ?_
                refine q_ic (v := 0) (mz_fe (e := (99, .iconst 0, 1, (0, 0, 0), [])) (by decide +kernel)) (by decide) ?_
                refine q_o (mz_fe (e := (100, .lconst 0, 1, (0, 0, 0), [])) (by decide +kernel)) (pc2 := 101) (st2 := [.long 0, .int 0, .int x0, .int 10, .ref 239]) rfl ?_
                refine q_callV (N := 182) (vs := [.ref 239, .int 10, .int x0, .int 0, .long 0]) (rest := []) (L' := [some (.ref 239), some (.int x0), some (.int x1), some (.int x2), some (.int 10)]) rfl (mz_fe (e := (101, .invokevirtual 188, 172, (182, 5, 18), [])) (by decide +kernel)) rfl (mz_inv_virt (N := 182) (k := 5) (t := 18) (st := [.long 0, .int 0, .int x0, .int 10, .ref 239]) (rest := []) (b := 239) (vs := [.int 10, .int x0, .int 0, .long 0]) (h := (mz_S0, m)) rfl rfl (Nat.le_of_ble_eq_true rfl) (Nat.le_of_ble_eq_true rfl) tg_239 (by decide)) (mz_dc_lt (n := 6) rfl (by decide +kernel) (by decide +kernel)) (by decide +kernel) (by decide +kernel) (fun m500 => ?_)
                refine q_ic (v := 1) (mz_fe (e := (104, .iconst 1, 1, (0, 0, 0), [])) (by decide +kernel)) (by decide) ?_
                exact q_retI (mz_fe (e := (105, .ireturn, 1, (0, 0, 0), [])) (by decide +kernel)) (by decide +kernel)
              · refine q_bi (v := 13) (mz_fe (e := (91, .bipush 13, 2, (0, 0, 0), [])) (by decide +kernel)) (by decide) ?_
                refine q_s (mz_fe (e := (93, .istore 4, 2, (0, 0, 0), [])) (by decide +kernel)) (pc' := 95) (L' := [some (.ref 239), some (.int x0), some (.int x1), some (.int x2), some (.int 13)]) (st' := []) rfl ?_
                refine q_o (mz_fe (e := (95, .aload_n 0, 1, (0, 0, 0), [])) (by decide +kernel)) (pc2 := 96) rfl ?_
                refine q_o (mz_fe (e := (96, .iload 4, 2, (0, 0, 0), [])) (by decide +kernel)) (pc2 := 98) rfl ?_
                refine q_o (mz_fe (e := (98, .iload_n 1, 1, (0, 0, 0), [])) (by decide +kernel)) (pc2 := 99) rfl ?_
                refine q_ic (v := 0) (mz_fe (e := (99, .iconst 0, 1, (0, 0, 0), [])) (by decide +kernel)) (by decide) ?_
                refine q_o (mz_fe (e := (100, .lconst 0, 1, (0, 0, 0), [])) (by decide +kernel)) (pc2 := 101) (st2 := [.long 0, .int 0, .int x0, .int 13, .ref 239]) rfl ?_
                refine q_callV (N := 182) (vs := [.ref 239, .int 13, .int x0, .int 0, .long 0]) (rest := []) (L' := [some (.ref 239), some (.int x0), some (.int x1), some (.int x2), some (.int 13)]) rfl (mz_fe (e := (101, .invokevirtual 188, 172, (182, 5, 18), [])) (by decide +kernel)) rfl (mz_inv_virt (N := 182) (k := 5) (t := 18) (st := [.long 0, .int 0, .int x0, .int 13, .ref 239]) (rest := []) (b := 239) (vs := [.int 13, .int x0, .int 0, .long 0]) (h := (mz_S0, m)) rfl rfl (Nat.le_of_ble_eq_true rfl) (Nat.le_of_ble_eq_true rfl) tg_239 (by decide)) (mz_dc_lt (n := 6) rfl (by decide +kernel) (by decide +kernel)) (by decide +kernel) (by decide +kernel) (fun m503 => ?_)
                refine q_ic (v := 1) (mz_fe (e := (104, .iconst 1, 1, (0, 0, 0), [])) (by decide +kernel)) (by decide) ?_
                exact q_retI (mz_fe (e := (105, .ireturn, 1, (0, 0, 0), [])) (by decide +kernel)) (by decide +kernel)
            · refine q_bi (v := 15) (mz_fe (e := (81, .bipush 15, 2, (0, 0, 0), [])) (by decide +kernel)) (by decide) ?_
              refine q_s (mz_fe (e := (83, .istore 4, 2, (0, 0, 0), [])) (by decide +kernel)) (pc' := 85) (L' := [some (.ref 239), some (.int x0), some (.int x1), some (.int x2), some (.int 15)]) (st' := []) rfl ?_
              refine q_o (mz_fe (e := (85, .iload_n 2, 1, (0, 0, 0), [])) (by decide +kernel)) (pc2 := 86) rfl ?_
              refine q_bi (v := 60) (mz_fe (e := (86, .bipush 60, 2, (0, 0, 0), [])) (by decide +kernel)) (by decide) ?_
              refine q_if (c := .ne) (off := 7) (t := 95) (x := x1) (y := 60) (st := []) (mz_fe (e := (88, .if_icmp .ne 7, 3, (0, 0, 0), [])) (by decide +kernel)) (fun _ => rfl) rfl rfl rfl (fun c506 => ?_) (fun c506 => ?_)
              · refine q_o (mz_fe (e := (95, .aload_n 0, 1, (0, 0, 0), [])) (by decide +kernel)) (pc2 := 96) rfl ?_
                refine q_o (mz_fe (e := (96, .iload 4, 2, (0, 0, 0), [])) (by decide +kernel)) (pc2 := 98) rfl ?_
                refine q_o (mz_fe (e := (98, .iload_n 1, 1, (0, 0, 0), [])) (by decide +kernel)) (pc2 := 99) rfl ?_
                refine q_ic (v := 0) (mz_fe (e := (99, .iconst 0, 1, (0, 0, 0), [])) (by decide +kernel)) (by decide) ?_
                refine q_o (mz_fe (e := (100, .lconst 0, 1, (0, 0, 0), [])) (by decide +kernel)) (pc2 := 101) (st2 := [.long 0, .int 0, .int x0, .int 15, .ref 239]) rfl ?_
                refine q_callV (N := 182) (vs := [.ref 239, .int 15, .int x0, .int 0, .long 0]) (rest := []) (L' := [some (.ref 239), some (.int x0), some (.int x1), some (.int x2), some (.int 15)]) rfl (mz_fe (e := (101, .invokevirtual 188, 172, (182, 5, 18), [])) (by decide +kernel)) rfl (mz_inv_virt (N := 182) (k := 5) (t := 18) (st := [.long 0, .int 0, .int x0, .int 15, .ref 239]) (rest := []) (b := 239) (vs := [.int 15, .int x0, .int 0, .long 0]) (h := (mz_S0, m)) rfl rfl (Nat.le_of_ble_eq_true rfl) (Nat.le_of_ble_eq_true rfl) tg_239 (by decide)) (mz_dc_lt (n := 6) rfl (by decide +kernel) (by decide +kernel)) (by decide +kernel) (by decide +kernel) (fun m507 => ?_)
                refine q_ic (v := 1) (mz_fe (e := (104, .iconst 1, 1, (0, 0, 0), [])) (by decide +kernel)) (by decide) ?_
                exact q_retI (mz_fe (e := (105, .ireturn, 1, (0, 0, 0), [])) (by decide +kernel)) (by decide +kernel)
              · refine q_bi (v := 13) (mz_fe (e := (91, .bipush 13, 2, (0, 0, 0), [])) (by decide +kernel)) (by decide) ?_
                refine q_s (mz_fe (e := (93, .istore 4, 2, (0, 0, 0), [])) (by decide +kernel)) (pc' := 95) (L' := [some (.ref 239), some (.int x0), some (.int x1), some (.int x2), some (.int 13)]) (st' := []) rfl ?_
                refine q_o (mz_fe (e := (95, .aload_n 0, 1, (0, 0, 0), [])) (by decide +kernel)) (pc2 := 96) rfl ?_
                refine q_o (mz_fe (e := (96, .iload 4, 2, (0, 0, 0), [])) (by decide +kernel)) (pc2 := 98) rfl ?_
                refine q_o (mz_fe (e := (98, .iload_n 1, 1, (0, 0, 0), [])) (by decide +kernel)) (pc2 := 99) rfl ?_
                refine q_ic (v := 0) (mz_fe (e := (99, .iconst 0, 1, (0, 0, 0), [])) (by decide +kernel)) (by decide) ?_
                refine q_o (mz_fe (e := (100, .lconst 0, 1, (0, 0, 0), [])) (by decide +kernel)) (pc2 := 101) (st2 := [.long 0, .int 0, .int x0, .int 13, .ref 239]) rfl ?_
                refine q_callV (N := 182) (vs := [.ref 239, .int 13, .int x0, .int 0, .long 0]) (rest := []) (L' := [some (.ref 239), some (.int x0), some (.int x1), some (.int x2), some (.int 13)]) rfl (mz_fe (e := (101, .invokevirtual 188, 172, (182, 5, 18), [])) (by decide +kernel)) rfl (mz_inv_virt (N := 182) (k := 5) (t := 18) (st := [.long 0, .int 0, .int x0, .int 13, .ref 239]) (rest := []) (b := 239) (vs := [.int 13, .int x0, .int 0, .long 0]) (h := (mz_S0, m)) rfl rfl (Nat.le_of_ble_eq_true rfl) (Nat.le_of_ble_eq_true rfl) tg_239 (by decide)) (mz_dc_lt (n := 6) rfl (by decide +kernel) (by decide +kernel)) (by decide +kernel) (by decide +kernel) (fun m510 => ?_)
                refine q_ic (v := 1) (mz_fe (e := (104, .iconst 1, 1, (0, 0, 0), [])) (by decide +kernel)) (by decide) ?_
                exact q_retI (mz_fe (e := (105, .ireturn, 1, (0, 0, 0), [])) (by decide +kernel)) (by decide +kernel)
  · refine q_ic (v := 4) (mz_fe (e := (6, .iconst 4, 1, (0, 0, 0), [])) (by decide +kernel)) (by decide) ?_
    refine q_o (mz_fe (e := (7, .goto 36, 3, (0, 0, 0), [])) (by decide +kernel)) (pc2 := 43) rfl ?_
    refine q_s (mz_fe (e := (43, .istore 4, 2, (0, 0, 0), [])) (by decide +kernel)) (pc' := 45) (L' := [some (.ref 239), some (.int x0), some (.int x1), some (.int x2), some (.int 4)]) (st' := []) rfl ?_
    refine q_o (mz_fe (e := (45, .iload_n 2, 1, (0, 0, 0), [])) (by decide +kernel)) (pc2 := 46) rfl ?_
    refine q_bi (v := 43) (mz_fe (e := (46, .bipush 43, 2, (0, 0, 0), [])) (by decide +kernel)) (by decide) ?_
    refine q_if (c := .ne) (off := 7) (t := 55) (x := x1) (y := 43) (st := []) (mz_fe (e := (48, .if_icmp .ne 7, 3, (0, 0, 0), [])) (by decide +kernel)) (fun _ => rfl) rfl rfl rfl (fun c513 => ?_) (fun c513 => ?_)
    · refine q_o (mz_fe (e := (55, .iload_n 2, 1, (0, 0, 0), [])) (by decide +kernel)) (pc2 := 56) rfl ?_
      refine q_bi (v := 45) (mz_fe (e := (56, .bipush 45, 2, (0, 0, 0), [])) (by decide +kernel)) (by decide) ?_
      refine q_if (c := .ne) (off := 7) (t := 65) (x := x1) (y := 45) (st := []) (mz_fe (e := (58, .if_icmp .ne 7, 3, (0, 0, 0), [])) (by decide +kernel)) (fun _ => rfl) rfl rfl rfl (fun c514 => ?_) (fun c514 => ?_)
      · refine q_o (mz_fe (e := (65, .iload_n 2, 1, (0, 0, 0), [])) (by decide +kernel)) (pc2 := 66) rfl ?_
        refine q_bi (v := 42) (mz_fe (e := (66, .bipush 42, 2, (0, 0, 0), [])) (by decide +kernel)) (by decide) ?_
        refine q_if (c := .ne) (off := 7) (t := 75) (x := x1) (y := 42) (st := []) (mz_fe (e := (68, .if_icmp .ne 7, 3, (0, 0, 0), [])) (by decide +kernel)) (fun _ => rfl) rfl rfl rfl (fun c515 => ?_) (fun c515 => ?_)
        · refine q_o (mz_fe (e := (75, .iload_n 2, 1, (0, 0, 0), [])) (by decide +kernel)) (pc2 := 76) rfl ?_
          refine q_bi (v := 47) (mz_fe (e := (76, .bipush 47, 2, (0, 0, 0), [])) (by decide +kernel)) (by decide) ?_
          refine q_if (c := .ne) (off := 7) (t := 85) (x := x1) (y := 47) (st := []) (mz_fe (e := (78, .if_icmp .ne 7, 3, (0, 0, 0), [])) (by decide +kernel)) (fun _ => rfl) rfl rfl rfl (fun c516 => ?_) (fun c516 => ?_)
          · refine q_o (mz_fe (e := (85, .iload_n 2, 1, (0, 0, 0), [])) (by decide +kernel)) (pc2 := 86) rfl ?_
            refine q_bi (v := 60) (mz_fe (e := (86, .bipush 60, 2, (0, 0, 0), [])) (by decide +kernel)) (by decide) ?_
            refine q_if (c := .ne) (off := 7) (t := 95) (x := x1) (y := 60) (st := []) (mz_fe (e := (88, .if_icmp .ne 7, 3, (0, 0, 0), [])) (by decide +kernel)) (fun _ => rfl) rfl rfl rfl (fun c517 => ?_) (fun c517 => ?_)
            · refine q_o (mz_fe (e := (95, .aload_n 0, 1, (0, 0, 0), [])) (by decide +kernel)) (pc2 := 96) rfl ?_
              refine q_o (mz_fe (e := (96, .iload 4, 2, (0, 0, 0), [])) (by decide +kernel)) (pc2 := 98) rfl ?_
              refine q_o (mz_fe (e := (98, .iload_n 1, 1, (0, 0, 0), [])) (by decide +kernel)) (pc2 := 99) rfl ?_
              refine q_ic (v := 0) (mz_fe (e := (99, .iconst 0, 1, (0, 0, 0), [])) (by decide +kernel)) (by decide) ?_
              refine q_o (mz_fe (e := (100, .lconst 0, 1, (0, 0, 0), [])) (by decide +kernel)) (pc2 := 101) (st2 := [.long 0, .int 0, .int x0, .int 4, .ref 239]) rfl ?_
              refine q_callV (N := 182) (vs := [.ref 239, .int 4, .int x0, .int 0, .long 0]) (rest := []) (L' := [some (.ref 239), some (.int x0), some (.int x1), some (.int x2), some (.int 4)]) rfl (mz_fe (e := (101, .invokevirtual 188, 172, (182, 5, 18), [])) (by decide +kernel)) rfl (mz_inv_virt (N := 182) (k := 5) (t := 18) (st := [.long 0, .int 0, .int x0, .int 4, .ref 239]) (rest := []) (b := 239) (vs := [.int 4, .int x0, .int 0, .long 0]) (h := (mz_S0, m)) rfl rfl (Nat.le_of_ble_eq_true rfl) (Nat.le_of_ble_eq_true rfl) tg_239 (by decide)) (mz_dc_lt (n := 6) rfl (by decide +kernel) (by decide +kernel)) (by decide +kernel) (by decide +kernel) (fun m518 => ?_)
              refine q_ic (v := 1) (mz_fe (e := (104, .iconst 1, 1, (0, 0, 0), [])) (by decide +kernel)) (by decide) ?_
              exact q_retI (mz_fe (e := (105, .ireturn, 1, (0, 0, 0), [])) (by decide +kernel)) (by decide +kernel)
            · refine q_bi (v := 13) (mz_fe (e := (91, .bipush 13, 2, (0, 0, 0), [])) (by decide +kernel)) (by decide) ?_
              refine q_s (mz_fe (e := (93, .istore 4, 2, (0, 0, 0), [])) (by decide +kernel)) (pc' := 95) (L' := [some (.ref 239), some (.int x0), some (.int x1), some (.int x2), some (.int 13)]) (st' := []) rfl ?_
              refine q_o (mz_fe (e := (95, .aload_n 0, 1, (0, 0, 0), [])) (by decide +kernel)) (pc2 := 96) rfl ?_
              refine q_o (mz_fe (e := (96, .iload 4, 2, (0, 0, 0), [])) (by decide +kernel)) (pc2 := 98) rfl ?_
              refine q_o (mz_fe (e := (98, .iload_n 1, 1, (0, 0, 0), [])) (by decide +kernel)) (pc2 := 99) rfl ?_
              refine q_ic (v := 0) (mz_fe (e := (99, .iconst 0, 1, (0, 0, 0), [])) (by decide +kernel)) (by decide) ?_
              refine q_o (mz_fe (e := (100, .lconst 0, 1, (0, 0, 0), [])) (by decide +kernel)) (pc2 := 101) (st2 := [.long 0, .int 0, .int x0, .int 13, .ref 239]) rfl ?_
              refine q_callV (N := 182) (vs := [.ref 239, .int 13, .int x0, .int 0, .long 0]) (rest := []) (L' := [some (.ref 239), some (.int x0), some (.int x1), some (.int x2), some (.int 13)]) rfl (mz_fe (e := (101, .invokevirtual 188, 172, (182, 5, 18), [])) (by decide +kernel)) rfl (mz_inv_virt (N := 182) (k := 5) (t := 18) (st := [.long 0, .int 0, .int x0, .int 13, .ref 239]) (rest := []) (b := 239) (vs := [.int 13, .int x0, .int 0, .long 0]) (h := (mz_S0, m)) rfl rfl (Nat.le_of_ble_eq_true rfl) (Nat.le_of_ble_eq_true rfl) tg_239 (by decide)) (mz_dc_lt (n := 6) rfl (by decide +kernel) (by decide +kernel)) (by decide +kernel) (by decide +kernel) (fun m521 => ?_)
              refine q_ic (v := 1) (mz_fe (e := (104, .iconst 1, 1, (0, 0, 0), [])) (by decide +kernel)) (by decide) ?_
              exact q_retI (mz_fe (e := (105, .ireturn, 1, (0, 0, 0), [])) (by decide +kernel)) (by decide +kernel)
          · refine q_bi (v := 15) (mz_fe (e := (81, .bipush 15, 2, (0, 0, 0), [])) (by decide +kernel)) (by decide) ?_
            refine q_s (mz_fe (e := (83, .istore 4, 2, (0, 0, 0), [])) (by decide +kernel)) (pc' := 85) (L' := [some (.ref 239), some (.int x0), some (.int x1), some (.int x2), some (.int 15)]) (st' := []) rfl ?_
            refine q_o (mz_fe (e := (85, .iload_n 2, 1, (0, 0, 0), [])) (by decide +kernel)) (pc2 := 86) rfl ?_
            refine q_bi (v := 60) (mz_fe (e := (86, .bipush 60, 2, (0, 0, 0), [])) (by decide +kernel)) (by decide) ?_
            refine q_if (c := .ne) (off := 7) (t := 95) (x := x1) (y := 60) (st := []) (mz_fe (e := (88, .if_icmp .ne 7, 3, (0, 0, 0), [])) (by decide +kernel)) (fun _ => rfl) rfl rfl rfl (fun c524 => ?_) (fun c524 => ?_)
            · refine q_o (mz_fe (e := (95, .aload_n 0, 1, (0, 0, 0), [])) (by decide +kernel)) (pc2 := 96) rfl ?_
              refine q_o (mz_fe (e := (96, .iload 4, 2, (0, 0, 0), [])) (by decide +kernel)) (pc2 := 98) rfl ?_
              refine q_o (mz_fe (e := (98, .iload_n 1, 1, (0, 0, 0), [])) (by decide +kernel)) (pc2 := 99) rfl ?_
              refine q_ic (v := 0) (mz_fe (e := (99, .iconst 0, 1, (0, 0, 0), [])) (by decide +kernel)) (by decide) ?_
              refine q_o (mz_fe (e := (100, .lconst 0, 1, (0, 0, 0), [])) (by decide +kernel)) (pc2 := 101) (st2 := [.long 0, .int 0, .int x0, .int 15, .ref 239]) rfl ?_
              refine q_callV (N := 182) (vs := [.ref 239, .int 15, .int x0, .int 0, .long 0]) (rest := []) (L' := [some (.ref 239), some (.int x0), some (.int x1), some (.int x2), some (.int 15)]) rfl (mz_fe (e := (101, .invokevirtual 188, 172, (182, 5, 18), [])) (by decide +kernel)) rfl (mz_inv_virt (N := 182) (k := 5) (t := 18) (st := [.long 0, .int 0, .int x0, .int 15, .ref 239]) (rest := []) (b := 239) (vs := [.int 15, .int x0, .int 0, .long 0]) (h := (mz_S0, m)) rfl rfl (Nat.le_of_ble_eq_true rfl) (Nat.le_of_ble_eq_true rfl) tg_239 (by decide)) (mz_dc_lt (n := 6) rfl (by decide +kernel) (by decide +kernel)) (by decide +kernel) (by decide +kernel) (fun m525 => ?_)
              refine q_ic (v := 1) (mz_fe (e := (104, .iconst 1, 1, (0, 0, 0), [])) (by decide +kernel)) (by decide) ?_
              exact q_retI (mz_fe (e := (105, .ireturn, 1, (0, 0, 0), [])) (by decide +kernel)) (by decide +kernel)
            · refine q_bi (v := 13) (mz_fe (e := (91, .bipush 13, 2, (0, 0, 0), [])) (by decide +kernel)) (by decide) ?_
              refine q_s (mz_fe (e := (93, .istore 4, 2, (0, 0, 0), [])) (by decide +kernel)) (pc' := 95) (L' := [some (.ref 239), some (.int x0), some (.int x1), some (.int x2), some (.int 13)]) (st' := []) rfl ?_
              refine q_o (mz_fe (e := (95, .aload_n 0, 1, (0, 0, 0), [])) (by decide +kernel)) (pc2 := 96) rfl ?_
              refine q_o (mz_fe (e := (96, .iload 4, 2, (0, 0, 0), [])) (by decide +kernel)) (pc2 := 98) rfl ?_
              refine q_o (mz_fe (e := (98, .iload_n 1, 1, (0, 0, 0), [])) (by decide +kernel)) (pc2 := 99) rfl ?_
              refine q_ic (v := 0) (mz_fe (e := (99, .iconst 0, 1, (0, 0, 0), [])) (by decide +kernel)) (by decide) ?_
              refine q_o (mz_fe (e := (100, .lconst 0, 1, (0, 0, 0), [])) (by decide +kernel)) (pc2 := 101) (st2 := [.long 0, .int 0, .int x0, .int 13, .ref 239]) rfl ?_
              refine q_callV (N := 182) (vs := [.ref 239, .int 13, .int x0, .int 0, .long 0]) (rest := []) (L' := [some (.ref 239), some (.int x0), some (.int x1), some (.int x2), some (.int 13)]) rfl (mz_fe (e := (101, .invokevirtual 188, 172, (182, 5, 18), [])) (by decide +kernel)) rfl (mz_inv_virt (N := 182) (k := 5) (t := 18) (st := [.long 0, .int 0, .int x0, .int 13, .ref 239]) (rest := []) (b := 239) (vs := [.int 13, .int x0, .int 0, .long 0]) (h := (mz_S0, m)) rfl rfl (Nat.le_of_ble_eq_true rfl) (Nat.le_of_ble_eq_true rfl) tg_239 (by decide)) (mz_dc_lt (n := 6) rfl (by decide +kernel) (by decide +kernel)) (by decide +kernel) (by decide +kernel) (fun m528 => ?_)
              refine q_ic (v := 1) (mz_fe (e := (104, .iconst 1, 1, (0, 0, 0), [])) (by decide +kernel)) (by decide) ?_
              exact q_retI (mz_fe (e := (105, .ireturn, 1, (0, 0, 0), [])) (by decide +kernel)) (by decide +kernel)
        · refine q_bi (v := 10) (mz_fe (e := (71, .bipush 10, 2, (0, 0, 0), [])) (by decide +kernel)) (by decide) ?_
          refine q_s (mz_fe (e := (73, .istore 4, 2, (0, 0, 0), [])) (by decide +kernel)) (pc' := 75) (L' := [some (.ref 239), some (.int x0), some (.int x1), some (.int x2), some (.int 10)]) (st' := []) rfl ?_
          refine q_o (mz_fe (e := (75, .iload_n 2, 1, (0, 0, 0), [])) (by decide +kernel)) (pc2 := 76) rfl ?_
          refine q_bi (v := 47) (mz_fe (e := (76, .bipush 47, 2, (0, 0, 0), [])) (by decide +kernel)) (by decide) ?_
          refine q_if (c := .ne) (off := 7) (t := 85) (x := x1) (y := 47) (st := []) (mz_fe (e := (78, .if_icmp .ne 7, 3, (0, 0, 0), [])) (by decide +kernel)) (fun _ => rfl) rfl rfl rfl (fun c531 => ?_) (fun c531 => ?_)
          · refine q_o (mz_fe (e := (85, .iload_n 2, 1, (0, 0, 0), [])) (by decide +kernel)) (pc2 := 86) rfl ?_
            refine q_bi (v := 60) (mz_fe (e := (86, .bipush 60, 2, (0, 0, 0), [])) (by decide +kernel)) (by decide) ?_
            refine q_if (c := .ne) (off := 7) (t := 95) (x := x1) (y := 60) (st := []) (mz_fe (e := (88, .if_icmp .ne 7, 3, (0, 0, 0), [])) (by decide +kernel)) (fun _ => rfl) rfl rfl rfl (fun c532 => ?_) (fun c532 => ?_)
            · refine q_o (mz_fe (e := (95, .aload_n 0, 1, (0, 0, 0), [])) (by decide +kernel)) (pc2 := 96) rfl ?_
              refine q_o (mz_fe (e := (96, .iload 4, 2, (0, 0, 0), [])) (by decide +kernel)) (pc2 := 98) rfl ?_
              refine q_o (mz_fe (e := (98, .iload_n 1, 1, (0, 0, 0), [])) (by decide +kernel)) (pc2 := 99) rfl ?_
              refine q_ic (v := 0) (mz_fe (e := (99, .iconst 0, 1, (0, 0, 0), [])) (by decide +kernel)) (by decide) ?_
              refine q_o (mz_fe (e := (100, .lconst 0, 1, (0, 0, 0), [])) (by decide +kernel)) (pc2 := 101) (st2 := [.long 0, .int 0, .int x0, .int 10, .ref 239]) rfl ?_
              refine q_callV (N := 182) (vs := [.ref 239, .int 10, .int x0, .int 0, .long 0]) (rest := []) (L' := [some (.ref 239), some (.int x0), some (.int x1), some (.int x2), some (.int 10)]) rfl (mz_fe (e := (101, .invokevirtual 188, 172, (182, 5, 18), [])) (by decide +kernel)) rfl (mz_inv_virt (N := 182) (k := 5) (t := 18) (st := [.long 0, .int 0, .int x0, .int 10, .ref 239]) (rest := []) (b := 239) (vs := [.int 10, .int x0, .int 0, .long 0]) (h := (mz_S0, m)) rfl rfl (Nat.le_of_ble_eq_true rfl) (Nat.le_of_ble_eq_true rfl) tg_239 (by decide)) (mz_dc_lt (n := 6) rfl (by decide +kernel) (by decide +kernel)) (by decide +kernel) (by decide +kernel) (fun m533 => ?_)
              refine q_ic (v := 1) (mz_fe (e := (104, .iconst 1, 1, (0, 0, 0), [])) (by decide +kernel)) (by decide) ?_
              exact q_retI (mz_fe (e := (105, .ireturn, 1, (0, 0, 0), [])) (by decide +kernel)) (by decide +kernel)
            · refine q_bi (v := 13) (mz_fe (e := (91, .bipush 13, 2, (0, 0, 0), [])) (by decide +kernel)) (by decide) ?_
              refine q_s (mz_fe (e := (93, .istore 4, 2, (0, 0, 0), [])) (by decide +kernel)) (pc' := 95) (L' := [some (.ref 239), some (.int x0), some (.int x1), some (.int x2), some (.int 13)]) (st' := []) rfl ?_
              refine q_o (mz_fe (e := (95, .aload_n 0, 1, (0, 0, 0), [])) (by decide +kernel)) (pc2 := 96) rfl ?_
              refine q_o (mz_fe (e := (96, .iload 4, 2, (0, 0, 0), [])) (by decide +kernel)) (pc2 := 98) rfl ?_
              refine q_o (mz_fe (e := (98, .iload_n 1, 1, (0, 0, 0), [])) (by decide +kernel)) (pc2 := 99) rfl ?_
              refine q_ic (v := 0) (mz_fe (e := (99, .iconst 0, 1, (0, 0, 0), [])) (by decide +kernel)) (by decide) ?_
              refine q_o (mz_fe (e := (100, .lconst 0, 1, (0, 0, 0), [])) (by decide +kernel)) (pc2 := 101) (st2 := [.long 0, .int 0, .int x0, .int 13, .ref 239]) rfl ?_
              refine q_callV (N := 182) (vs := [.ref 239, .int 13, .int x0, .int 0, .long 0]) (rest := []) (L' := [some (.ref 239), some (.int x0), some (.int x1), some (.int x2), some (.int 13)]) rfl (mz_fe (e := (101, .invokevirtual 188, 172, (182, 5, 18), [])) (by decide +kernel)) rfl (mz_inv_virt (N := 182) (k := 5) (t := 18) (st := [.long 0, .int 0, .int x0, .int 13, .ref 239]) (rest := []) (b := 239) (vs := [.int 13, .int x0, .int 0, .long 0]) (h := (mz_S0, m)) rfl rfl (Nat.le_of_ble_eq_true rfl) (Nat.le_of_ble_eq_true rfl) tg_239 (by decide)) (mz_dc_lt (n := 6) rfl (by decide +kernel) (by decide +kernel)) (by decide +kernel) (by decide +kernel) (fun m536 => ?_)
              refine q_ic (v := 1) (mz_fe (e := (104, .iconst 1, 1, (0, 0, 0), [])) (by decide +kernel)) (by decide) ?_
              exact q_retI (mz_fe (e := (105, .ireturn, 1, (0, 0, 0), [])) (by decide +kernel)) (by decide +kernel)
          · refine q_bi (v := 15) (mz_fe (e := (81, .bipush 15, 2, (0, 0, 0), [])) (by decide +kernel)) (by decide) ?_
            refine q_s (mz_fe (e := (83, .istore 4, 2, (0, 0, 0), [])) (by decide +kernel)) (pc' := 85) (L' := [some (.ref 239), some (.int x0), some (.int x1), some (.int x2), some (.int 15)]) (st' := []) rfl ?_
            refine q_o (mz_fe (e := (85, .iload_n 2, 1, (0, 0, 0), [])) (by decide +kernel)) (pc2 := 86) rfl ?_
            refine q_bi (v := 60) (mz_fe (e := (86, .bipush 60, 2, (0, 0, 0), [])) (by decide +kernel)) (by decide) ?_
            refine q_if (c := .ne) (off := 7) (t := 95) (x := x1) (y := 60) (st := []) (mz_fe (e := (88, .if_icmp .ne 7, 3, (0, 0, 0), [])) (by decide +kernel)) (fun _ => rfl) rfl rfl rfl (fun c539 => ?_) (fun c539 => ?_)
            · refine q_o (mz_fe (e := (95, .aload_n 0, 1, (0, 0, 0), [])) (by decide +kernel)) (pc2 := 96) rfl ?_
              refine q_o (mz_fe (e := (96, .iload 4, 2, (0, 0, 0), [])) (by decide +kernel)) (pc2 := 98) rfl ?_
              refine q_o (mz_fe (e := (98, .iload_n 1, 1, (0, 0, 0), [])) (by decide +kernel)) (pc2 := 99) rfl ?_
              refine q_ic (v := 0) (mz_fe (e := (99, .iconst 0, 1, (0, 0, 0), [])) (by decide +kernel)) (by decide) ?_
              refine q_o (mz_fe (e := (100, .lconst 0, 1, (0, 0, 0), [])) (by decide +kernel)) (pc2 := 101) (st2 := [.long 0, .int 0, .int x0, .int 15, .ref 239]) rfl ?_
              refine q_callV (N := 182) (vs := [.ref 239, .int 15, .int x0, .int 0, .long 0]) (rest := []) (L' := [some (.ref 239), some (.int x0), some (.int x1), some (.int x2), some (.int 15)]) rfl (mz_fe (e := (101, .invokevirtual 188, 172, (182, 5, 18), [])) (by decide +kernel)) rfl (mz_inv_virt (N := 182) (k := 5) (t := 18) (st := [.long 0, .int 0, .int x0, .int 15, .ref 239]) (rest := []) (b := 239) (vs := [.int 15, .int x0, .int 0, .long 0]) (h := (mz_S0, m)) rfl rfl (Nat.le_of_ble_eq_true rfl) (Nat.le_of_ble_eq_true rfl) tg_239 (by decide)) (mz_dc_lt (n := 6) rfl (by decide +kernel) (by decide +kernel)) (by decide +kernel) (by decide +kernel) (fun m540 => ?_)
              refine q_ic (v := 1) (mz_fe (e := (104, .iconst 1, 1, (0, 0, 0), [])) (by decide +kernel)) (by decide) ?_
              exact q_retI (mz_fe (e := (105, .ireturn, 1, (0, 0, 0), [])) (by decide +kernel)) (by decide +kernel)
            · refine q_bi (v := 13) (mz_fe (e := (91, .bipush 13, 2, (0, 0, 0), [])) (by decide +kernel)) (by decide) ?_
              refine q_s (mz_fe (e := (93, .istore 4, 2, (0, 0, 0), [])) (by decide +kernel)) (pc' := 95) (L' := [some (.ref 239), some (.int x0), some (.int x1), some (.int x2), some (.int 13)]) (st' := []) rfl ?_
              refine q_o (mz_fe (e := (95, .aload_n 0, 1, (0, 0, 0), [])) (by decide +kernel)) (pc2 := 96) rfl ?_
              refine q_o (mz_fe (e := (96, .iload 4, 2, (0, 0, 0), [])) (by decide +kernel)) (pc2 := 98) rfl ?_
              refine q_o (mz_fe (e := (98, .iload_n 1, 1, (0, 0, 0), [])) (by decide +kernel)) (pc2 := 99) rfl ?_
              refine q_ic (v := 0) (mz_fe (e := (99, .iconst 0, 1, (0, 0, 0), [])) (by decide +kernel)) (by decide) ?_
              refine q_o (mz_fe (e := (100, .lconst 0, 1, (0, 0, 0), [])) (by decide +kernel)) (pc2 := 101) (st2 := [.long 0, .int 0, .int x0, .int 13, .ref 239]) rfl ?_
              refine q_callV (N := 182) (vs := [.ref 239, .int 13, .int x0, .int 0, .long 0]) (rest := []) (L' := [some (.ref 239), some (.int x0), some (.int x1), some (.int x2), some (.int 13)]) rfl (mz_fe (e := (101, .invokevirtual 188, 172, (182, 5, 18), [])) (by decide +kernel)) rfl (mz_inv_virt (N := 182) (k := 5) (t := 18) (st := [.long 0, .int 0, .int x0, .int 13, .ref 239]) (rest := []) (b := 239) (vs := [.int 13, .int x0, .int 0, .long 0]) (h := (mz_S0, m)) rfl rfl (Nat.le_of_ble_eq_true rfl) (Nat.le_of_ble_eq_true rfl) tg_239 (by decide)) (mz_dc_lt (n := 6) rfl (by decide +kernel) (by decide +kernel)) (by decide +kernel) (by decide +kernel) (fun m543 => ?_)
              refine q_ic (v := 1) (mz_fe (e := (104, .iconst 1, 1, (0, 0, 0), [])) (by decide +kernel)) (by decide) ?_
              exact q_retI (mz_fe (e := (105, .ireturn, 1, (0, 0, 0), [])) (by decide +kernel)) (by decide +kernel)
      · refine q_bi (v := 9) (mz_fe (e := (61, .bipush 9, 2, (0, 0, 0), [])) (by decide +kernel)) (by decide) ?_
        refine q_s (mz_fe (e := (63, .istore 4, 2, (0, 0, 0), [])) (by decide +kernel)) (pc' := 65) (L' := [some (.ref 239), some (.int x0), some (.int x1), some (.int x2), some (.int 9)]) (st' := []) rfl ?_
        refine q_o (mz_fe (e := (65, .iload_n 2, 1, (0, 0, 0), [])) (by decide +kernel)) (pc2 := 66) rfl ?_
        refine q_bi (v := 42) (mz_fe (e := (66, .bipush 42, 2, (0, 0, 0), [])) (by decide +kernel)) (by decide) ?_
        refine q_if (c := .ne) (off := 7) (t := 75) (x := x1) (y := 42) (st := []) (mz_fe (e := (68, .if_icmp .ne 7, 3, (0, 0, 0), [])) (by decide +kernel)) (fun _ => rfl) rfl rfl rfl (fun c546 => ?_) (fun c546 => ?_)
        · refine q_o (mz_fe (e := (75, .iload_n 2, 1, (0, 0, 0), [])) (by decide +kernel)) (pc2 := 76) rfl ?_
          refine q_bi (v := 47) (mz_fe (e := (76, .bipush 47, 2, (0, 0, 0), [])) (by decide +kernel)) (by decide) ?_
          refine q_if (c := .ne) (off := 7) (t := 85) (x := x1) (y := 47) (st := []) (mz_fe (e := (78, .if_icmp .ne 7, 3, (0, 0, 0), [])) (by decide +kernel)) (fun _ => rfl) rfl rfl rfl (fun c547 => ?_) (fun c547 => ?_)
          · refine q_o (mz_fe (e := (85, .iload_n 2, 1, (0, 0, 0), [])) (by decide +kernel)) (pc2 := 86) rfl ?_
            refine q_bi (v := 60) (mz_fe (e := (86, .bipush 60, 2, (0, 0, 0), [])) (by decide +kernel)) (by decide) ?_
            refine q_if (c := .ne) (off := 7) (t := 95) (x := x1) (y := 60) (st := []) (mz_fe (e := (88, .if_icmp .ne 7, 3, (0, 0, 0), [])) (by decide +kernel)) (fun _ => rfl) rfl rfl rfl (fun c548 => ?_) (fun c548 => ?_)
            · refine q_o (mz_fe (e := (95, .aload_n 0, 1, (0, 0, 0), [])) (by decide +kernel)) (pc2 := 96) rfl ?_
              refine q_o (mz_fe (e := (96, .iload 4, 2, (0, 0, 0), [])) (by decide +kernel)) (pc2 := 98) rfl ?_
              refine q_o (mz_fe (e := (98, .iload_n 1, 1, (0, 0, 0), [])) (by decide +kernel)) (pc2 := 99) rfl ?_
              refine q_ic (v := 0) (mz_fe (e := (99, .iconst 0, 1, (0, 0, 0), [])) (by decide +kernel)) (by decide) ?_
              refine q_o (mz_fe (e := (100, .lconst 0, 1, (0, 0, 0), [])) (by decide +kernel)) (pc2 := 101) (st2 := [.long 0, .int 0, .int x0, .int 9, .ref 239]) rfl ?_
              refine q_callV (N := 182) (vs := [.ref 239, .int 9, .int x0, .int 0, .long 0]) (rest := []) (L' := [some (.ref 239), some (.int x0), some (.int x1), some (.int x2), some (.int 9)]) rfl (mz_fe (e := (101, .invokevirtual 188, 172, (182, 5, 18), [])) (by decide +kernel)) rfl (mz_inv_virt (N := 182) (k := 5) (t := 18) (st := [.long 0, .int 0, .int x0, .int 9, .ref 239]) (rest := []) (b := 239) (vs := [.int 9, .int x0, .int 0, .long 0]) (h := (mz_S0, m)) rfl rfl (Nat.le_of_ble_eq_true rfl) (Nat.le_of_ble_eq_true rfl) tg_239 (by decide)) (mz_dc_lt (n := 6) rfl (by decide +kernel) (by decide +kernel)) (by decide +kernel) (by decide +kernel) (fun m549 => ?_)
              refine q_ic (v := 1) (mz_fe (e := (104, .iconst 1, 1, (0, 0, 0), [])) (by decide +kernel)) (by decide) ?_
              exact q_retI (mz_fe (e := (105, .ireturn, 1, (0, 0, 0), [])) (by decide +kernel)) (by decide +kernel)
            · refine q_bi (v := 13) (mz_fe (e := (91, .bipush 13, 2, (0, 0, 0), [])) (by decide +kernel)) (by decide) ?_
              refine q_s (mz_fe (e := (93, .istore 4, 2, (0, 0, 0), [])) (by decide +kernel)) (pc' := 95) (L' := [some (.ref 239), some (.int x0), some (.int x1), some (.int x2), some (.int 13)]) (st' := []) rfl ?_
              refine q_o (mz_fe (e := (95, .aload_n 0, 1, (0, 0, 0), [])) (by decide +kernel)) (pc2 := 96) rfl ?_
              refine q_o (mz_fe (e := (96, .iload 4, 2, (0, 0, 0), [])) (by decide +kernel)) (pc2 := 98) rfl ?_
              refine q_o (mz_fe (e := (98, .iload_n 1, 1, (0, 0, 0), [])) (by decide +kernel)) (pc2 := 99) rfl ?_
              refine q_ic (v := 0) (mz_fe (e := (99, .iconst 0, 1, (0, 0, 0), [])) (by decide +kernel)) (by decide) ?_
              refine q_o (mz_fe (e := (100, .lconst 0, 1, (0, 0, 0), [])) (by decide +kernel)) (pc2 := 101) (st2 := [.long 0, .int 0, .int x0, .int 13, .ref 239]) rfl ?_
              refine q_callV (N := 182) (vs := [.ref 239, .int 13, .int x0, .int 0, .long 0]) (rest := []) (L' := [some (.ref 239), some (.int x0), some (.int x1), some (.int x2), some (.int 13)]) rfl (mz_fe (e := (101, .invokevirtual 188, 172, (182, 5, 18), [])) (by decide +kernel)) rfl (mz_inv_virt (N := 182) (k := 5) (t := 18) (st := [.long 0, .int 0, .int x0, .int 13, .ref 239]) (rest := []) (b := 239) (vs := [.int 13, .int x0, .int 0, .long 0]) (h := (mz_S0, m)) rfl rfl (Nat.le_of_ble_eq_true rfl) (Nat.le_of_ble_eq_true rfl) tg_239 (by decide)) (mz_dc_lt (n := 6) rfl (by decide +kernel) (by decide +kernel)) (by decide +kernel) (by decide +kernel) (fun m552 => ?_)
              refine q_ic (v := 1) (mz_fe (e := (104, .iconst 1, 1, (0, 0, 0), [])) (by decide +kernel)) (by decide) ?_
              exact q_retI (mz_fe (e := (105, .ireturn, 1, (0, 0, 0), [])) (by decide +kernel)) (by decide +kernel)
          · refine q_bi (v := 15) (mz_fe (e := (81, .bipush 15, 2, (0, 0, 0), [])) (by decide +kernel)) (by decide) ?_
            refine q_s (mz_fe (e := (83, .istore 4, 2, (0, 0, 0), [])) (by decide +kernel)) (pc' := 85) (L' := [some (.ref 239), some (.int x0), some (.int x1), some (.int x2), some (.int 15)]) (st' := []) rfl ?_
            refine q_o (mz_fe (e := (85, .iload_n 2, 1, (0, 0, 0), [])) (by decide +kernel)) (pc2 := 86) rfl ?_
            refine q_bi (v := 60) (mz_fe (e := (86, .bipush 60, 2, (0, 0, 0), [])) (by decide +kernel)) (by decide) ?_
            refine q_if (c := .ne) (off := 7) (t := 95) (x := x1) (y := 60) (st := []) (mz_fe (e := (88, .if_icmp .ne 7, 3, (0, 0, 0), [])) (by decide +kernel)) (fun _ => rfl) rfl rfl rfl (fun c555 => ?_) (fun c555 => ?_)
            · refine q_o (mz_fe (e := (95, .aload_n 0, 1, (0, 0, 0), [])) (by decide +kernel)) (pc2 := 96) rfl ?_
              refine q_o (mz_fe (e := (96, .iload 4, 2, (0, 0, 0), [])) (by decide +kernel)) (pc2 := 98) rfl ?_
              refine q_o (mz_fe (e := (98, .iload_n 1, 1, (0, 0, 0), [])) (by decide +kernel)) (pc2 := 99) rfl ?_
              refine q_ic (v := 0) (mz_fe (e := (99, .iconst 0, 1, (0, 0, 0), [])) (by decide +kernel)) (by decide) ?_
              refine q_o (mz_fe (e := (100, .lconst 0, 1, (0, 0, 0), [])) (by decide +kernel)) (pc2 := 101) (st2 := [.long 0, .int 0, .int x0, .int 15, .ref 239]) rfl ?_
              refine q_callV (N := 182) (vs := [.ref 239, .int 15, .int x0, .int 0, .long 0]) (rest := []) (L' := [some (.ref 239), some (.int x0), some (.int x1), some (.int x2), some (.int 15)]) rfl (mz_fe (e := (101, .invokevirtual 188, 172, (182, 5, 18), [])) (by decide +kernel)) rfl (mz_inv_virt (N := 182) (k := 5) (t := 18) (st := [.long 0, .int 0, .int x0, .int 15, .ref 239]) (rest := []) (b := 239) (vs := [.int 15, .int x0, .int 0, .long 0]) (h := (mz_S0, m)) rfl rfl (Nat.le_of_ble_eq_true rfl) (Nat.le_of_ble_eq_true rfl) tg_239 (by decide)) (mz_dc_lt (n := 6) rfl (by decide +kernel) (by decide +kernel)) (by decide +kernel) (by decide +kernel) (fun m556 => ?_)
              refine q_ic (v := 1) (mz_fe (e := (104, .iconst 1, 1, (0, 0, 0), [])) (by decide +kernel)) (by decide) ?_
              exact q_retI (mz_fe (e := (105, .ireturn, 1, (0, 0, 0), [])) (by decide +kernel)) (by decide +kernel)
            · refine q_bi (v := 13) (mz_fe (e := (91, .bipush 13, 2, (0, 0, 0), [])) (by decide +kernel)) (by decide) ?_
              refine q_s (mz_fe (e := (93, .istore 4, 2, (0, 0, 0), [])) (by decide +kernel)) (pc' := 95) (L' := [some (.ref 239), some (.int x0), some (.int x1), some (.int x2), some (.int 13)]) (st' := []) rfl ?_
              refine q_o (mz_fe (e := (95, .aload_n 0, 1, (0, 0, 0), [])) (by decide +kernel)) (pc2 := 96) rfl ?_
              refine q_o (mz_fe (e := (96, .iload 4, 2, (0, 0, 0), [])) (by decide +kernel)) (pc2 := 98) rfl ?_
              refine q_o (mz_fe (e := (98, .iload_n 1, 1, (0, 0, 0), [])) (by decide +kernel)) (pc2 := 99) rfl ?_
              refine q_ic (v := 0) (mz_fe (e := (99, .iconst 0, 1, (0, 0, 0), [])) (by decide +kernel)) (by decide) ?_
              refine q_o (mz_fe (e := (100, .lconst 0, 1, (0, 0, 0), [])) (by decide +kernel)) (pc2 := 101) (st2 := [.long 0, .int 0, .int x0, .int 13, .ref 239]) rfl ?_
              refine q_callV (N := 182) (vs := [.ref 239, .int 13, .int x0, .int 0, .long 0]) (rest := []) (L' := [some (.ref 239), some (.int x0), some (.int x1), some (.int x2), some (.int 13)]) rfl (mz_fe (e := (101, .invokevirtual 188, 172, (182, 5, 18), [])) (by decide +kernel)) rfl (mz_inv_virt (N := 182) (k := 5) (t := 18) (st := [.long 0, .int 0, .int x0, .int 13, .ref 239]) (rest := []) (b := 239) (vs := [.int 13, .int x0, .int 0, .long 0]) (h := (mz_S0, m)) rfl rfl (Nat.le_of_ble_eq_true rfl) (Nat.le_of_ble_eq_true rfl) tg_239 (by decide)) (mz_dc_lt (n := 6) rfl (by decide +kernel) (by decide +kernel)) (by decide +kernel) (by decide +kernel) (fun m559 => ?_)
              refine q_ic (v := 1) (mz_fe (e := (104, .iconst 1, 1, (0, 0, 0), [])) (by decide +kernel)) (by decide) ?_
              exact q_retI (mz_fe (e := (105, .ireturn, 1, (0, 0, 0), [])) (by decide +kernel)) (by decide +kernel)
        · refine q_bi (v := 10) (mz_fe (e := (71, .bipush 10, 2, (0, 0, 0), [])) (by decide +kernel)) (by decide) ?_
          refine q_s (mz_fe (e := (73, .istore 4, 2, (0, 0, 0), [])) (by decide +kernel)) (pc' := 75) (L' := [some (.ref 239), some (.int x0), some (.int x1), some (.int x2), some (.int 10)]) (st' := []) rfl ?_
          refine q_o (mz_fe (e := (75, .iload_n 2, 1, (0, 0, 0), [])) (by decide +kernel)) (pc2 := 76) rfl ?_
          refine q_bi (v := 47) (mz_fe (e := (76, .bipush 47, 2, (0, 0, 0), [])) (by decide +kernel)) (by decide) ?_
          refine q_if (c := .ne) (off := 7) (t := 85) (x := x1) (y := 47) (st := []) (mz_fe (e := (78, .if_icmp .ne 7, 3, (0, 0, 0), [])) (by decide +kernel)) (fun _ => rfl) rfl rfl rfl (fun c562 => ?_) (fun c562 => ?_)
          · refine q_o (mz_fe (e := (85, .iload_n 2, 1, (0, 0, 0), [])) (by decide +kernel)) (pc2 := 86) rfl ?_
            refine q_bi (v := 60) (mz_fe (e := (86, .bipush 60, 2, (0, 0, 0), [])) (by decide +kernel)) (by decide) ?_
            refine q_if (c := .ne) (off := 7) (t := 95) (x := x1) (y := 60) (st := []) (mz_fe (e := (88, .if_icmp .ne 7, 3, (0, 0, 0), [])) (by decide +kernel)) (fun _ => rfl) rfl rfl rfl (fun c563 => ?_) (fun c563 => ?_)
            · refine q_o (mz_fe (e := (95, .aload_n 0, 1, (0, 0, 0), [])) (by decide +kernel)) (pc2 := 96) rfl ?_
              refine q_o (mz_fe (e := (96, .iload 4, 2, (0, 0, 0), [])) (by decide +kernel)) (pc2 := 98) rfl ?_
              refine q_o (mz_fe (e := (98, .iload_n 1, 1, (0, 0, 0), [])) (by decide +kernel)) (pc2 := 99) rfl ?_
              refine q_ic (v := 0) (mz_fe (e := (99, .iconst 0, 1, (0, 0, 0), [])) (by decide +kernel)) (by decide) ?_
              refine q_o (mz_fe (e := (100, .lconst 0, 1, (0, 0, 0), [])) (by decide +kernel)) (pc2 := 101) (st2 := [.long 0, .int 0, .int x0, .int 10, .ref 239]) rfl ?_
              refine q_callV (N := 182) (vs := [.ref 239, .int 10, .int x0, .int 0, .long 0]) (rest := []) (L' := [some (.ref 239), some (.int x0), some (.int x1), some (.int x2), some (.int 10)]) rfl (mz_fe (e := (101, .invokevirtual 188, 172, (182, 5, 18), [])) (by decide +kernel)) rfl (mz_inv_virt (N := 182) (k := 5) (t := 18) (st := [.long 0, .int 0, .int x0, .int 10, .ref 239]) (rest := []) (b := 239) (vs := [.int 10, .int x0, .int 0, .long 0]) (h := (mz_S0, m)) rfl rfl (Nat.le_of_ble_eq_true rfl) (Nat.le_of_ble_eq_true rfl) tg_239 (by decide)) (mz_dc_lt (n := 6) rfl (by decide +kernel) (by decide +kernel)) (by decide +kernel) (by decide +kernel) (fun m564 => ?_)
              refine q_ic (v := 1) (mz_fe (e := (104, .iconst 1, 1, (0, 0, 0), [])) (by decide +kernel)) (by decide) ?_
              exact q_retI (mz_fe (e := (105, .ireturn, 1, (0, 0, 0), [])) (by decide +kernel)) (by decide +kernel)
            · refine q_bi (v := 13) (mz_fe (e := (91, .bipush 13, 2, (0, 0, 0), [])) (by decide +kernel)) (by decide) ?_
              refine q_s (mz_fe (e := (93, .istore 4, 2, (0, 0, 0), [])) (by decide +kernel)) (pc' := 95) (L' := [some (.ref 239), some (.int x0), some (.int x1), some (.int x2), some (.int 13)]) (st' := []) rfl ?_
              refine q_o (mz_fe (e := (95, .aload_n 0, 1, (0, 0, 0), [])) (by decide +kernel)) (pc2 := 96) rfl ?_
              refine q_o (mz_fe (e := (96, .iload 4, 2, (0, 0, 0), [])) (by decide +kernel)) (pc2 := 98) rfl ?_
              refine q_o (mz_fe (e := (98, .iload_n 1, 1, (0, 0, 0), [])) (by decide +kernel)) (pc2 := 99) rfl ?_
              refine q_ic (v := 0) (mz_fe (e := (99, .iconst 0, 1, (0, 0, 0), [])) (by decide +kernel)) (by decide) ?_
              refine q_o (mz_fe (e := (100, .lconst 0, 1, (0, 0, 0), [])) (by decide +kernel)) (pc2 := 101) (st2 := [.long 0, .int 0, .int x0, .int 13, .ref 239]) rfl ?_
              refine q_callV (N := 182) (vs := [.ref 239, .int 13, .int x0, .int 0, .long 0]) (rest := []) (L' := [some (.ref 239), some (.int x0), some (.int x1), some (.int x2), some (.int 13)]) rfl (mz_fe (e := (101, .invokevirtual 188, 172, (182, 5, 18), [])) (by decide +kernel)) rfl (mz_inv_virt (N := 182) (k := 5) (t := 18) (st := [.long 0, .int 0, .int x0, .int 13, .ref 239]) (rest := []) (b := 239) (vs := [.int 13, .int x0, .int 0, .long 0]) (h := (mz_S0, m)) rfl rfl (Nat.le_of_ble_eq_true rfl) (Nat.le_of_ble_eq_true rfl) tg_239 (by decide)) (mz_dc_lt (n := 6) rfl (by decide +kernel) (by decide +kernel)) (by decide +kernel) (by decide +kernel) (fun m567 => ?_)
              refine q_ic (v := 1) (mz_fe (e := (104, .iconst 1, 1, (0, 0, 0), [])) (by decide +kernel)) (by decide) ?_
              exact q_retI (mz_fe (e := (105, .ireturn, 1, (0, 0, 0), [])) (by decide +kernel)) (by decide +kernel)
          · refine q_bi (v := 15) (mz_fe (e := (81, .bipush 15, 2, (0, 0, 0), [])) (by decide +kernel)) (by decide) ?_
            refine q_s (mz_fe (e := (83, .istore 4, 2, (0, 0, 0), [])) (by decide +kernel)) (pc' := 85) (L' := [some (.ref 239), some (.int x0), some (.int x1), some (.int x2), some (.int 15)]) (st' := []) rfl ?_
            refine q_o (mz_fe (e := (85, .iload_n 2, 1, (0, 0, 0), [])) (by decide +kernel)) (pc2 := 86) rfl ?_
            refine q_bi (v := 60) (mz_fe (e := (86, .bipush 60, 2, (0, 0, 0), [])) (by decide +kernel)) (by decide) ?_
            refine q_if (c := .ne) (off := 7) (t := 95) (x := x1) (y := 60) (st := []) (mz_fe (e := (88, .if_icmp .ne 7, 3, (0, 0, 0), [])) (by decide +kernel)) (fun _ => rfl) rfl rfl rfl (fun c570 => ?_) (fun c570 => ?_)
            · refine q_o (mz_fe (e := (95, .aload_n 0, 1, (0, 0, 0), [])) (by decide +kernel)) (pc2 := 96) rfl ?_
              refine q_o (mz_fe (e := (96, .iload 4, 2, (0, 0, 0), [])) (by decide +kernel)) (pc2 := 98) rfl ?_
              refine q_o (mz_fe (e := (98, .iload_n 1, 1, (0, 0, 0), [])) (by decide +kernel)) (pc2 := 99) rfl ?_
              refine q_ic (v := 0) (mz_fe (e := (99, .iconst 0, 1, (0, 0, 0), [])) (by decide +kernel)) (by decide) ?_
              refine q_o (mz_fe (e := (100, .lconst 0, 1, (0, 0, 0), [])) (by decide +kernel)) (pc2 := 101) (st2 := [.long 0, .int 0, .int x0, .int 15, .ref 239]) rfl ?_
              refine q_callV (N := 182) (vs := [.ref 239, .int 15, .int x0, .int 0, .long 0]) (rest := []) (L' := [some (.ref 239), some (.int x0), some (.int x1), some (.int x2), some (.int 15)]) rfl (mz_fe (e := (101, .invokevirtual 188, 172, (182, 5, 18), [])) (by decide +kernel)) rfl (mz_inv_virt (N := 182) (k := 5) (t := 18) (st := [.long 0, .int 0, .int x0, .int 15, .ref 239]) (rest := []) (b := 239) (vs := [.int 15, .int x0, .int 0, .long 0]) (h := (mz_S0, m)) rfl rfl (Nat.le_of_ble_eq_true rfl) (Nat.le_of_ble_eq_true rfl) tg_239 (by decide)) (mz_dc_lt (n := 6) rfl (by decide +kernel) (by decide +kernel)) (by decide +kernel) (by decide +kernel) (fun m571 => ?_)
              refine q_ic (v := 1) (mz_fe (e := (104, .iconst 1, 1, (0, 0, 0), [])) (by decide +kernel)) (by decide) ?_
              exact q_retI (mz_fe (e := (105, .ireturn, 1, (0, 0, 0), [])) (by decide +kernel)) (by decide +kernel)
            · refine q_bi (v := 13) (mz_fe (e := (91, .bipush 13, 2, (0, 0, 0), [])) (by decide +kernel)) (by decide) ?_
              refine q_s (mz_fe (e := (93, .istore 4, 2, (0, 0, 0), [])) (by decide +kernel)) (pc' := 95) (L' := [some (.ref 239), some (.int x0), some (.int x1), some (.int x2), some (.int 13)]) (st' := []) rfl ?_
              refine q_o (mz_fe (e := (95, .aload_n 0, 1, (0, 0, 0), [])) (by decide +kernel)) (pc2 := 96) rfl ?_
              refine q_o (mz_fe (e := (96, .iload 4, 2, (0, 0, 0), [])) (by decide +kernel)) (pc2 := 98) rfl ?_
              refine q_o (mz_fe (e := (98, .iload_n 1, 1, (0, 0, 0), [])) (by decide +kernel)) (pc2 := 99) rfl ?_
              refine q_ic (v := 0) (mz_fe (e := (99, .iconst 0, 1, (0, 0, 0), [])) (by decide +kernel)) (by decide) ?_
              refine q_o (mz_fe (e := (100, .lconst 0, 1, (0, 0, 0), [])) (by decide +kernel)) (pc2 := 101) (st2 := [.long 0, .int 0, .int x0, .int 13, .ref 239]) rfl ?_
              refine q_callV (N := 182) (vs := [.ref 239, .int 13, .int x0, .int 0, .long 0]) (rest := []) (L' := [some (.ref 239), some (.int x0), some (.int x1), some (.int x2), some (.int 13)]) rfl (mz_fe (e := (101, .invokevirtual 188, 172, (182, 5, 18), [])) (by decide +kernel)) rfl (mz_inv_virt (N := 182) (k := 5) (t := 18) (st := [.long 0, .int 0, .int x0, .int 13, .ref 239]) (rest := []) (b := 239) (vs := [.int 13, .int x0, .int 0, .long 0]) (h := (mz_S0, m)) rfl rfl (Nat.le_of_ble_eq_true rfl) (Nat.le_of_ble_eq_true rfl) tg_239 (by decide)) (mz_dc_lt (n := 6) rfl (by decide +kernel) (by decide +kernel)) (by decide +kernel) (by decide +kernel) (fun m574 => ?_)
              refine q_ic (v := 1) (mz_fe (e := (104, .iconst 1, 1, (0, 0, 0), [])) (by decide +kernel)) (by decide) ?_
              exact q_retI (mz_fe (e := (105, .ireturn, 1, (0, 0, 0), [])) (by decide +kernel)) (by decide +kernel)
    · refine q_bi (v := 8) (mz_fe (e := (51, .bipush 8, 2, (0, 0, 0), [])) (by decide +kernel)) (by decide) ?_
      refine q_s (mz_fe (e := (53, .istore 4, 2, (0, 0, 0), [])) (by decide +kernel)) (pc' := 55) (L' := [some (.ref 239), some (.int x0), some (.int x1), some (.int x2), some (.int 8)]) (st' := []) rfl ?_
      refine q_o (mz_fe (e := (55, .iload_n 2, 1, (0, 0, 0), [])) (by decide +kernel)) (pc2 := 56) rfl ?_
      refine q_bi (v := 45) (mz_fe (e := (56, .bipush 45, 2, (0, 0, 0), [])) (by decide +kernel)) (by decide) ?_
      refine q_if (c := .ne) (off := 7) (t := 65) (x := x1) (y := 45) (st := []) (mz_fe (e := (58, .if_icmp .ne 7, 3, (0, 0, 0), [])) (by decide +kernel)) (fun _ => rfl) rfl rfl rfl (fun c577 => ?_) (fun c577 => ?_)
      · refine q_o (mz_fe (e := (65, .iload_n 2, 1, (0, 0, 0), [])) (by decide +kernel)) (pc2 := 66) rfl ?_
        refine q_bi (v := 42) (mz_fe (e := (66, .bipush 42, 2, (0, 0, 0), [])) (by decide +kernel)) (by decide) ?_
        refine q_if (c := .ne) (off := 7) (t := 75) (x := x1) (y := 42) (st := []) (mz_fe (e := (68, .if_icmp .ne 7, 3, (0, 0, 0), [])) (by decide +kernel)) (fun _ => rfl) rfl rfl rfl (fun c578 => ?_) (fun c578 => ?_)
        · refine q_o (mz_fe (e := (75, .iload_n 2, 1, (0, 0, 0), [])) (by decide +kernel)) (pc2 := 76) rfl ?_
          refine q_bi (v := 47) (mz_fe (e := (76, .bipush 47, 2, (0, 0, 0), [])) (by decide +kernel)) (by decide) ?_
          refine q_if (c := .ne) (off := 7) (t := 85) (x := x1) (y := 47) (st := []) (mz_fe (e := (78, .if_icmp .ne 7, 3, (0, 0, 0), [])) (by decide +kernel)) (fun _ => rfl) rfl rfl rfl (fun c579 => ?_) (fun c579 => ?_)
          · refine q_o (mz_fe (e := (85, .iload_n 2, 1, (0, 0, 0), [])) (by decide +kernel)) (pc2 := 86) rfl ?_
            refine q_bi (v := 60) (mz_fe (e := (86, .bipush 60, 2, (0, 0, 0), [])) (by decide +kernel)) (by decide) ?_
            refine q_if (c := .ne) (off := 7) (t := 95) (x := x1) (y := 60) (st := []) (mz_fe (e := (88, .if_icmp .ne 7, 3, (0, 0, 0), [])) (by decide +kernel)) (fun _ => rfl) rfl rfl rfl (fun c580 => ?_) (fun c580 => ?_)
            · refine q_o (mz_fe (e := (95, .aload_n 0, 1, (0, 0, 0), [])) (by decide +kernel)) (pc2 := 96) rfl ?_
              refine q_o (mz_fe (e := (96, .iload 4, 2, (0, 0, 0), [])) (by decide +kernel)) (pc2 := 98) rfl ?_
              refine q_o (mz_fe (e := (98, .iload_n 1, 1, (0, 0, 0), [])) (by decide +kernel)) (pc2 := 99) rfl ?_
              refine q_ic (v := 0) (mz_fe (e := (99, .iconst 0, 1, (0, 0, 0), [])) (by decide +kernel)) (by decide) ?_
              refine q_o (mz_fe (e := (100, .lconst 0, 1, (0, 0, 0), [])) (by decide +kernel)) (pc2 := 101) (st2 := [.long 0, .int 0, .int x0, .int 8, .ref 239]) rfl ?_
              refine q_callV (N := 182) (vs := [.ref 239, .int 8, .int x0, .int 0, .long 0]) (rest := []) (L' := [some (.ref 239), some (.int x0), some (.int x1), some (.int x2), some (.int 8)]) rfl (mz_fe (e := (101, .invokevirtual 188, 172, (182, 5, 18), [])) (by decide +kernel)) rfl (mz_inv_virt (N := 182) (k := 5) (t := 18) (st := [.long 0, .int 0, .int x0, .int 8, .ref 239]) (rest := []) (b := 239) (vs := [.int 8, .int x0, .int 0, .long 0]) (h := (mz_S0, m)) rfl rfl (Nat.le_of_ble_eq_true rfl) (Nat.le_of_ble_eq_true rfl) tg_239 (by decide)) (mz_dc_lt (n := 6) rfl (by decide +kernel) (by decide +kernel)) (by decide +kernel) (by decide +kernel) (fun m581 => ?_)
              refine q_ic (v := 1) (mz_fe (e := (104, .iconst 1, 1, (0, 0, 0), [])) (by decide +kernel)) (by decide) ?_
              exact q_retI (mz_fe (e := (105, .ireturn, 1, (0, 0, 0), [])) (by decide +kernel)) (by decide +kernel)
            · refine q_bi (v := 13) (mz_fe (e := (91, .bipush 13, 2, (0, 0, 0), [])) (by decide +kernel)) (by decide) ?_
              refine q_s (mz_fe (e := (93, .istore 4, 2, (0, 0, 0), [])) (by decide +kernel)) (pc' := 95) (L' := [some (.ref 239), some (.int x0), some (.int x1), some (.int x2), some (.int 13)]) (st' := []) rfl ?_
              refine q_o (mz_fe (e := (95, .aload_n 0, 1, (0, 0, 0), [])) (by decide +kernel)) (pc2 := 96) rfl ?_
              refine q_o (mz_fe (e := (96, .iload 4, 2, (0, 0, 0), [])) (by decide +kernel)) (pc2 := 98) rfl ?_
              refine q_o (mz_fe (e := (98, .iload_n 1, 1, (0, 0, 0), [])) (by decide +kernel)) (pc2 := 99) rfl ?_
              refine q_ic (v := 0) (mz_fe (e := (99, .iconst 0, 1, (0, 0, 0), [])) (by decide +kernel)) (by decide) ?_
              refine q_o (mz_fe (e := (100, .lconst 0, 1, (0, 0, 0), [])) (by decide +kernel)) (pc2 := 101) (st2 := [.long 0, .int 0, .int x0, .int 13, .ref 239]) rfl ?_
              refine q_callV (N := 182) (vs := [.ref 239, .int 13, .int x0, .int 0, .long 0]) (rest := []) (L' := [some (.ref 239), some (.int x0), some (.int x1), some (.int x2), some (.int 13)]) rfl (mz_fe (e := (101, .invokevirtual 188, 172, (182, 5, 18), [])) (by decide +kernel)) rfl (mz_inv_virt (N := 182) (k := 5) (t := 18) (st := [.long 0, .int 0, .int x0, .int 13, .ref 239]) (rest := []) (b := 239) (vs := [.int 13, .int x0, .int 0, .long 0]) (h := (mz_S0, m)) rfl rfl (Nat.le_of_ble_eq_true rfl) (Nat.le_of_ble_eq_true rfl) tg_239 (by decide)) (mz_dc_lt (n := 6) rfl (by decide +kernel) (by decide +kernel)) (by decide +kernel) (by decide +kernel) (fun m584 => ?_)
              refine q_ic (v := 1) (mz_fe (e := (104, .iconst 1, 1, (0, 0, 0), [])) (by decide +kernel)) (by decide) ?_
              exact q_retI (mz_fe (e := (105, .ireturn, 1, (0, 0, 0), [])) (by decide +kernel)) (by decide +kernel)
          · refine q_bi (v := 15) (mz_fe (e := (81, .bipush 15, 2, (0, 0, 0), [])) (by decide +kernel)) (by decide) ?_
            refine q_s (mz_fe (e := (83, .istore 4, 2, (0, 0, 0), [])) (by decide +kernel)) (pc' := 85) (L' := [some (.ref 239), some (.int x0), some (.int x1), some (.int x2), some (.int 15)]) (st' := []) rfl ?_
            refine q_o (mz_fe (e := (85, .iload_n 2, 1, (0, 0, 0), [])) (by decide +kernel)) (pc2 := 86) rfl ?_
            refine q_bi (v := 60) (mz_fe (e := (86, .bipush 60, 2, (0, 0, 0), [])) (by decide +kernel)) (by decide) ?_
            refine q_if (c := .ne) (off := 7) (t := 95) (x := x1) (y := 60) (st := []) (mz_fe (e := (88, .if_icmp .ne 7, 3, (0, 0, 0), [])) (by decide +kernel)) (fun _ => rfl) rfl rfl rfl (fun c587 => ?_) (fun c587 => ?_)
            · refine q_o (mz_fe (e := (95, .aload_n 0, 1, (0, 0, 0), [])) (by decide +kernel)) (pc2 := 96) rfl ?_
              refine q_o (mz_fe (e := (96, .iload 4, 2, (0, 0, 0), [])) (by decide +kernel)) (pc2 := 98) rfl ?_
              refine q_o (mz_fe (e := (98, .iload_n 1, 1, (0, 0, 0), [])) (by decide +kernel)) (pc2 := 99) rfl ?_
              refine q_ic (v := 0) (mz_fe (e := (99, .iconst 0, 1, (0, 0, 0), [])) (by decide +kernel)) (by decide) ?_
              refine q_o (mz_fe (e := (100, .lconst 0, 1, (0, 0, 0), [])) (by decide +kernel)) (pc2 := 101) (st2 := [.long 0, .int 0, .int x0, .int 15, .ref 239]) rfl ?_
              refine q_callV (N := 182) (vs := [.ref 239, .int 15, .int x0, .int 0, .long 0]) (rest := []) (L' := [some (.ref 239), some (.int x0), some (.int x1), some (.int x2), some (.int 15)]) rfl (mz_fe (e := (101, .invokevirtual 188, 172, (182, 5, 18), [])) (by decide +kernel)) rfl (mz_inv_virt (N := 182) (k := 5) (t := 18) (st := [.long 0, .int 0, .int x0, .int 15, .ref 239]) (rest := []) (b := 239) (vs := [.int 15, .int x0, .int 0, .long 0]) (h := (mz_S0, m)) rfl rfl (Nat.le_of_ble_eq_true rfl) (Nat.le_of_ble_eq_true rfl) tg_239 (by decide)) (mz_dc_lt (n := 6) rfl (by decide +kernel) (by decide +kernel)) (by decide +kernel) (by decide +kernel) (fun m588 => ?_)
              refine q_ic (v := 1) (mz_fe (e := (104, .iconst 1, 1, (0, 0, 0), [])) (by decide +kernel)) (by decide) ?_
              exact q_retI (mz_fe (e := (105, .ireturn, 1, (0, 0, 0), [])) (by decide +kernel)) (by decide +kernel)
            · refine q_bi (v := 13) (mz_fe (e := (91, .bipush 13, 2, (0, 0, 0), [])) (by decide +kernel)) (by decide) ?_
              refine q_s (mz_fe (e := (93, .istore 4, 2, (0, 0, 0), [])) (by decide +kernel)) (pc' := 95) (L' := [some (.ref 239), some (.int x0), some (.int x1), some (.int x2), some (.int 13)]) (st' := []) rfl ?_
              refine q_o (mz_fe (e := (95, .aload_n 0, 1, (0, 0, 0), [])) (by decide +kernel)) (pc2 := 96) rfl ?_
              refine q_o (mz_fe (e := (96, .iload 4, 2, (0, 0, 0), [])) (by decide +kernel)) (pc2 := 98) rfl ?_
              refine q_o (mz_fe (e := (98, .iload_n 1, 1, (0, 0, 0), [])) (by decide +kernel)) (pc2 := 99) rfl ?_
              refine q_ic (v := 0) (mz_fe (e := (99, .iconst 0, 1, (0, 0, 0), [])) (by decide +kernel)) (by decide) ?_
              refine q_o (mz_fe (e := (100, .lconst 0, 1, (0, 0, 0), [])) (by decide +kernel)) (pc2 := 101) (st2 := [.long 0, .int 0, .int x0, .int 13, .ref 239]) rfl ?_
              refine q_callV (N := 182) (vs := [.ref 239, .int 13, .int x0, .int 0, .long 0]) (rest := []) (L' := [some (.ref 239), some (.int x0), some (.int x1), some (.int x2), some (.int 13)]) rfl (mz_fe (e := (101, .invokevirtual 188, 172, (182, 5, 18), [])) (by decide +kernel)) rfl (mz_inv_virt (N := 182) (k := 5) (t := 18) (st := [.long 0, .int 0, .int x0, .int 13, .ref 239]) (rest := []) (b := 239) (vs := [.int 13, .int x0, .int 0, .long 0]) (h := (mz_S0, m)) rfl rfl (Nat.le_of_ble_eq_true rfl) (Nat.le_of_ble_eq_true rfl) tg_239 (by decide)) (mz_dc_lt (n := 6) rfl (by decide +kernel) (by decide +kernel)) (by decide +kernel) (by decide +kernel) (fun m591 => ?_)
              refine q_ic (v := 1) (mz_fe (e := (104, .iconst 1, 1, (0, 0, 0), [])) (by decide +kernel)) (by decide) ?_
              exact q_retI (mz_fe (e := (105, .ireturn, 1, (0, 0, 0), [])) (by decide +kernel)) (by decide +kernel)
        · refine q_bi (v := 10) (mz_fe (e := (71, .bipush 10, 2, (0, 0, 0), [])) (by decide +kernel)) (by decide) ?_
          refine q_s (mz_fe (e := (73, .istore 4, 2, (0, 0, 0), [])) (by decide +kernel)) (pc' := 75) (L' := [some (.ref 239), some (.int x0), some (.int x1), some (.int x2), some (.int 10)]) (st' := []) rfl ?_
          refine q_o (mz_fe (e := (75, .iload_n 2, 1, (0, 0, 0), [])) (by decide +kernel)) (pc2 := 76) rfl ?_
          refine q_bi (v := 47) (mz_fe (e := (76, .bipush 47, 2, (0, 0, 0), [])) (by decide +kernel)) (by decide) ?_
          refine q_if (c := .ne) (off := 7) (t := 85) (x := x1) (y := 47) (st := []) (mz_fe (e := (78, .if_icmp .ne 7, 3, (0, 0, 0), [])) (by decide +kernel)) (fun _ => rfl) rfl rfl rfl (fun c594 => ?_) (fun c594 => ?_)
          · refine q_o (mz_fe (e := (85, .iload_n 2, 1, (0, 0, 0), [])) (by decide +kernel)) (pc2 := 86) rfl ?_
            refine q_bi (v := 60) (mz_fe (e := (86, .bipush 60, 2, (0, 0, 0), [])) (by decide +kernel)) (by decide) ?_
            refine q_if (c := .ne) (off := 7) (t := 95) (x := x1) (y := 60) (st := []) (mz_fe (e := (88, .if_icmp .ne 7, 3, (0, 0, 0), [])) (by decide +kernel)) (fun _ => rfl) rfl rfl rfl (fun c595 => ?_) (fun c595 => ?_)
            · refine q_o (mz_fe (e := (95, .aload_n 0, 1, (0, 0, 0), [])) (by decide +kernel)) (pc2 := 96) rfl ?_
              refine q_o (mz_fe (e := (96, .iload 4, 2, (0, 0, 0), [])) (by decide +kernel)) (pc2 := 98) rfl ?_
              refine q_o (mz_fe (e := (98, .iload_n 1, 1, (0, 0, 0), [])) (by decide +kernel)) (pc2 := 99) rfl ?_
              refine q_ic (v := 0) (mz_fe (e := (99, .iconst 0, 1, (0, 0, 0), [])) (by decide +kernel)) (by decide) ?_
              refine q_o (mz_fe (e := (100, .lconst 0, 1, (0, 0, 0), [])) (by decide +kernel)) (pc2 := 101) (st2 := [.long 0, .int 0, .int x0, .int 10, .ref 239]) rfl ?_
              refine q_callV (N := 182) (vs := [.ref 239, .int 10, .int x0, .int 0, .long 0]) (rest := []) (L' := [some (.ref 239), some (.int x0), some (.int x1), some (.int x2), some (.int 10)]) rfl (mz_fe (e := (101, .invokevirtual 188, 172, (182, 5, 18), [])) (by decide +kernel)) rfl (mz_inv_virt (N := 182) (k := 5) (t := 18) (st := [.long 0, .int 0, .int x0, .int 10, .ref 239]) (rest := []) (b := 239) (vs := [.int 10, .int x0, .int 0, .long 0]) (h := (mz_S0, m)) rfl rfl (Nat.le_of_ble_eq_true rfl) (Nat.le_of_ble_eq_true rfl) tg_239 (by decide)) (mz_dc_lt (n := 6) rfl (by decide +kernel) (by decide +kernel)) (by decide +kernel) (by decide +kernel) (fun m596 => ?_)
              refine q_ic (v := 1) (mz_fe (e := (104, .iconst 1, 1, (0, 0, 0), [])) (by decide +kernel)) (by decide) ?_
              exact q_retI (mz_fe (e := (105, .ireturn, 1, (0, 0, 0), [])) (by decide +kernel)) (by decide +kernel)
            · refine q_bi (v := 13) (mz_fe (e := (91, .bipush 13, 2, (0, 0, 0), [])) (by decide +kernel)) (by decide) ?_
              refine q_s (mz_fe (e := (93, .istore 4, 2, (0, 0, 0), [])) (by decide +kernel)) (pc' := 95) (L' := [some (.ref 239), some (.int x0), some (.int x1), some (.int x2), some (.int 13)]) (st' := []) rfl ?_
              refine q_o (mz_fe (e := (95, .aload_n 0, 1, (0, 0, 0), [])) (by decide +kernel)) (pc2 := 96) rfl ?_
              refine q_o (mz_fe (e := (96, .iload 4, 2, (0, 0, 0), [])) (by decide +kernel)) (pc2 := 98) rfl ?_
              refine q_o (mz_fe (e := (98, .iload_n 1, 1, (0, 0, 0), [])) (by decide +kernel)) (pc2 := 99) rfl ?_
              refine q_ic (v := 0) (mz_fe (e := (99, .iconst 0, 1, (0, 0, 0), [])) (by decide +kernel)) (by decide) ?_
              refine q_o (mz_fe (e := (100, .lconst 0, 1, (0, 0, 0), [])) (by decide +kernel)) (pc2 := 101) (st2 := [.long 0, .int 0, .int x0, .int 13, .ref 239]) rfl ?_
              refine q_callV (N := 182) (vs := [.ref 239, .int 13, .int x0, .int 0, .long 0]) (rest := []) (L' := [some (.ref 239), some (.int x0), some (.int x1), some (.int x2), some (.int 13)]) rfl (mz_fe (e := (101, .invokevirtual 188, 172, (182, 5, 18), [])) (by decide +kernel)) rfl (mz_inv_virt (N := 182) (k := 5) (t := 18) (st := [.long 0, .int 0, .int x0, .int 13, .ref 239]) (rest := []) (b := 239) (vs := [.int 13, .int x0, .int 0, .long 0]) (h := (mz_S0, m)) rfl rfl (Nat.le_of_ble_eq_true rfl) (Nat.le_of_ble_eq_true rfl) tg_239 (by decide)) (mz_dc_lt (n := 6) rfl (by decide +kernel) (by decide +kernel)) (by decide +kernel) (by decide +kernel) (fun m599 => ?_)
              refine q_ic (v := 1) (mz_fe (e := (104, .iconst 1, 1, (0, 0, 0), [])) (by decide +kernel)) (by decide) ?_
              exact q_retI (mz_fe (e := (105, .ireturn, 1, (0, 0, 0), [])) (by decide +kernel)) (by decide +kernel)
          · refine q_bi (v := 15) (mz_fe (e := (81, .bipush 15, 2, (0, 0, 0), [])) (by decide +kernel)) (by decide) ?_
            refine q_s (mz_fe (e := (83, .istore 4, 2, (0, 0, 0), [])) (by decide +kernel)) (pc' := 85) (L' := [some (.ref 239), some (.int x0), some (.int x1), some (.int x2), some (.int 15)]) (st' := []) rfl ?_
            refine q_o (mz_fe (e := (85, .iload_n 2, 1, (0, 0, 0), [])) (by decide +kernel)) (pc2 := 86) rfl ?_
            refine q_bi (v := 60) (mz_fe (e := (86, .bipush 60, 2, (0, 0, 0), [])) (by decide +kernel)) (by decide) ?_
            refine q_if (c := .ne) (off := 7) (t := 95) (x := x1) (y := 60) (st := []) (mz_fe (e := (88, .if_icmp .ne 7, 3, (0, 0, 0), [])) (by decide +kernel)) (fun _ => rfl) rfl rfl rfl (fun c602 => ?_) (fun c602 => ?_)
            · refine q_o (mz_fe (e := (95, .aload_n 0, 1, (0, 0, 0), [])) (by decide +kernel)) (pc2 := 96) rfl ?_
              refine q_o (mz_fe (e := (96, .iload 4, 2, (0, 0, 0), [])) (by decide +kernel)) (pc2 := 98) rfl ?_
              refine q_o (mz_fe (e := (98, .iload_n 1, 1, (0, 0, 0), [])) (by decide +kernel)) (pc2 := 99) rfl ?_
              refine q_ic (v := 0) (mz_fe (e := (99, .iconst 0, 1, (0, 0, 0), [])) (by decide +kernel)) (by decide) ?_
              refine q_o (mz_fe (e := (100, .lconst 0, 1, (0, 0, 0), [])) (by decide +kernel)) (pc2 := 101) (st2 := [.long 0, .int 0, .int x0, .int 15, .ref 239]) rfl ?_
              refine q_callV (N := 182) (vs := [.ref 239, .int 15, .int x0, .int 0, .long 0]) (rest := []) (L' := [some (.ref 239), some (.int x0), some (.int x1), some (.int x2), some (.int 15)]) rfl (mz_fe (e := (101, .invokevirtual 188, 172, (182, 5, 18), [])) (by decide +kernel)) rfl (mz_inv_virt (N := 182) (k := 5) (t := 18) (st := [.long 0, .int 0, .int x0, .int 15, .ref 239]) (rest := []) (b := 239) (vs := [.int 15, .int x0, .int 0, .long 0]) (h := (mz_S0, m)) rfl rfl (Nat.le_of_ble_eq_true rfl) (Nat.le_of_ble_eq_true rfl) tg_239 (by decide)) (mz_dc_lt (n := 6) rfl (by decide +kernel) (by decide +kernel)) (by decide +kernel) (by decide +kernel) (fun m603 => ?_)
              refine q_ic (v := 1) (mz_fe (e := (104, .iconst 1, 1, (0, 0, 0), [])) (by decide +kernel)) (by decide) ?_
              exact q_retI (mz_fe (e := (105, .ireturn, 1, (0, 0, 0), [])) (by decide +kernel)) (by decide +kernel)
            · refine q_bi (v := 13) (mz_fe (e := (91, .bipush 13, 2, (0, 0, 0), [])) (by decide +kernel)) (by decide) ?_
              refine q_s (mz_fe (e := (93, .istore 4, 2, (0, 0, 0), [])) (by decide +kernel)) (pc' := 95) (L' := [some (.ref 239), some (.int x0), some (.int x1), some (.int x2), some (.int 13)]) (st' := []) rfl ?_
              refine q_o (mz_fe (e := (95, .aload_n 0, 1, (0, 0, 0), [])) (by decide +kernel)) (pc2 := 96) rfl ?_
              refine q_o (mz_fe (e := (96, .iload 4, 2, (0, 0, 0), [])) (by decide +kernel)) (pc2 := 98) rfl ?_
              refine q_o (mz_fe (e := (98, .iload_n 1, 1, (0, 0, 0), [])) (by decide +kernel)) (pc2 := 99) rfl ?_
              refine q_ic (v := 0) (mz_fe (e := (99, .iconst 0, 1, (0, 0, 0), [])) (by decide +kernel)) (by decide) ?_
              refine q_o (mz_fe (e := (100, .lconst 0, 1, (0, 0, 0), [])) (by decide +kernel)) (pc2 := 101) (st2 := [.long 0, .int 0, .int x0, .int 13, .ref 239]) rfl ?_
              refine q_callV (N := 182) (vs := [.ref 239, .int 13, .int x0, .int 0, .long 0]) (rest := []) (L' := [some (.ref 239), some (.int x0), some (.int x1), some (.int x2), some (.int 13)]) rfl (mz_fe (e := (101, .invokevirtual 188, 172, (182, 5, 18), [])) (by decide +kernel)) rfl (mz_inv_virt (N := 182) (k := 5) (t := 18) (st := [.long 0, .int 0, .int x0, .int 13, .ref 239]) (rest := []) (b := 239) (vs := [.int 13, .int x0, .int 0, .long 0]) (h := (mz_S0, m)) rfl rfl (Nat.le_of_ble_eq_true rfl) (Nat.le_of_ble_eq_true rfl) tg_239 (by decide)) (mz_dc_lt (n := 6) rfl (by decide +kernel) (by decide +kernel)) (by decide +kernel) (by decide +kernel) (fun m606 => ?_)
              refine q_ic (v := 1) (mz_fe (e := (104, .iconst 1, 1, (0, 0, 0), [])) (by decide +kernel)) (by decide) ?_
              exact q_retI (mz_fe (e := (105, .ireturn, 1, (0, 0, 0), [])) (by decide +kernel)) (by decide +kernel)
      · refine q_bi (v := 9) (mz_fe (e := (61, .bipush 9, 2, (0, 0, 0), [])) (by decide +kernel)) (by decide) ?_
        refine q_s (mz_fe (e := (63, .istore 4, 2, (0, 0, 0), [])) (by decide +kernel)) (pc' := 65) (L' := [some (.ref 239), some (.int x0), some (.int x1), some (.int x2), some (.int 9)]) (st' := []) rfl ?_
        refine q_o (mz_fe (e := (65, .iload_n 2, 1, (0, 0, 0), [])) (by decide +kernel)) (pc2 := 66) rfl ?_
        refine q_bi (v := 42) (mz_fe (e := (66, .bipush 42, 2, (0, 0, 0), [])) (by decide +kernel)) (by decide) ?_
        refine q_if (c := .ne) (off := 7) (t := 75) (x := x1) (y := 42) (st := []) (mz_fe (e := (68, .if_icmp .ne 7, 3, (0, 0, 0), [])) (by decide +kernel)) (fun _ => rfl) rfl rfl rfl (fun c609 => ?_) (fun c609 => ?_)
        · refine q_o (mz_fe (e := (75, .iload_n 2, 1, (0, 0, 0), [])) (by decide +kernel)) (pc2 := 76) rfl ?_
          refine q_bi (v := 47) (mz_fe (e := (76, .bipush 47, 2, (0, 0, 0), [])) (by decide +kernel)) (by decide) ?_
          refine q_if (c := .ne) (off := 7) (t := 85) (x := x1) (y := 47) (st := []) (mz_fe (e := (78, .if_icmp .ne 7, 3, (0, 0, 0), [])) (by decide +kernel)) (fun _ => rfl) rfl rfl rfl (fun c610 => ?_) (fun c610 => ?_)
          · refine q_o (mz_fe (e := (85, .iload_n 2, 1, (0, 0, 0), [])) (by decide +kernel)) (pc2 := 86) rfl ?_
            refine q_bi (v := 60) (mz_fe (e := (86, .bipush 60, 2, (0, 0, 0), [])) (by decide +kernel)) (by decide) ?_
            refine q_if (c := .ne) (off := 7) (t := 95) (x := x1) (y := 60) (st := []) (mz_fe (e := (88, .if_icmp .ne 7, 3, (0, 0, 0), [])) (by decide +kernel)) (fun _ => rfl) rfl rfl rfl (fun c611 => ?_) (fun c611 => ?_)
            · refine q_o (mz_fe (e := (95, .aload_n 0, 1, (0, 0, 0), [])) (by decide +kernel)) (pc2 := 96) rfl ?_
              refine q_o (mz_fe (e := (96, .iload 4, 2, (0, 0, 0), [])) (by decide +kernel)) (pc2 := 98) rfl ?_
              refine q_o (mz_fe (e := (98, .iload_n 1, 1, (0, 0, 0), [])) (by decide +kernel)) (pc2 := 99) rfl ?_
              refine q_ic (v := 0) (mz_fe (e := (99, .iconst 0, 1, (0, 0, 0), [])) (by decide +kernel)) (by decide) ?_
              refine q_o (mz_fe (e := (100, .lconst 0, 1, (0, 0, 0), [])) (by decide +kernel)) (pc2 := 101) (st2 := [.long 0, .int 0, .int x0, .int 9, .ref 239]) rfl ?_
              refine q_callV (N := 182) (vs := [.ref 239, .int 9, .int x0, .int 0, .long 0]) (rest := []) (L' := [some (.ref 239), some (.int x0), some (.int x1), some (.int x2), some (.int 9)]) rfl (mz_fe (e := (101, .invokevirtual 188, 172, (182, 5, 18), [])) (by decide +kernel)) rfl (mz_inv_virt (N := 182) (k := 5) (t := 18) (st := [.long 0, .int 0, .int x0, .int 9, .ref 239]) (rest := []) (b := 239) (vs := [.int 9, .int x0, .int 0, .long 0]) (h := (mz_S0, m)) rfl rfl (Nat.le_of_ble_eq_true rfl) (Nat.le_of_ble_eq_true rfl) tg_239 (by decide)) (mz_dc_lt (n := 6) rfl (by decide +kernel) (by decide +kernel)) (by decide +kernel) (by decide +kernel) (fun m612 => ?_)
              refine q_ic (v := 1) (mz_fe (e := (104, .iconst 1, 1, (0, 0, 0), [])) (by decide +kernel)) (by decide) ?_
              exact q_retI (mz_fe (e := (105, .ireturn, 1, (0, 0, 0), [])) (by decide +kernel)) (by decide +kernel)
            · refine q_bi (v := 13) (mz_fe (e := (91, .bipush 13, 2, (0, 0, 0), [])) (by decide +kernel)) (by decide) ?_
              refine q_s (mz_fe (e := (93, .istore 4, 2, (0, 0, 0), [])) (by decide +kernel)) (pc' := 95) (L' := [some (.ref 239), some (.int x0), some (.int x1), some (.int x2), some (.int 13)]) (st' := []) rfl ?_
              refine q_o (mz_fe (e := (95, .aload_n 0, 1, (0, 0, 0), [])) (by decide +kernel)) (pc2 := 96) rfl ?_
              refine q_o (mz_fe (e := (96, .iload 4, 2, (0, 0, 0), [])) (by decide +kernel)) (pc2 := 98) rfl ?_
              refine q_o (mz_fe (e := (98, .iload_n 1, 1, (0, 0, 0), [])) (by decide +kernel)) (pc2 := 99) rfl ?_
              refine q_ic (v := 0) (mz_fe (e := (99, .iconst 0, 1, (0, 0, 0), [])) (by decide +kernel)) (by decide) ?_
              refine q_o (mz_fe (e := (100, .lconst 0, 1, (0, 0, 0), [])) (by decide +kernel)) (pc2 := 101) (st2 := [.long 0, .int 0, .int x0, .int 13, .ref 239]) rfl ?_
              refine q_callV (N := 182) (vs := [.ref 239, .int 13, .int x0, .int 0, .long 0]) (rest := []) (L' := [some (.ref 239), some (.int x0), some (.int x1), some (.int x2), some (.int 13)]) rfl (mz_fe (e := (101, .invokevirtual 188, 172, (182, 5, 18), [])) (by decide +kernel)) rfl (mz_inv_virt (N := 182) (k := 5) (t := 18) (st := [.long 0, .int 0, .int x0, .int 13, .ref 239]) (rest := []) (b := 239) (vs := [.int 13, .int x0, .int 0, .long 0]) (h := (mz_S0, m)) rfl rfl (Nat.le_of_ble_eq_true rfl) (Nat.le_of_ble_eq_true rfl) tg_239 (by decide)) (mz_dc_lt (n := 6) rfl (by decide +kernel) (by decide +kernel)) (by decide +kernel) (by decide +kernel) (fun m615 => ?_)
              refine q_ic (v := 1) (mz_fe (e := (104, .iconst 1, 1, (0, 0, 0), [])) (by decide +kernel)) (by decide) ?_
              exact q_retI (mz_fe (e := (105, .ireturn, 1, (0, 0, 0), [])) (by decide +kernel)) (by decide +kernel)
          · refine q_bi (v := 15) (mz_fe (e := (81, .bipush 15, 2, (0, 0, 0), [])) (by decide +kernel)) (by decide) ?_
            refine q_s (mz_fe (e := (83, .istore 4, 2, (0, 0, 0), [])) (by decide +kernel)) (pc' := 85) (L' := [some (.ref 239), some (.int x0), some (.int x1), some (.int x2), some (.int 15)]) (st' := []) rfl ?_
            refine q_o (mz_fe (e := (85, .iload_n 2, 1, (0, 0, 0), [])) (by decide +kernel)) (pc2 := 86) rfl ?_
            refine q_bi (v := 60) (mz_fe (e := (86, .bipush 60, 2, (0, 0, 0), [])) (by decide +kernel)) (by decide) ?_
            refine q_if (c := .ne) (off := 7) (t := 95) (x := x1) (y := 60) (st := []) (mz_fe (e := (88, .if_icmp .ne 7, 3, (0, 0, 0), [])) (by decide +kernel)) (fun _ => rfl) rfl rfl rfl (fun c618 => ?_) (fun c618 => ?_)
            · refine q_o (mz_fe (e := (95, .aload_n 0, 1, (0, 0, 0), [])) (by decide +kernel)) (pc2 := 96) rfl ?_
              refine q_o (mz_fe (e := (96, .iload 4, 2, (0, 0, 0), [])) (by decide +kernel)) (pc2 := 98) rfl ?_
              refine q_o (mz_fe (e := (98, .iload_n 1, 1, (0, 0, 0), [])) (by decide +kernel)) (pc2 := 99) rfl ?_
              refine q_ic (v := 0) (mz_fe (e := (99, .iconst 0, 1, (0, 0, 0), [])) (by decide +kernel)) (by decide) ?_
              refine q_o (mz_fe (e := (100, .lconst 0, 1, (0, 0, 0), [])) (by decide +kernel)) (pc2 := 101) (st2 := [.long 0, .int 0, .int x0, .int 15, .ref 239]) rfl ?_
              refine q_callV (N := 182) (vs := [.ref 239, .int 15, .int x0, .int 0, .long 0]) (rest := []) (L' := [some (.ref 239), some (.int x0), some (.int x1), some (.int x2), some (.int 15)]) rfl (mz_fe (e := (101, .invokevirtual 188, 172, (182, 5, 18), [])) (by decide +kernel)) rfl (mz_inv_virt (N := 182) (k := 5) (t := 18) (st := [.long 0, .int 0, .int x0, .int 15, .ref 239]) (rest := []) (b := 239) (vs := [.int 15, .int x0, .int 0, .long 0]) (h := (mz_S0, m)) rfl rfl (Nat.le_of_ble_eq_true rfl) (Nat.le_of_ble_eq_true rfl) tg_239 (by decide)) (mz_dc_lt (n := 6) rfl (by decide +kernel) (by decide +kernel)) (by decide +kernel) (by decide +kernel) (fun m619 => ?_)
              refine q_ic (v := 1) (mz_fe (e := (104, .iconst 1, 1, (0, 0, 0), [])) (by decide +kernel)) (by decide) ?_
              exact q_retI (mz_fe (e := (105, .ireturn, 1, (0, 0, 0), [])) (by decide +kernel)) (by decide +kernel)
            · refine q_bi (v := 13) (mz_fe (e := (91, .bipush 13, 2, (0, 0, 0), [])) (by decide +kernel)) (by decide) ?_
              refine q_s (mz_fe (e := (93, .istore 4, 2, (0, 0, 0), [])) (by decide +kernel)) (pc' := 95) (L' := [some (.ref 239), some (.int x0), some (.int x1), some (.int x2), some (.int 13)]) (st' := []) rfl ?_
              refine q_o (mz_fe (e := (95, .aload_n 0, 1, (0, 0, 0), [])) (by decide +kernel)) (pc2 := 96) rfl ?_
              refine q_o (mz_fe (e := (96, .iload 4, 2, (0, 0, 0), [])) (by decide +kernel)) (pc2 := 98) rfl ?_
              refine q_o (mz_fe (e := (98, .iload_n 1, 1, (0, 0, 0), [])) (by decide +kernel)) (pc2 := 99) rfl ?_
              refine q_ic (v := 0) (mz_fe (e := (99, .iconst 0, 1, (0, 0, 0), [])) (by decide +kernel)) (by decide) ?_
              refine q_o (mz_fe (e := (100, .lconst 0, 1, (0, 0, 0), [])) (by decide +kernel)) (pc2 := 101) (st2 := [.long 0, .int 0, .int x0, .int 13, .ref 239]) rfl ?_
              refine q_callV (N := 182) (vs := [.ref 239, .int 13, .int x0, .int 0, .long 0]) (rest := []) (L' := [some (.ref 239), some (.int x0), some (.int x1), some (.int x2), some (.int 13)]) rfl (mz_fe (e := (101, .invokevirtual 188, 172, (182, 5, 18), [])) (by decide +kernel)) rfl (mz_inv_virt (N := 182) (k := 5) (t := 18) (st := [.long 0, .int 0, .int x0, .int 13, .ref 239]) (rest := []) (b := 239) (vs := [.int 13, .int x0, .int 0, .long 0]) (h := (mz_S0, m)) rfl rfl (Nat.le_of_ble_eq_true rfl) (Nat.le_of_ble_eq_true rfl) tg_239 (by decide)) (mz_dc_lt (n := 6) rfl (by decide +kernel) (by decide +kernel)) (by decide +kernel) (by decide +kernel) (fun m622 => ?_)
              refine q_ic (v := 1) (mz_fe (e := (104, .iconst 1, 1, (0, 0, 0), [])) (by decide +kernel)) (by decide) ?_
              exact q_retI (mz_fe (e := (105, .ireturn, 1, (0, 0, 0), [])) (by decide +kernel)) (by decide +kernel)
        · refine q_bi (v := 10) (mz_fe (e := (71, .bipush 10, 2, (0, 0, 0), [])) (by decide +kernel)) (by decide) ?_
          refine q_s (mz_fe (e := (73, .istore 4, 2, (0, 0, 0), [])) (by decide +kernel)) (pc' := 75) (L' := [some (.ref 239), some (.int x0), some (.int x1), some (.int x2), some (.int 10)]) (st' := []) rfl ?_
          refine q_o (mz_fe (e := (75, .iload_n 2, 1, (0, 0, 0), [])) (by decide +kernel)) (pc2 := 76) rfl ?_
          refine q_bi (v := 47) (mz_fe (e := (76, .bipush 47, 2, (0, 0, 0), [])) (by decide +kernel)) (by decide) ?_
          refine q_if (c := .ne) (off := 7) (t := 85) (x := x1) (y := 47) (st := []) (mz_fe (e := (78, .if_icmp .ne 7, 3, (0, 0, 0), [])) (by decide +kernel)) (fun _ => rfl) rfl rfl rfl (fun c625 => ?_) (fun c625 => ?_)
          · refine q_o (mz_fe (e := (85, .iload_n 2, 1, (0, 0, 0), [])) (by decide +kernel)) (pc2 := 86) rfl ?_
            refine q_bi (v := 60) (mz_fe (e := (86, .bipush 60, 2, (0, 0, 0), [])) (by decide +kernel)) (by decide) ?_
            refine q_if (c := .ne) (off := 7) (t := 95) (x := x1) (y := 60) (st := []) (mz_fe (e := (88, .if_icmp .ne 7, 3, (0, 0, 0), [])) (by decide +kernel)) (fun _ => rfl) rfl rfl rfl (fun c626 => ?_) (fun c626 => ?_)
            · refine q_o (mz_fe (e := (95, .aload_n 0, 1, (0, 0, 0), [])) (by decide +kernel)) (pc2 := 96) rfl ?_
              refine q_o (mz_fe (e := (96, .iload 4, 2, (0, 0, 0), [])) (by decide +kernel)) (pc2 := 98) rfl ?_
              refine q_o (mz_fe (e := (98, .iload_n 1, 1, (0, 0, 0), [])) (by decide +kernel)) (pc2 := 99) rfl ?_
              refine q_ic (v := 0) (mz_fe (e := (99, .iconst 0, 1, (0, 0, 0), [])) (by decide +kernel)) (by decide) ?_
              refine q_o (mz_fe (e := (100, .lconst 0, 1, (0, 0, 0), [])) (by decide +kernel)) (pc2 := 101) (st2 := [.long 0, .int 0, .int x0, .int 10, .ref 239]) rfl ?_
              refine q_callV (N := 182) (vs := [.ref 239, .int 10, .int x0, .int 0, .long 0]) (rest := []) (L' := [some (.ref 239), some (.int x0), some (.int x1), some (.int x2), some (.int 10)]) rfl (mz_fe (e := (101, .invokevirtual 188, 172, (182, 5, 18), [])) (by decide +kernel)) rfl (mz_inv_virt (N := 182) (k := 5) (t := 18) (st := [.long 0, .int 0, .int x0, .int 10, .ref 239]) (rest := []) (b := 239) (vs := [.int 10, .int x0, .int 0, .long 0]) (h := (mz_S0, m)) rfl rfl (Nat.le_of_ble_eq_true rfl) (Nat.le_of_ble_eq_true rfl) tg_239 (by decide)) (mz_dc_lt (n := 6) rfl (by decide +kernel) (by decide +kernel)) (by decide +kernel) (by decide +kernel) (fun m627 => ?_)
              refine q_ic (v := 1) (mz_fe (e := (104, .iconst 1, 1, (0, 0, 0), [])) (by decide +kernel)) (by decide) ?_
              exact q_retI (mz_fe (e := (105, .ireturn, 1, (0, 0, 0), [])) (by decide +kernel)) (by decide +kernel)
            · refine q_bi (v := 13) (mz_fe (e := (91, .bipush 13, 2, (0, 0, 0), [])) (by decide +kernel)) (by decide) ?_
              refine q_s (mz_fe (e := (93, .istore 4, 2, (0, 0, 0), [])) (by decide +kernel)) (pc' := 95) (L' := [some (.ref 239), some (.int x0), some (.int x1), some (.int x2), some (.int 13)]) (st' := []) rfl ?_
              refine q_o (mz_fe (e := (95, .aload_n 0, 1, (0, 0, 0), [])) (by decide +kernel)) (pc2 := 96) rfl ?_
              refine q_o (mz_fe (e := (96, .iload 4, 2, (0, 0, 0), [])) (by decide +kernel)) (pc2 := 98) rfl ?_
              refine q_o (mz_fe (e := (98, .iload_n 1, 1, (0, 0, 0), [])) (by decide +kernel)) (pc2 := 99) rfl ?_
              refine q_ic (v := 0) (mz_fe (e := (99, .iconst 0, 1, (0, 0, 0), [])) (by decide +kernel)) (by decide) ?_
              refine q_o (mz_fe (e := (100, .lconst 0, 1, (0, 0, 0), [])) (by decide +kernel)) (pc2 := 101) (st2 := [.long 0, .int 0, .int x0, .int 13, .ref 239]) rfl ?_
              refine q_callV (N := 182) (vs := [.ref 239, .int 13, .int x0, .int 0, .long 0]) (rest := []) (L' := [some (.ref 239), some (.int x0), some (.int x1), some (.int x2), some (.int 13)]) rfl (mz_fe (e := (101, .invokevirtual 188, 172, (182, 5, 18), [])) (by decide +kernel)) rfl (mz_inv_virt (N := 182) (k := 5) (t := 18) (st := [.long 0, .int 0, .int x0, .int 13, .ref 239]) (rest := []) (b := 239) (vs := [.int 13, .int x0, .int 0, .long 0]) (h := (mz_S0, m)) rfl rfl (Nat.le_of_ble_eq_true rfl) (Nat.le_of_ble_eq_true rfl) tg_239 (by decide)) (mz_dc_lt (n := 6) rfl (by decide +kernel) (by decide +kernel)) (by decide +kernel) (by decide +kernel) (fun m630 => ?_)
              refine q_ic (v := 1) (mz_fe (e := (104, .iconst 1, 1, (0, 0, 0), [])) (by decide +kernel)) (by decide) ?_
              exact q_retI (mz_fe (e := (105, .ireturn, 1, (0, 0, 0), [])) (by decide +kernel)) (by decide +kernel)
          · refine q_bi (v := 15) (mz_fe (e := (81, .bipush 15, 2, (0, 0, 0), [])) (by decide +kernel)) (by decide) ?_
            refine q_s (mz_fe (e := (83, .istore 4, 2, (0, 0, 0), [])) (by decide +kernel)) (pc' := 85) (L' := [some (.ref 239), some (.int x0), some (.int x1), some (.int x2), some (.int 15)]) (st' := []) rfl ?_
            refine q_o (mz_fe (e := (85, .iload_n 2, 1, (0, 0, 0), [])) (by decide +kernel)) (pc2 := 86) rfl ?_
            refine q_bi (v := 60) (mz_fe (e := (86, .bipush 60, 2, (0, 0, 0), [])) (by decide +kernel)) (by decide) ?_
            refine q_if (c := .ne) (off := 7) (t := 95) (x := x1) (y := 60) (st := []) (mz_fe (e := (88, .if_icmp .ne 7, 3, (0, 0, 0), [])) (by decide +kernel)) (fun _ => rfl) rfl rfl rfl (fun c633 => ?_) (fun c633 => ?_)
            · refine q_o (mz_fe (e := (95, .aload_n 0, 1, (0, 0, 0), [])) (by decide +kernel)) (pc2 := 96) rfl ?_
              refine q_o (mz_fe (e := (96, .iload 4, 2, (0, 0, 0), [])) (by decide +kernel)) (pc2 := 98) rfl ?_
              refine q_o (mz_fe (e := (98, .iload_n 1, 1, (0, 0, 0), [])) (by decide +kernel)) (pc2 := 99) rfl ?_
              refine q_ic (v := 0) (mz_fe (e := (99, .iconst 0, 1, (0, 0, 0), [])) (by decide +kernel)) (by decide) ?_
              refine q_o (mz_fe (e := (100, .lconst 0, 1, (0, 0, 0), [])) (by decide +kernel)) (pc2 := 101) (st2 := [.long 0, .int 0, .int x0, .int 15, .ref 239]) rfl ?_
              refine q_callV (N := 182) (vs := [.ref 239, .int 15, .int x0, .int 0, .long 0]) (rest := []) (L' := [some (.ref 239), some (.int x0), some (.int x1), some (.int x2), some (.int 15)]) rfl (mz_fe (e := (101, .invokevirtual 188, 172, (182, 5, 18), [])) (by decide +kernel)) rfl (mz_inv_virt (N := 182) (k := 5) (t := 18) (st := [.long 0, .int 0, .int x0, .int 15, .ref 239]) (rest := []) (b := 239) (vs := [.int 15, .int x0, .int 0, .long 0]) (h := (mz_S0, m)) rfl rfl (Nat.le_of_ble_eq_true rfl) (Nat.le_of_ble_eq_true rfl) tg_239 (by decide)) (mz_dc_lt (n := 6) rfl (by decide +kernel) (by decide +kernel)) (by decide +kernel) (by decide +kernel) (fun m634 => ?_)
              refine q_ic (v := 1) (mz_fe (e := (104, .iconst 1, 1, (0, 0, 0), [])) (by decide +kernel)) (by decide) ?_
              exact q_retI (mz_fe (e := (105, .ireturn, 1, (0, 0, 0), [])) (by decide +kernel)) (by decide +kernel)
            · refine q_bi (v := 13) (mz_fe (e := (91, .bipush 13, 2, (0, 0, 0), [])) (by decide +kernel)) (by decide) ?_
              refine q_s (mz_fe (e := (93, .istore 4, 2, (0, 0, 0), [])) (by decide +kernel)) (pc' := 95) (L' := [some (.ref 239), some (.int x0), some (.int x1), some (.int x2), some (.int 13)]) (st' := []) rfl ?_
              refine q_o (mz_fe (e := (95, .aload_n 0, 1, (0, 0, 0), [])) (by decide +kernel)) (pc2 := 96) rfl ?_
              refine q_o (mz_fe (e := (96, .iload 4, 2, (0, 0, 0), [])) (by decide +kernel)) (pc2 := 98) rfl ?_
              refine q_o (mz_fe (e := (98, .iload_n 1, 1, (0, 0, 0), [])) (by decide +kernel)) (pc2 := 99) rfl ?_
              refine q_ic (v := 0) (mz_fe (e := (99, .iconst 0, 1, (0, 0, 0), [])) (by decide +kernel)) (by decide) ?_
              refine q_o (mz_fe (e := (100, .lconst 0, 1, (0, 0, 0), [])) (by decide +kernel)) (pc2 := 101) (st2 := [.long 0, .int 0, .int x0, .int 13, .ref 239]) rfl ?_
              refine q_callV (N := 182) (vs := [.ref 239, .int 13, .int x0, .int 0, .long 0]) (rest := []) (L' := [some (.ref 239), some (.int x0), some (.int x1), some (.int x2), some (.int 13)]) rfl (mz_fe (e := (101, .invokevirtual 188, 172, (182, 5, 18), [])) (by decide +kernel)) rfl (mz_inv_virt (N := 182) (k := 5) (t := 18) (st := [.long 0, .int 0, .int x0, .int 13, .ref 239]) (rest := []) (b := 239) (vs := [.int 13, .int x0, .int 0, .long 0]) (h := (mz_S0, m)) rfl rfl (Nat.le_of_ble_eq_true rfl) (Nat.le_of_ble_eq_true rfl) tg_239 (by decide)) (mz_dc_lt (n := 6) rfl (by decide +kernel) (by decide +kernel)) (by decide +kernel) (by decide +kernel) (fun m637 => ?_)
              refine q_ic (v := 1) (mz_fe (e := (104, .iconst 1, 1, (0, 0, 0), [])) (by decide +kernel)) (by decide) ?_
              exact q_retI (mz_fe (e := (105, .ireturn, 1, (0, 0, 0), [])) (by decide +kernel)) (by decide +kernel)
set_option maxRecDepth 10000 in
theorem R_X12_fail_eq (d : Nat) (x0 : Int32) (m : MzM)  : R_X12_fail d x0 m = if (mz_rd m 239 13) ≤ 0 then (mz_g (mz_ok (mz_rd (mz_wr m 239 13 x0) 239 11) 403) (some (mz_wr (mz_wr m 239 13 x0) 239 14 (mz_rd (mz_wr m 239 13 x0) 243 ((mz_rd (mz_wr m 239 13 x0) 239 11) : Int32).toNatClampNeg)))) else some m := by
  show mz_cV (mz_T d 186 0 (mz_en (mz_xl 186) [.ref 239, .int x0]) [] m) = _
  rw [show mz_en (mz_xl 186) [.ref 239, .int x0] = [some (.ref 239), some (.int x0)] from by rw [show mz_xl 186 = 2 from by decide +kernel]; rfl]
  refine q_o (mz_fe (e := (0, .aload_n 0, 1, (0, 0, 0), [])) (by decide +kernel)) (pc2 := 1) rfl ?_
  refine q_getI (mz_fe (e := (1, .getfield 203, 165, (12, 13, 0), [])) (by decide +kernel)) rfl (by decide) tg_239 (by rw [ln_239]; decide) ?_
  refine q_if (c := .le) (off := 4) (t := 8) (x := (mz_rd m 239 13)) (y := 0) (st := []) (mz_fe (e := (4, .ifCond .le 4, 3, (0, 0, 0), [])) (by decide +kernel)) (fun _ => rfl) rfl rfl rfl (fun c1 => ?_) (fun c1 => ?_)
  · refine q_o (mz_fe (e := (8, .aload_n 0, 1, (0, 0, 0), [])) (by decide +kernel)) (pc2 := 9) rfl ?_
    refine q_o (mz_fe (e := (9, .iload_n 1, 1, (0, 0, 0), [])) (by decide +kernel)) (pc2 := 10) rfl ?_
    refine q_putI (mz_fe (e := (10, .putfield 203, 165, (12, 13, 0), [])) (by decide +kernel)) rfl tg_239 (by rw [ln_239]; decide) ?_
    refine q_o (mz_fe (e := (13, .aload_n 0, 1, (0, 0, 0), [])) (by decide +kernel)) (pc2 := 14) rfl ?_
    refine q_o (mz_fe (e := (14, .aload_n 0, 1, (0, 0, 0), [])) (by decide +kernel)) (pc2 := 15) rfl ?_
    refine q_getR (b := 243) (mz_fe (e := (15, .getfield 24, 120, (12, 6, 2), [])) (by decide +kernel)) rfl tg_239 (by rw [ln_239]; decide) (mz_rfS (by decide +kernel)) ?_
    refine q_o (mz_fe (e := (18, .aload_n 0, 1, (0, 0, 0), [])) (by decide +kernel)) (pc2 := 19) rfl ?_
    refine q_getI (mz_fe (e := (19, .getfield 206, 166, (12, 11, 0), [])) (by decide +kernel)) rfl (by decide) tg_239 (by rw [ln_239]; decide) ?_
    refine q_ialdg rfl (mz_fe (e := (22, .iaload, 1, (0, 0, 0), [])) (by decide +kernel)) rfl (by decide) tg_243 ln_243 (fun g2 => ?_)
    refine q_putI (mz_fe (e := (23, .putfield 209, 167, (12, 14, 0), [])) (by decide +kernel)) rfl tg_239 (by rw [ln_239]; decide) ?_
    exact q_retV (mz_fe (e := (26, .return_, 1, (0, 0, 0), [])) (by decide +kernel)) (by decide +kernel)
  · exact q_retV (mz_fe (e := (7, .return_, 1, (0, 0, 0), [])) (by decide +kernel)) (by decide +kernel)
set_option maxRecDepth 10000 in
theorem R_X12_goesOn_eq (d : Nat)  (m : MzM)  : R_X12_goesOn d  m = if ¬ (mz_rd m 239 11) = 400 then (some (mz_wr m 239 11 ((mz_rd m 239 11) + 1))) else ((R_X12_fail d 2 m).bind (fun m2 => some m2)) := by
  show mz_cV (mz_T d 188 0 (mz_en (mz_xl 188) [.ref 239]) [] m) = _
  rw [show mz_en (mz_xl 188) [.ref 239] = [some (.ref 239)] from by rw [show mz_xl 188 = 1 from by decide +kernel]; rfl]
  refine q_o (mz_fe (e := (0, .aload_n 0, 1, (0, 0, 0), [])) (by decide +kernel)) (pc2 := 1) rfl ?_
  refine q_getI (mz_fe (e := (1, .getfield 206, 166, (12, 11, 0), [])) (by decide +kernel)) rfl (by decide) tg_239 (by rw [ln_239]; decide) ?_
  refine q_si (v := 400) (mz_fe (e := (4, .sipush 400, 3, (0, 0, 0), [])) (by decide +kernel)) (by decide) ?_
  refine q_if (c := .ne) (off := 11) (t := 18) (x := (mz_rd m 239 11)) (y := 400) (st := []) (mz_fe (e := (7, .if_icmp .ne 11, 3, (0, 0, 0), [])) (by decide +kernel)) (fun _ => rfl) rfl rfl rfl (fun c1 => ?_) (fun c1 => ?_)
  · refine q_o (mz_fe (e := (18, .aload_n 0, 1, (0, 0, 0), [])) (by decide +kernel)) (pc2 := 19) rfl ?_
    refine q_o (mz_fe (e := (19, .dup, 1, (0, 0, 0), [])) (by decide +kernel)) (pc2 := 20) rfl ?_
    refine q_getI (mz_fe (e := (20, .getfield 206, 166, (12, 11, 0), [])) (by decide +kernel)) rfl (by decide) tg_239 (by rw [ln_239]; decide) ?_
    refine q_ic (v := 1) (mz_fe (e := (23, .iconst 1, 1, (0, 0, 0), [])) (by decide +kernel)) (by decide) ?_
    refine q_o (mz_fe (e := (24, .iadd, 1, (0, 0, 0), [])) (by decide +kernel)) (pc2 := 25) rfl ?_
    refine q_putI (mz_fe (e := (25, .putfield 206, 166, (12, 11, 0), [])) (by decide +kernel)) rfl tg_239 (by rw [ln_239]; decide) ?_
    exact q_retV (mz_fe (e := (28, .return_, 1, (0, 0, 0), [])) (by decide +kernel)) (by decide +kernel)
  · refine q_o (mz_fe (e := (10, .aload_n 0, 1, (0, 0, 0), [])) (by decide +kernel)) (pc2 := 11) rfl ?_
    refine q_ic (v := 2) (mz_fe (e := (11, .iconst 2, 1, (0, 0, 0), [])) (by decide +kernel)) (by decide) ?_
    refine q_callV (N := 186) (vs := [.ref 239, .int 2]) (rest := []) (L' := [some (.ref 239)]) rfl (mz_fe (e := (12, .invokevirtual 218, 176, (186, 2, 18), [])) (by decide +kernel)) rfl (mz_inv_virt (N := 186) (k := 2) (t := 18) (st := [.int 2, .ref 239]) (rest := []) (b := 239) (vs := [.int 2]) (h := (mz_S0, m)) rfl rfl (Nat.le_of_ble_eq_true rfl) (Nat.le_of_ble_eq_true rfl) tg_239 (by decide)) (mz_dc_lt (n := 2) rfl (by decide +kernel) (by decide +kernel)) (by decide +kernel) (by decide +kernel) (fun m2 => ?_)
    refine q_o (mz_fe (e := (15, .goto 13, 3, (0, 0, 0), [])) (by decide +kernel)) (pc2 := 28) rfl ?_
    exact q_retV (mz_fe (e := (28, .return_, 1, (0, 0, 0), [])) (by decide +kernel)) (by decide +kernel)
set_option maxRecDepth 10000 in
theorem R_X12_plain_eq (d : Nat) (x0 : Int32) (m : MzM)  : R_X12_plain d x0 m = mz_g (mz_ok x0 2) (mz_g (mz_ok x0 2) (mz_g (mz_ok x0 2) (mz_g (mz_ok x0 2) (mz_g (mz_ok x0 2) (H_X12_plain_37 d x0 0 (mz_wr (mz_wr (mz_wr (mz_wr (mz_wr m 248 (x0 : Int32).toNatClampNeg 0) 250 (x0 : Int32).toNatClampNeg 0) 255 (x0 : Int32).toNatClampNeg 1) 256 (x0 : Int32).toNatClampNeg 0) 257 (x0 : Int32).toNatClampNeg 0)))))) := by
  show mz_cV (mz_T d 190 0 (mz_en (mz_xl 190) [.ref 239, .int x0]) [] m) = _
  rw [show mz_en (mz_xl 190) [.ref 239, .int x0] = [some (.ref 239), some (.int x0), none] from by rw [show mz_xl 190 = 3 from by decide +kernel]; rfl]
  refine q_o (mz_fe (e := (0, .aload_n 0, 1, (0, 0, 0), [])) (by decide +kernel)) (pc2 := 1) rfl ?_
  refine q_getR (b := 248) (mz_fe (e := (1, .getfield 43, 126, (12, 21, 2), [])) (by decide +kernel)) rfl tg_239 (by rw [ln_239]; decide) (mz_rfS (by decide +kernel)) ?_
  refine q_o (mz_fe (e := (4, .iload_n 1, 1, (0, 0, 0), [])) (by decide +kernel)) (pc2 := 5) rfl ?_
  refine q_ic (v := 0) (mz_fe (e := (5, .iconst 0, 1, (0, 0, 0), [])) (by decide +kernel)) (by decide) ?_
  refine q_stAg (f := (fun x => x)) rfl (mz_fe (e := (6, .iastore, 1, (0, 0, 0), [])) (by decide +kernel)) (fun _ => rfl) rfl tg_248 ln_248 (fun g1 => ?_)
  refine q_o (mz_fe (e := (7, .aload_n 0, 1, (0, 0, 0), [])) (by decide +kernel)) (pc2 := 8) rfl ?_
  refine q_getR (b := 250) (mz_fe (e := (8, .getfield 49, 128, (12, 23, 2), [])) (by decide +kernel)) rfl tg_239 (by rw [ln_239]; decide) (mz_rfS (by decide +kernel)) ?_
  refine q_o (mz_fe (e := (11, .iload_n 1, 1, (0, 0, 0), [])) (by decide +kernel)) (pc2 := 12) rfl ?_
  refine q_ic (v := 0) (mz_fe (e := (12, .iconst 0, 1, (0, 0, 0), [])) (by decide +kernel)) (by decide) ?_
  refine q_stAg (f := (fun x => x)) rfl (mz_fe (e := (13, .iastore, 1, (0, 0, 0), [])) (by decide +kernel)) (fun _ => rfl) rfl tg_250 ln_250 (fun g2 => ?_)
  refine q_o (mz_fe (e := (14, .aload_n 0, 1, (0, 0, 0), [])) (by decide +kernel)) (pc2 := 15) rfl ?_
  refine q_getR (b := 255) (mz_fe (e := (15, .getfield 64, 133, (12, 28, 2), [])) (by decide +kernel)) rfl tg_239 (by rw [ln_239]; decide) (mz_rfS (by decide +kernel)) ?_
  refine q_o (mz_fe (e := (18, .iload_n 1, 1, (0, 0, 0), [])) (by decide +kernel)) (pc2 := 19) rfl ?_
  refine q_ic (v := 1) (mz_fe (e := (19, .iconst 1, 1, (0, 0, 0), [])) (by decide +kernel)) (by decide) ?_
  refine q_stAg (f := (fun x => x)) rfl (mz_fe (e := (20, .iastore, 1, (0, 0, 0), [])) (by decide +kernel)) (fun _ => rfl) rfl tg_255 ln_255 (fun g3 => ?_)
  refine q_o (mz_fe (e := (21, .aload_n 0, 1, (0, 0, 0), [])) (by decide +kernel)) (pc2 := 22) rfl ?_
  refine q_getR (b := 256) (mz_fe (e := (22, .getfield 67, 134, (12, 29, 2), [])) (by decide +kernel)) rfl tg_239 (by rw [ln_239]; decide) (mz_rfS (by decide +kernel)) ?_
  refine q_o (mz_fe (e := (25, .iload_n 1, 1, (0, 0, 0), [])) (by decide +kernel)) (pc2 := 26) rfl ?_
  refine q_ic (v := 0) (mz_fe (e := (26, .iconst 0, 1, (0, 0, 0), [])) (by decide +kernel)) (by decide) ?_
  refine q_stAg (f := (fun x => x)) rfl (mz_fe (e := (27, .iastore, 1, (0, 0, 0), [])) (by decide +kernel)) (fun _ => rfl) rfl tg_256 ln_256 (fun g4 => ?_)
  refine q_o (mz_fe (e := (28, .aload_n 0, 1, (0, 0, 0), [])) (by decide +kernel)) (pc2 := 29) rfl ?_
  refine q_getR (b := 257) (mz_fe (e := (29, .getfield 70, 135, (12, 30, 2), [])) (by decide +kernel)) rfl tg_239 (by rw [ln_239]; decide) (mz_rfS (by decide +kernel)) ?_
  refine q_o (mz_fe (e := (32, .iload_n 1, 1, (0, 0, 0), [])) (by decide +kernel)) (pc2 := 33) rfl ?_
  refine q_ic (v := 0) (mz_fe (e := (33, .iconst 0, 1, (0, 0, 0), [])) (by decide +kernel)) (by decide) ?_
  refine q_stAg (f := (fun x => x)) rfl (mz_fe (e := (34, .iastore, 1, (0, 0, 0), [])) (by decide +kernel)) (fun _ => rfl) rfl tg_257 ln_257 (fun g5 => ?_)
  refine q_ic (v := 0) (mz_fe (e := (35, .iconst 0, 1, (0, 0, 0), [])) (by decide +kernel)) (by decide) ?_
  refine q_s (mz_fe (e := (36, .istore_n 2, 1, (0, 0, 0), [])) (by decide +kernel)) (pc' := 37) (L' := [some (.ref 239), some (.int x0), some (.int 0)]) (st' := []) rfl ?_
  exact congrArg mz_cV (mz_At_msk (L := [some (.ref 239), some (.int x0), some (.int 0)]) (L2 := [some (.ref 239), some (.int x0), some (.int 0)]) (mz_fe (e := (37, .iload_n 2, 1, (0, 0, 0), [true, true, true])) (by decide +kernel)) rfl rfl)
set_option maxRecDepth 10000 in
theorem H_X12_plain_37_eq (d : Nat) (y1 : Int32) (y2 : Int32) (m : MzM)  : H_X12_plain_37 d y1 y2 m = if (4 : Int32) ≤ y2 then some m else (mz_g (mz_ok (((4 : Int32) * y1) + y2) 8) (mz_g (mz_ok (((4 : Int32) * y1) + y2) 8) (H_X12_plain_37 d y1 (y2 + 1) (mz_wr (mz_wr m 258 ((((4 : Int32) * y1) + y2) : Int32).toNatClampNeg 0) 259 ((((4 : Int32) * y1) + y2) : Int32).toNatClampNeg 0)))) := by
  show mz_cV (mz_T d 190 37 [some (.ref 239), some (.int y1), some (.int y2)] [] m) = _
  refine q_s (mz_fe (e := (37, .iload_n 2, 1, (0, 0, 0), [true, true, true])) (by decide +kernel)) (pc' := 38) (L' := [some (.ref 239), some (.int y1), some (.int y2)]) (st' := [.int y2]) rfl ?_
  refine q_ic (v := 4) (mz_fe (e := (38, .iconst 4, 1, (0, 0, 0), [])) (by decide +kernel)) (by decide) ?_
  refine q_if (c := .ge) (off := 31) (t := 70) (x := y2) (y := 4) (st := []) (mz_fe (e := (39, .if_icmp .ge 31, 3, (0, 0, 0), [])) (by decide +kernel)) (fun _ => rfl) rfl rfl rfl (fun c6 => ?_) (fun c6 => ?_)
  · exact q_retV (mz_fe (e := (70, .return_, 1, (0, 0, 0), [])) (by decide +kernel)) (by decide +kernel)
  · refine q_o (mz_fe (e := (42, .aload_n 0, 1, (0, 0, 0), [])) (by decide +kernel)) (pc2 := 43) rfl ?_
    refine q_getR (b := 258) (mz_fe (e := (43, .getfield 73, 136, (12, 31, 2), [])) (by decide +kernel)) rfl tg_239 (by rw [ln_239]; decide) (mz_rfS (by decide +kernel)) ?_
    refine q_ic (v := 4) (mz_fe (e := (46, .iconst 4, 1, (0, 0, 0), [])) (by decide +kernel)) (by decide) ?_
    refine q_o (mz_fe (e := (47, .iload_n 1, 1, (0, 0, 0), [])) (by decide +kernel)) (pc2 := 48) rfl ?_
    refine q_o (mz_fe (e := (48, .imul, 1, (0, 0, 0), [])) (by decide +kernel)) (pc2 := 49) rfl ?_
    refine q_o (mz_fe (e := (49, .iload_n 2, 1, (0, 0, 0), [])) (by decide +kernel)) (pc2 := 50) rfl ?_
    refine q_o (mz_fe (e := (50, .iadd, 1, (0, 0, 0), [])) (by decide +kernel)) (pc2 := 51) rfl ?_
    refine q_ic (v := 0) (mz_fe (e := (51, .iconst 0, 1, (0, 0, 0), [])) (by decide +kernel)) (by decide) ?_
    refine q_stAg (f := (fun x => x)) rfl (mz_fe (e := (52, .iastore, 1, (0, 0, 0), [])) (by decide +kernel)) (fun _ => rfl) rfl tg_258 ln_258 (fun g7 => ?_)
    refine q_o (mz_fe (e := (53, .aload_n 0, 1, (0, 0, 0), [])) (by decide +kernel)) (pc2 := 54) rfl ?_
    refine q_getR (b := 259) (mz_fe (e := (54, .getfield 76, 137, (12, 32, 2), [])) (by decide +kernel)) rfl tg_239 (by rw [ln_239]; decide) (mz_rfS (by decide +kernel)) ?_
    refine q_ic (v := 4) (mz_fe (e := (57, .iconst 4, 1, (0, 0, 0), [])) (by decide +kernel)) (by decide) ?_
    refine q_o (mz_fe (e := (58, .iload_n 1, 1, (0, 0, 0), [])) (by decide +kernel)) (pc2 := 59) rfl ?_
    refine q_o (mz_fe (e := (59, .imul, 1, (0, 0, 0), [])) (by decide +kernel)) (pc2 := 60) rfl ?_
    refine q_o (mz_fe (e := (60, .iload_n 2, 1, (0, 0, 0), [])) (by decide +kernel)) (pc2 := 61) rfl ?_
    refine q_o (mz_fe (e := (61, .iadd, 1, (0, 0, 0), [])) (by decide +kernel)) (pc2 := 62) rfl ?_
    refine q_ic (v := 0) (mz_fe (e := (62, .iconst 0, 1, (0, 0, 0), [])) (by decide +kernel)) (by decide) ?_
    refine q_stAg (f := (fun x => x)) rfl (mz_fe (e := (63, .iastore, 1, (0, 0, 0), [])) (by decide +kernel)) (fun _ => rfl) rfl tg_259 ln_259 (fun g8 => ?_)
    refine q_iinc (v := y2) (c := 1) (L3 := [some (.ref 239), some (.int y1), some (.int (y2 + 1))]) (mz_fe (e := (64, .iinc 2 1, 3, (0, 0, 0), [])) (by decide +kernel)) rfl rfl (by decide) rfl ?_
    refine q_o (mz_fe (e := (67, .goto (-30), 3, (0, 0, 0), [])) (by decide +kernel)) (pc2 := 37) rfl ?_
    exact congrArg mz_cV (mz_At_msk (L := [some (.ref 239), some (.int y1), some (.int (y2 + 1))]) (L2 := [some (.ref 239), some (.int y1), some (.int (y2 + 1))]) (mz_fe (e := (37, .iload_n 2, 1, (0, 0, 0), [true, true, true])) (by decide +kernel)) rfl rfl)
set_option maxRecDepth 10000 in
theorem R_X12_place_eq (d : Nat)  (m : MzM)  : R_X12_place d  m = some ((mz_rd m 239 17), m) := by
  show mz_cI (mz_T d 192 0 (mz_en (mz_xl 192) [.ref 239]) [] m) = _
  rw [show mz_en (mz_xl 192) [.ref 239] = [some (.ref 239)] from by rw [show mz_xl 192 = 1 from by decide +kernel]; rfl]
  refine q_o (mz_fe (e := (0, .aload_n 0, 1, (0, 0, 0), [])) (by decide +kernel)) (pc2 := 1) rfl ?_
  refine q_getI (mz_fe (e := (1, .getfield 37, 124, (12, 17, 0), [])) (by decide +kernel)) rfl (by decide) tg_239 (by rw [ln_239]; decide) ?_
  exact q_retI (mz_fe (e := (4, .ireturn, 1, (0, 0, 0), [])) (by decide +kernel)) (by decide +kernel)
set_option maxRecDepth 10000 in
theorem R_X12_toldInt_eq (d : Nat) (x0 : Int32) (x1 : Int32) (m : MzM)  : R_X12_toldInt d x0 x1 m = (R_X12_goesOn d  m).bind (fun m1 => (R_X12_bounded d x0 x1 m1).bind (fun u6 => (R_X12_must d 4 u6.2).bind (fun m7 => some (u6.1, m7)))) := by
  show mz_cI (mz_T d 194 0 (mz_en (mz_xl 194) [.ref 239, .int x0, .int x1]) [] m) = _
  rw [show mz_en (mz_xl 194) [.ref 239, .int x0, .int x1] = [some (.ref 239), some (.int x0), some (.int x1), none] from by rw [show mz_xl 194 = 4 from by decide +kernel]; rfl]
  refine q_o (mz_fe (e := (0, .aload_n 0, 1, (0, 0, 0), [])) (by decide +kernel)) (pc2 := 1) rfl ?_
  refine q_callV (N := 188) (vs := [.ref 239]) (rest := []) (L' := [some (.ref 239), some (.int x0), some (.int x1), none]) rfl (mz_fe (e := (1, .invokevirtual 224, 178, (188, 1, 18), [])) (by decide +kernel)) rfl (mz_inv_virt (N := 188) (k := 1) (t := 18) (st := [.ref 239]) (rest := []) (b := 239) (vs := []) (h := (mz_S0, m)) rfl rfl (Nat.le_of_ble_eq_true rfl) (Nat.le_of_ble_eq_true rfl) tg_239 (by decide)) (mz_dc_lt (n := 1) rfl (by decide +kernel) (by decide +kernel)) (by decide +kernel) (by decide +kernel) (fun m1 => ?_)
  refine q_o (mz_fe (e := (4, .aload_n 0, 1, (0, 0, 0), [])) (by decide +kernel)) (pc2 := 5) rfl ?_
  refine q_o (mz_fe (e := (5, .iload_n 1, 1, (0, 0, 0), [])) (by decide +kernel)) (pc2 := 6) rfl ?_
  refine q_o (mz_fe (e := (6, .iload_n 2, 1, (0, 0, 0), [])) (by decide +kernel)) (pc2 := 7) rfl ?_
  refine q_callI (N := 197) (vs := [.ref 239, .int x0, .int x1]) (rest := []) (L' := [some (.ref 239), some (.int x0), some (.int x1), none]) (f := fun v5 m4 => (R_X12_must d 4 m4).bind (fun m7 => some (v5, m7))) rfl (mz_fe (e := (7, .invokevirtual 254, 181, (197, 3, 18), [])) (by decide +kernel)) rfl (mz_inv_virt (N := 197) (k := 3) (t := 18) (st := [.int x1, .int x0, .ref 239]) (rest := []) (b := 239) (vs := [.int x0, .int x1]) (h := (mz_S0, m1)) rfl rfl (Nat.le_of_ble_eq_true rfl) (Nat.le_of_ble_eq_true rfl) tg_239 (by decide)) (mz_dc_lt (n := 3) rfl (by decide +kernel) (by decide +kernel)) (by decide +kernel) (Or.inl (by decide +kernel)) (fun v5 m4 => ?_)
  refine q_s (mz_fe (e := (10, .istore_n 3, 1, (0, 0, 0), [])) (by decide +kernel)) (pc' := 11) (L' := [some (.ref 239), some (.int x0), some (.int x1), some (.int v5)]) (st' := []) rfl ?_
  refine q_o (mz_fe (e := (11, .aload_n 0, 1, (0, 0, 0), [])) (by decide +kernel)) (pc2 := 12) rfl ?_
  refine q_ic (v := 4) (mz_fe (e := (12, .iconst 4, 1, (0, 0, 0), [])) (by decide +kernel)) (by decide) ?_
  refine q_callV (N := 189) (vs := [.ref 239, .int 4]) (rest := []) (L' := [some (.ref 239), some (.int x0), some (.int x1), some (.int v5)]) rfl (mz_fe (e := (13, .invokevirtual 258, 182, (189, 2, 18), [])) (by decide +kernel)) rfl (mz_inv_virt (N := 189) (k := 2) (t := 18) (st := [.int 4, .ref 239]) (rest := []) (b := 239) (vs := [.int 4]) (h := (mz_S0, m4)) rfl rfl (Nat.le_of_ble_eq_true rfl) (Nat.le_of_ble_eq_true rfl) tg_239 (by decide)) (mz_dc_lt (n := 2) rfl (by decide +kernel) (by decide +kernel)) (by decide +kernel) (by decide +kernel) (fun m7 => ?_)
  refine q_o (mz_fe (e := (16, .iload_n 3, 1, (0, 0, 0), [])) (by decide +kernel)) (pc2 := 17) rfl ?_
  exact q_retI (mz_fe (e := (17, .ireturn, 1, (0, 0, 0), [])) (by decide +kernel)) (by decide +kernel)
set_option maxRecDepth 10000 in
theorem R_X12_numberOf_eq (d : Nat) (x0 : Int32) (m : MzM)  : R_X12_numberOf d x0 m = H_X12_numberOf_2 d x0 0 m := by
  show mz_cI (mz_T d 196 0 (mz_en (mz_xl 196) [.ref 239, .int x0]) [] m) = _
  rw [show mz_en (mz_xl 196) [.ref 239, .int x0] = [some (.ref 239), some (.int x0), none] from by rw [show mz_xl 196 = 3 from by decide +kernel]; rfl]
  refine q_ic (v := 0) (mz_fe (e := (0, .iconst 0, 1, (0, 0, 0), [])) (by decide +kernel)) (by decide) ?_
  refine q_s (mz_fe (e := (1, .istore_n 2, 1, (0, 0, 0), [])) (by decide +kernel)) (pc' := 2) (L' := [some (.ref 239), some (.int x0), some (.int 0)]) (st' := []) rfl ?_
  exact congrArg mz_cI (mz_At_msk (L := [some (.ref 239), some (.int x0), some (.int 0)]) (L2 := [some (.ref 239), some (.int x0), some (.int 0)]) (mz_fe (e := (2, .iload_n 2, 1, (0, 0, 0), [true, true, true])) (by decide +kernel)) rfl rfl)
set_option maxRecDepth 10000 in
theorem H_X12_numberOf_2_eq (d : Nat) (y1 : Int32) (y2 : Int32) (m : MzM)  : H_X12_numberOf_2 d y1 y2 m = mz_g (mz_ok (mz_rd m 239 19) 2) (if (mz_rd m 248 ((mz_rd m 239 19) : Int32).toNatClampNeg) ≤ y2 then (some ((-1), m)) else (mz_g (mz_ok y2 6) (mz_g (mz_ok y1 403) (if ¬ (lg_cmp (mz_rl m 247 (y2 : Int32).toNatClampNeg) (mz_rl m 245 (y1 : Int32).toNatClampNeg)) = 0 then (H_X12_numberOf_2 d y1 (y2 + 1) m) else (some (y2, m)))))) := by
  show mz_cI (mz_T d 196 2 [some (.ref 239), some (.int y1), some (.int y2)] [] m) = _
  refine q_s (mz_fe (e := (2, .iload_n 2, 1, (0, 0, 0), [true, true, true])) (by decide +kernel)) (pc' := 3) (L' := [some (.ref 239), some (.int y1), some (.int y2)]) (st' := [.int y2]) rfl ?_
  refine q_o (mz_fe (e := (3, .aload_n 0, 1, (0, 0, 0), [])) (by decide +kernel)) (pc2 := 4) rfl ?_
  refine q_getR (b := 248) (mz_fe (e := (4, .getfield 43, 126, (12, 21, 2), [])) (by decide +kernel)) rfl tg_239 (by rw [ln_239]; decide) (mz_rfS (by decide +kernel)) ?_
  refine q_o (mz_fe (e := (7, .aload_n 0, 1, (0, 0, 0), [])) (by decide +kernel)) (pc2 := 8) rfl ?_
  refine q_getI (mz_fe (e := (8, .getfield 236, 172, (12, 19, 0), [])) (by decide +kernel)) rfl (by decide) tg_239 (by rw [ln_239]; decide) ?_
  refine q_ialdg rfl (mz_fe (e := (11, .iaload, 1, (0, 0, 0), [])) (by decide +kernel)) rfl (by decide) tg_248 ln_248 (fun g1 => ?_)
  refine q_if (c := .ge) (off := 27) (t := 39) (x := y2) (y := (mz_rd m 248 ((mz_rd m 239 19) : Int32).toNatClampNeg)) (st := []) (mz_fe (e := (12, .if_icmp .ge 27, 3, (0, 0, 0), [])) (by decide +kernel)) (fun _ => rfl) rfl rfl rfl (fun c2 => ?_) (fun c2 => ?_)
  · refine q_ic (v := (-1)) (mz_fe (e := (39, .iconst (-1), 1, (0, 0, 0), [])) (by decide +kernel)) (by decide) ?_
    exact q_retI (mz_fe (e := (40, .ireturn, 1, (0, 0, 0), [])) (by decide +kernel)) (by decide +kernel)
  · refine q_o (mz_fe (e := (15, .aload_n 0, 1, (0, 0, 0), [])) (by decide +kernel)) (pc2 := 16) rfl ?_
    refine q_getR (b := 247) (mz_fe (e := (16, .getfield 40, 125, (12, 20, 2), [])) (by decide +kernel)) rfl tg_239 (by rw [ln_239]; decide) (mz_rfS (by decide +kernel)) ?_
    refine q_o (mz_fe (e := (19, .iload_n 2, 1, (0, 0, 0), [])) (by decide +kernel)) (pc2 := 20) rfl ?_
    refine q_laldg rfl (mz_fe (e := (20, .laload, 1, (0, 0, 0), [])) (by decide +kernel)) rfl tg_247 ln_247 (fun g3 => ?_)
    refine q_o (mz_fe (e := (21, .aload_n 0, 1, (0, 0, 0), [])) (by decide +kernel)) (pc2 := 22) rfl ?_
    refine q_getR (b := 245) (mz_fe (e := (22, .getfield 30, 122, (12, 8, 2), [])) (by decide +kernel)) rfl tg_239 (by rw [ln_239]; decide) (mz_rfS (by decide +kernel)) ?_
    refine q_o (mz_fe (e := (25, .iload_n 1, 1, (0, 0, 0), [])) (by decide +kernel)) (pc2 := 26) rfl ?_
    refine q_laldg rfl (mz_fe (e := (26, .laload, 1, (0, 0, 0), [])) (by decide +kernel)) rfl tg_245 ln_245 (fun g4 => ?_)
    refine q_o (mz_fe (e := (27, .lcmp, 1, (0, 0, 0), [])) (by decide +kernel)) (pc2 := 28) rfl ?_
    refine q_if (c := .ne) (off := 5) (t := 33) (x := (lg_cmp (mz_rl m 247 (y2 : Int32).toNatClampNeg) (mz_rl m 245 (y1 : Int32).toNatClampNeg))) (y := 0) (st := []) (mz_fe (e := (28, .ifCond .ne 5, 3, (0, 0, 0), [])) (by decide +kernel)) (fun _ => rfl) rfl rfl rfl (fun c5 => ?_) (fun c5 => ?_)
    · refine q_iinc (v := y2) (c := 1) (L3 := [some (.ref 239), some (.int y1), some (.int (y2 + 1))]) (mz_fe (e := (33, .iinc 2 1, 3, (0, 0, 0), [])) (by decide +kernel)) rfl rfl (by decide) rfl ?_
      refine q_o (mz_fe (e := (36, .goto (-34), 3, (0, 0, 0), [])) (by decide +kernel)) (pc2 := 2) rfl ?_
      exact congrArg mz_cI (mz_At_msk (L := [some (.ref 239), some (.int y1), some (.int (y2 + 1))]) (L2 := [some (.ref 239), some (.int y1), some (.int (y2 + 1))]) (mz_fe (e := (2, .iload_n 2, 1, (0, 0, 0), [true, true, true])) (by decide +kernel)) rfl rfl)
    · refine q_o (mz_fe (e := (31, .iload_n 2, 1, (0, 0, 0), [])) (by decide +kernel)) (pc2 := 32) rfl ?_
      exact q_retI (mz_fe (e := (32, .ireturn, 1, (0, 0, 0), [])) (by decide +kernel)) (by decide +kernel)
set_option maxRecDepth 10000 in
theorem R_X12_tellPerson_eq (d : Nat)  (m : MzM)  : R_X12_tellPerson d  m = (R_X12_must d 1 m).bind (fun m1 => if ¬ (mz_rd m1 239 13) = 0 then (H_X12_tellPerson_33 d (mz_rd m 239 11) 0 m1) else ((R_X12_numberOf d (mz_rd m 239 11) m1).bind (fun u7 => if u7.1 < 0 then (H_X12_tellPerson_33 d (mz_rd m 239 11) 0 u7.2) else ((R_X12_wrong d 3 (mz_rd m 239 11) u7.2).bind (fun m9 => H_X12_tellPerson_33 d (mz_rd m 239 11) 0 m9))))) := by
  show mz_cV (mz_T d 198 0 (mz_en (mz_xl 198) [.ref 239]) [] m) = _
  rw [show mz_en (mz_xl 198) [.ref 239] = [some (.ref 239), none, none] from by rw [show mz_xl 198 = 3 from by decide +kernel]; rfl]
  refine q_o (mz_fe (e := (0, .aload_n 0, 1, (0, 0, 0), [])) (by decide +kernel)) (pc2 := 1) rfl ?_
  refine q_getI (mz_fe (e := (1, .getfield 206, 166, (12, 11, 0), [])) (by decide +kernel)) rfl (by decide) tg_239 (by rw [ln_239]; decide) ?_
  refine q_s (mz_fe (e := (4, .istore_n 1, 1, (0, 0, 0), [])) (by decide +kernel)) (pc' := 5) (L' := [some (.ref 239), some (.int (mz_rd m 239 11)), none]) (st' := []) rfl ?_
  refine q_o (mz_fe (e := (5, .aload_n 0, 1, (0, 0, 0), [])) (by decide +kernel)) (pc2 := 6) rfl ?_
  refine q_ic (v := 1) (mz_fe (e := (6, .iconst 1, 1, (0, 0, 0), [])) (by decide +kernel)) (by decide) ?_
  refine q_callV (N := 189) (vs := [.ref 239, .int 1]) (rest := []) (L' := [some (.ref 239), some (.int (mz_rd m 239 11)), none]) rfl (mz_fe (e := (7, .invokevirtual 258, 182, (189, 2, 18), [])) (by decide +kernel)) rfl (mz_inv_virt (N := 189) (k := 2) (t := 18) (st := [.int 1, .ref 239]) (rest := []) (b := 239) (vs := [.int 1]) (h := (mz_S0, m)) rfl rfl (Nat.le_of_ble_eq_true rfl) (Nat.le_of_ble_eq_true rfl) tg_239 (by decide)) (mz_dc_lt (n := 2) rfl (by decide +kernel) (by decide +kernel)) (by decide +kernel) (by decide +kernel) (fun m1 => ?_)
  refine q_o (mz_fe (e := (10, .aload_n 0, 1, (0, 0, 0), [])) (by decide +kernel)) (pc2 := 11) rfl ?_
  refine q_getI (mz_fe (e := (11, .getfield 203, 165, (12, 13, 0), [])) (by decide +kernel)) rfl (by decide) tg_239 (by rw [ln_239]; decide) ?_
  refine q_if (c := .ne) (off := 17) (t := 31) (x := (mz_rd m1 239 13)) (y := 0) (st := []) (mz_fe (e := (14, .ifCond .ne 17, 3, (0, 0, 0), [])) (by decide +kernel)) (fun _ => rfl) rfl rfl rfl (fun c4 => ?_) (fun c4 => ?_)
  · refine q_ic (v := 0) (mz_fe (e := (31, .iconst 0, 1, (0, 0, 0), [])) (by decide +kernel)) (by decide) ?_
    refine q_s (mz_fe (e := (32, .istore_n 2, 1, (0, 0, 0), [])) (by decide +kernel)) (pc' := 33) (L' := [some (.ref 239), some (.int (mz_rd m 239 11)), some (.int 0)]) (st' := []) rfl ?_
    exact congrArg mz_cV (mz_At_msk (L := [some (.ref 239), some (.int (mz_rd m 239 11)), some (.int 0)]) (L2 := [some (.ref 239), some (.int (mz_rd m 239 11)), some (.int 0)]) (mz_fe (e := (33, .iload_n 2, 1, (0, 0, 0), [true, true, true])) (by decide +kernel)) rfl rfl)
  · refine q_o (mz_fe (e := (17, .aload_n 0, 1, (0, 0, 0), [])) (by decide +kernel)) (pc2 := 18) rfl ?_
    refine q_o (mz_fe (e := (18, .iload_n 1, 1, (0, 0, 0), [])) (by decide +kernel)) (pc2 := 19) rfl ?_
    refine q_callI (N := 196) (vs := [.ref 239, .int (mz_rd m 239 11)]) (rest := []) (L' := [some (.ref 239), some (.int (mz_rd m 239 11)), none]) (f := fun v6 m5 => if v6 < 0 then (H_X12_tellPerson_33 d (mz_rd m 239 11) 0 m5) else ((R_X12_wrong d 3 (mz_rd m 239 11) m5).bind (fun m9 => H_X12_tellPerson_33 d (mz_rd m 239 11) 0 m9))) rfl (mz_fe (e := (19, .invokevirtual 280, 189, (196, 2, 18), [])) (by decide +kernel)) rfl (mz_inv_virt (N := 196) (k := 2) (t := 18) (st := [.int (mz_rd m 239 11), .ref 239]) (rest := []) (b := 239) (vs := [.int (mz_rd m 239 11)]) (h := (mz_S0, m1)) rfl rfl (Nat.le_of_ble_eq_true rfl) (Nat.le_of_ble_eq_true rfl) tg_239 (by decide)) (mz_dc_lt (n := 2) rfl (by decide +kernel) (by decide +kernel)) (by decide +kernel) (Or.inl (by decide +kernel)) (fun v6 m5 => ?_)
    refine q_if (c := .lt) (off := 9) (t := 31) (x := v6) (y := 0) (st := []) (mz_fe (e := (22, .ifCond .lt 9, 3, (0, 0, 0), [])) (by decide +kernel)) (fun _ => rfl) rfl rfl rfl (fun c8 => ?_) (fun c8 => ?_)
    · refine q_ic (v := 0) (mz_fe (e := (31, .iconst 0, 1, (0, 0, 0), [])) (by decide +kernel)) (by decide) ?_
      refine q_s (mz_fe (e := (32, .istore_n 2, 1, (0, 0, 0), [])) (by decide +kernel)) (pc' := 33) (L' := [some (.ref 239), some (.int (mz_rd m 239 11)), some (.int 0)]) (st' := []) rfl ?_
      exact congrArg mz_cV (mz_At_msk (L := [some (.ref 239), some (.int (mz_rd m 239 11)), some (.int 0)]) (L2 := [some (.ref 239), some (.int (mz_rd m 239 11)), some (.int 0)]) (mz_fe (e := (33, .iload_n 2, 1, (0, 0, 0), [true, true, true])) (by decide +kernel)) rfl rfl)
    · refine q_o (mz_fe (e := (25, .aload_n 0, 1, (0, 0, 0), [])) (by decide +kernel)) (pc2 := 26) rfl ?_
      refine q_ic (v := 3) (mz_fe (e := (26, .iconst 3, 1, (0, 0, 0), [])) (by decide +kernel)) (by decide) ?_
      refine q_o (mz_fe (e := (27, .iload_n 1, 1, (0, 0, 0), [])) (by decide +kernel)) (pc2 := 28) rfl ?_
      refine q_callV (N := 187) (vs := [.ref 239, .int 3, .int (mz_rd m 239 11)]) (rest := []) (L' := [some (.ref 239), some (.int (mz_rd m 239 11)), none]) rfl (mz_fe (e := (28, .invokevirtual 277, 188, (187, 3, 18), [])) (by decide +kernel)) rfl (mz_inv_virt (N := 187) (k := 3) (t := 18) (st := [.int (mz_rd m 239 11), .int 3, .ref 239]) (rest := []) (b := 239) (vs := [.int 3, .int (mz_rd m 239 11)]) (h := (mz_S0, m5)) rfl rfl (Nat.le_of_ble_eq_true rfl) (Nat.le_of_ble_eq_true rfl) tg_239 (by decide)) (mz_dc_lt (n := 3) rfl (by decide +kernel) (by decide +kernel)) (by decide +kernel) (by decide +kernel) (fun m9 => ?_)
      refine q_ic (v := 0) (mz_fe (e := (31, .iconst 0, 1, (0, 0, 0), [])) (by decide +kernel)) (by decide) ?_
      refine q_s (mz_fe (e := (32, .istore_n 2, 1, (0, 0, 0), [])) (by decide +kernel)) (pc' := 33) (L' := [some (.ref 239), some (.int (mz_rd m 239 11)), some (.int 0)]) (st' := []) rfl ?_
      exact congrArg mz_cV (mz_At_msk (L := [some (.ref 239), some (.int (mz_rd m 239 11)), some (.int 0)]) (L2 := [some (.ref 239), some (.int (mz_rd m 239 11)), some (.int 0)]) (mz_fe (e := (33, .iload_n 2, 1, (0, 0, 0), [true, true, true])) (by decide +kernel)) rfl rfl)
set_option maxRecDepth 10000 in
theorem H_X12_tellPerson_33_eq (d : Nat) (y1 : Int32) (y2 : Int32) (m : MzM)  : H_X12_tellPerson_33 d y1 y2 m = if (4 : Int32) ≤ y2 then ((R_X12_must d 4 m).bind (fun m13 => if (mz_rd m13 239 13) ≤ 0 then (mz_g (mz_ok (mz_rd m13 239 19) 2) (mz_g (mz_ok y1 403) (mz_g (mz_ok (mz_rd m13 248 ((mz_rd m13 239 19) : Int32).toNatClampNeg) 6) (mz_g (mz_ok (mz_rd (mz_wl m13 247 ((mz_rd m13 248 ((mz_rd m13 239 19) : Int32).toNatClampNeg) : Int32).toNatClampNeg (mz_rl m13 245 (y1 : Int32).toNatClampNeg)) 239 19) 2) (mz_g (mz_ok (mz_rd (mz_wl m13 247 ((mz_rd m13 248 ((mz_rd m13 239 19) : Int32).toNatClampNeg) : Int32).toNatClampNeg (mz_rl m13 245 (y1 : Int32).toNatClampNeg)) 239 19) 2) (some (mz_wr (mz_wl m13 247 ((mz_rd m13 248 ((mz_rd m13 239 19) : Int32).toNatClampNeg) : Int32).toNatClampNeg (mz_rl m13 245 (y1 : Int32).toNatClampNeg)) 248 ((mz_rd (mz_wl m13 247 ((mz_rd m13 248 ((mz_rd m13 239 19) : Int32).toNatClampNeg) : Int32).toNatClampNeg (mz_rl m13 245 (y1 : Int32).toNatClampNeg)) 239 19) : Int32).toNatClampNeg ((mz_rd (mz_wl m13 247 ((mz_rd m13 248 ((mz_rd m13 239 19) : Int32).toNatClampNeg) : Int32).toNatClampNeg (mz_rl m13 245 (y1 : Int32).toNatClampNeg)) 248 ((mz_rd (mz_wl m13 247 ((mz_rd m13 248 ((mz_rd m13 239 19) : Int32).toNatClampNeg) : Int32).toNatClampNeg (mz_rl m13 245 (y1 : Int32).toNatClampNeg)) 239 19) : Int32).toNatClampNeg) + 1)))))))) else some m13)) else (mz_g (mz_ok (mz_rd m 239 19) 2) ((R_X12_bounded d 0 99 m).bind (fun u25 => mz_g (mz_ok ((((24 : Int32) * (mz_rd m 239 19)) + ((4 : Int32) * (mz_rd m 248 ((mz_rd m 239 19) : Int32).toNatClampNeg))) + y2) 48) (H_X12_tellPerson_33 d y1 (y2 + 1) (mz_wr u25.2 249 (((((24 : Int32) * (mz_rd m 239 19)) + ((4 : Int32) * (mz_rd m 248 ((mz_rd m 239 19) : Int32).toNatClampNeg))) + y2) : Int32).toNatClampNeg u25.1))))) := by
  show mz_cV (mz_T d 198 33 [some (.ref 239), some (.int y1), some (.int y2)] [] m) = _
  refine q_s (mz_fe (e := (33, .iload_n 2, 1, (0, 0, 0), [true, true, true])) (by decide +kernel)) (pc' := 34) (L' := [some (.ref 239), some (.int y1), some (.int y2)]) (st' := [.int y2]) rfl ?_
  refine q_ic (v := 4) (mz_fe (e := (34, .iconst 4, 1, (0, 0, 0), [])) (by decide +kernel)) (by decide) ?_
  refine q_if (c := .ge) (off := 42) (t := 77) (x := y2) (y := 4) (st := []) (mz_fe (e := (35, .if_icmp .ge 42, 3, (0, 0, 0), [])) (by decide +kernel)) (fun _ => rfl) rfl rfl rfl (fun c12 => ?_) (fun c12 => ?_)
  · refine q_o (mz_fe (e := (77, .aload_n 0, 1, (0, 0, 0), [])) (by decide +kernel)) (pc2 := 78) rfl ?_
    refine q_ic (v := 4) (mz_fe (e := (78, .iconst 4, 1, (0, 0, 0), [])) (by decide +kernel)) (by decide) ?_
    refine q_callV (N := 189) (vs := [.ref 239, .int 4]) (rest := []) (L' := [some (.ref 239), some (.int y1), some (.int y2)]) rfl (mz_fe (e := (79, .invokevirtual 258, 182, (189, 2, 18), [])) (by decide +kernel)) rfl (mz_inv_virt (N := 189) (k := 2) (t := 18) (st := [.int 4, .ref 239]) (rest := []) (b := 239) (vs := [.int 4]) (h := (mz_S0, m)) rfl rfl (Nat.le_of_ble_eq_true rfl) (Nat.le_of_ble_eq_true rfl) tg_239 (by decide)) (mz_dc_lt (n := 2) rfl (by decide +kernel) (by decide +kernel)) (by decide +kernel) (by decide +kernel) (fun m13 => ?_)
    refine q_o (mz_fe (e := (82, .aload_n 0, 1, (0, 0, 0), [])) (by decide +kernel)) (pc2 := 83) rfl ?_
    refine q_getI (mz_fe (e := (83, .getfield 203, 165, (12, 13, 0), [])) (by decide +kernel)) rfl (by decide) tg_239 (by rw [ln_239]; decide) ?_
    refine q_if (c := .le) (off := 4) (t := 90) (x := (mz_rd m13 239 13)) (y := 0) (st := []) (mz_fe (e := (86, .ifCond .le 4, 3, (0, 0, 0), [])) (by decide +kernel)) (fun _ => rfl) rfl rfl rfl (fun c16 => ?_) (fun c16 => ?_)
    · refine q_o (mz_fe (e := (90, .aload_n 0, 1, (0, 0, 0), [])) (by decide +kernel)) (pc2 := 91) rfl ?_
      refine q_getR (b := 247) (mz_fe (e := (91, .getfield 40, 125, (12, 20, 2), [])) (by decide +kernel)) rfl tg_239 (by rw [ln_239]; decide) (mz_rfS (by decide +kernel)) ?_
      refine q_o (mz_fe (e := (94, .aload_n 0, 1, (0, 0, 0), [])) (by decide +kernel)) (pc2 := 95) rfl ?_
      refine q_getR (b := 248) (mz_fe (e := (95, .getfield 43, 126, (12, 21, 2), [])) (by decide +kernel)) rfl tg_239 (by rw [ln_239]; decide) (mz_rfS (by decide +kernel)) ?_
      refine q_o (mz_fe (e := (98, .aload_n 0, 1, (0, 0, 0), [])) (by decide +kernel)) (pc2 := 99) rfl ?_
      refine q_getI (mz_fe (e := (99, .getfield 236, 172, (12, 19, 0), [])) (by decide +kernel)) rfl (by decide) tg_239 (by rw [ln_239]; decide) ?_
      refine q_ialdg rfl (mz_fe (e := (102, .iaload, 1, (0, 0, 0), [])) (by decide +kernel)) rfl (by decide) tg_248 ln_248 (fun g17 => ?_)
      refine q_o (mz_fe (e := (103, .aload_n 0, 1, (0, 0, 0), [])) (by decide +kernel)) (pc2 := 104) rfl ?_
      refine q_getR (b := 245) (mz_fe (e := (104, .getfield 30, 122, (12, 8, 2), [])) (by decide +kernel)) rfl tg_239 (by rw [ln_239]; decide) (mz_rfS (by decide +kernel)) ?_
      refine q_o (mz_fe (e := (107, .iload_n 1, 1, (0, 0, 0), [])) (by decide +kernel)) (pc2 := 108) rfl ?_
      refine q_laldg rfl (mz_fe (e := (108, .laload, 1, (0, 0, 0), [])) (by decide +kernel)) rfl tg_245 ln_245 (fun g18 => ?_)
      refine q_lastg rfl (mz_fe (e := (109, .lastore, 1, (0, 0, 0), [])) (by decide +kernel)) rfl tg_247 ln_247 (fun g19 => ?_)
      refine q_o (mz_fe (e := (110, .aload_n 0, 1, (0, 0, 0), [])) (by decide +kernel)) (pc2 := 111) rfl ?_
      refine q_getR (b := 248) (mz_fe (e := (111, .getfield 43, 126, (12, 21, 2), [])) (by decide +kernel)) rfl tg_239 (by rw [ln_239]; decide) (mz_rfS (by decide +kernel)) ?_
      refine q_o (mz_fe (e := (114, .aload_n 0, 1, (0, 0, 0), [])) (by decide +kernel)) (pc2 := 115) rfl ?_
      refine q_getI (mz_fe (e := (115, .getfield 236, 172, (12, 19, 0), [])) (by decide +kernel)) rfl (by decide) tg_239 (by rw [ln_239]; decide) ?_
      refine q_o (mz_fe (e := (118, .dup2, 1, (0, 0, 0), [])) (by decide +kernel)) (pc2 := 119) rfl ?_
      refine q_ialdg rfl (mz_fe (e := (119, .iaload, 1, (0, 0, 0), [])) (by decide +kernel)) rfl (by decide) tg_248 ln_248 (fun g20 => ?_)
      refine q_ic (v := 1) (mz_fe (e := (120, .iconst 1, 1, (0, 0, 0), [])) (by decide +kernel)) (by decide) ?_
      refine q_o (mz_fe (e := (121, .iadd, 1, (0, 0, 0), [])) (by decide +kernel)) (pc2 := 122) rfl ?_
      refine q_stAg (f := (fun x => x)) rfl (mz_fe (e := (122, .iastore, 1, (0, 0, 0), [])) (by decide +kernel)) (fun _ => rfl) rfl tg_248 ln_248 (fun g21 => ?_)
      exact q_retV (mz_fe (e := (123, .return_, 1, (0, 0, 0), [])) (by decide +kernel)) (by decide +kernel)
    · exact q_retV (mz_fe (e := (89, .return_, 1, (0, 0, 0), [])) (by decide +kernel)) (by decide +kernel)
  · refine q_o (mz_fe (e := (38, .aload_n 0, 1, (0, 0, 0), [])) (by decide +kernel)) (pc2 := 39) rfl ?_
    refine q_getR (b := 249) (mz_fe (e := (39, .getfield 46, 127, (12, 22, 2), [])) (by decide +kernel)) rfl tg_239 (by rw [ln_239]; decide) (mz_rfS (by decide +kernel)) ?_
    refine q_bi (v := 24) (mz_fe (e := (42, .bipush 24, 2, (0, 0, 0), [])) (by decide +kernel)) (by decide) ?_
    refine q_o (mz_fe (e := (44, .aload_n 0, 1, (0, 0, 0), [])) (by decide +kernel)) (pc2 := 45) rfl ?_
    refine q_getI (mz_fe (e := (45, .getfield 236, 172, (12, 19, 0), [])) (by decide +kernel)) rfl (by decide) tg_239 (by rw [ln_239]; decide) ?_
    refine q_o (mz_fe (e := (48, .imul, 1, (0, 0, 0), [])) (by decide +kernel)) (pc2 := 49) rfl ?_
    refine q_ic (v := 4) (mz_fe (e := (49, .iconst 4, 1, (0, 0, 0), [])) (by decide +kernel)) (by decide) ?_
    refine q_o (mz_fe (e := (50, .aload_n 0, 1, (0, 0, 0), [])) (by decide +kernel)) (pc2 := 51) rfl ?_
    refine q_getR (b := 248) (mz_fe (e := (51, .getfield 43, 126, (12, 21, 2), [])) (by decide +kernel)) rfl tg_239 (by rw [ln_239]; decide) (mz_rfS (by decide +kernel)) ?_
    refine q_o (mz_fe (e := (54, .aload_n 0, 1, (0, 0, 0), [])) (by decide +kernel)) (pc2 := 55) rfl ?_
    refine q_getI (mz_fe (e := (55, .getfield 236, 172, (12, 19, 0), [])) (by decide +kernel)) rfl (by decide) tg_239 (by rw [ln_239]; decide) ?_
    refine q_ialdg rfl (mz_fe (e := (58, .iaload, 1, (0, 0, 0), [])) (by decide +kernel)) rfl (by decide) tg_248 ln_248 (fun g22 => ?_)
    refine q_o (mz_fe (e := (59, .imul, 1, (0, 0, 0), [])) (by decide +kernel)) (pc2 := 60) rfl ?_
    refine q_o (mz_fe (e := (60, .iadd, 1, (0, 0, 0), [])) (by decide +kernel)) (pc2 := 61) rfl ?_
    refine q_o (mz_fe (e := (61, .iload_n 2, 1, (0, 0, 0), [])) (by decide +kernel)) (pc2 := 62) rfl ?_
    refine q_o (mz_fe (e := (62, .iadd, 1, (0, 0, 0), [])) (by decide +kernel)) (pc2 := 63) rfl ?_
    refine q_o (mz_fe (e := (63, .aload_n 0, 1, (0, 0, 0), [])) (by decide +kernel)) (pc2 := 64) rfl ?_
    refine q_ic (v := 0) (mz_fe (e := (64, .iconst 0, 1, (0, 0, 0), [])) (by decide +kernel)) (by decide) ?_
    refine q_bi (v := 99) (mz_fe (e := (65, .bipush 99, 2, (0, 0, 0), [])) (by decide +kernel)) (by decide) ?_
    refine q_callI (N := 197) (vs := [.ref 239, .int 0, .int 99]) (rest := [.int ((((24 : Int32) * (mz_rd m 239 19)) + ((4 : Int32) * (mz_rd m 248 ((mz_rd m 239 19) : Int32).toNatClampNeg))) + y2), .ref 249]) (L' := [some (.ref 239), some (.int y1), some (.int y2)]) (f := fun v24 m23 => mz_g (mz_ok ((((24 : Int32) * (mz_rd m 239 19)) + ((4 : Int32) * (mz_rd m 248 ((mz_rd m 239 19) : Int32).toNatClampNeg))) + y2) 48) (H_X12_tellPerson_33 d y1 (y2 + 1) (mz_wr m23 249 (((((24 : Int32) * (mz_rd m 239 19)) + ((4 : Int32) * (mz_rd m 248 ((mz_rd m 239 19) : Int32).toNatClampNeg))) + y2) : Int32).toNatClampNeg v24))) rfl (mz_fe (e := (67, .invokevirtual 254, 181, (197, 3, 18), [])) (by decide +kernel)) rfl (mz_inv_virt (N := 197) (k := 3) (t := 18) (st := [.int 99, .int 0, .ref 239, .int ((((24 : Int32) * (mz_rd m 239 19)) + ((4 : Int32) * (mz_rd m 248 ((mz_rd m 239 19) : Int32).toNatClampNeg))) + y2), .ref 249]) (rest := [.int ((((24 : Int32) * (mz_rd m 239 19)) + ((4 : Int32) * (mz_rd m 248 ((mz_rd m 239 19) : Int32).toNatClampNeg))) + y2), .ref 249]) (b := 239) (vs := [.int 0, .int 99]) (h := (mz_S0, m)) rfl rfl (Nat.le_of_ble_eq_true rfl) (Nat.le_of_ble_eq_true rfl) tg_239 (by decide)) (mz_dc_lt (n := 3) rfl (by decide +kernel) (by decide +kernel)) (by decide +kernel) (Or.inl (by decide +kernel)) (fun v24 m23 => ?_)
    refine q_stAg (f := (fun x => x)) rfl (mz_fe (e := (70, .iastore, 1, (0, 0, 0), [])) (by decide +kernel)) (fun _ => rfl) rfl tg_249 ln_249 (fun g26 => ?_)
    refine q_iinc (v := y2) (c := 1) (L3 := [some (.ref 239), some (.int y1), some (.int (y2 + 1))]) (mz_fe (e := (71, .iinc 2 1, 3, (0, 0, 0), [])) (by decide +kernel)) rfl rfl (by decide) rfl ?_
    refine q_o (mz_fe (e := (74, .goto (-41), 3, (0, 0, 0), [])) (by decide +kernel)) (pc2 := 33) rfl ?_
    exact congrArg mz_cV (mz_At_msk (L := [some (.ref 239), some (.int y1), some (.int (y2 + 1))]) (L2 := [some (.ref 239), some (.int y1), some (.int (y2 + 1))]) (mz_fe (e := (33, .iload_n 2, 1, (0, 0, 0), [true, true, true])) (by decide +kernel)) rfl rfl)
set_option maxRecDepth 10000 in
theorem R_X12_tellSuit_eq (d : Nat)  (m : MzM)  : R_X12_tellSuit d  m = mz_g (mz_ok (mz_rd m 239 19) 2) ((R_X12_known d  m).bind (fun u4 => mz_g (mz_ok (((8 : Int32) * (mz_rd m 239 19)) + (mz_rd m 250 ((mz_rd m 239 19) : Int32).toNatClampNeg)) 16) ((R_X12_known d  (mz_wr u4.2 251 ((((8 : Int32) * (mz_rd m 239 19)) + (mz_rd m 250 ((mz_rd m 239 19) : Int32).toNatClampNeg)) : Int32).toNatClampNeg u4.1)).bind (fun u8 => mz_g (mz_ok (((8 : Int32) * (mz_rd m 239 19)) + (mz_rd m 250 ((mz_rd m 239 19) : Int32).toNatClampNeg)) 16) (if ¬ (mz_rd (mz_wr u8.2 252 ((((8 : Int32) * (mz_rd m 239 19)) + (mz_rd m 250 ((mz_rd m 239 19) : Int32).toNatClampNeg)) : Int32).toNatClampNeg u8.1) 239 13) = 0 then ((R_X12_bounded d 1 30 (mz_wr u8.2 252 ((((8 : Int32) * (mz_rd m 239 19)) + (mz_rd m 250 ((mz_rd m 239 19) : Int32).toNatClampNeg)) : Int32).toNatClampNeg u8.1)).bind (fun u13 => mz_g (mz_ok (((8 : Int32) * (mz_rd m 239 19)) + (mz_rd m 250 ((mz_rd m 239 19) : Int32).toNatClampNeg)) 16) ((R_X12_bounded d 0 29 (mz_wr u13.2 253 ((((8 : Int32) * (mz_rd m 239 19)) + (mz_rd m 250 ((mz_rd m 239 19) : Int32).toNatClampNeg)) : Int32).toNatClampNeg u13.1)).bind (fun u17 => mz_g (mz_ok (((8 : Int32) * (mz_rd m 239 19)) + (mz_rd m 250 ((mz_rd m 239 19) : Int32).toNatClampNeg)) 16) ((R_X12_must d 4 (mz_wr u17.2 254 ((((8 : Int32) * (mz_rd m 239 19)) + (mz_rd m 250 ((mz_rd m 239 19) : Int32).toNatClampNeg)) : Int32).toNatClampNeg u17.1)).bind (fun m19 => if ¬ (mz_rd m19 239 13) = 0 then some m19 else (mz_g (mz_ok (mz_rd m19 239 19) 2) (mz_g (mz_ok (mz_rd m19 239 19) 2) (some (mz_wr m19 250 ((mz_rd m19 239 19) : Int32).toNatClampNeg ((mz_rd m19 250 ((mz_rd m19 239 19) : Int32).toNatClampNeg) + 1))))))))))) else (mz_g (mz_ok (((8 : Int32) * (mz_rd m 239 19)) + (mz_rd m 250 ((mz_rd m 239 19) : Int32).toNatClampNeg)) 16) (if (mz_rd (mz_wr u8.2 252 ((((8 : Int32) * (mz_rd m 239 19)) + (mz_rd m 250 ((mz_rd m 239 19) : Int32).toNatClampNeg)) : Int32).toNatClampNeg u8.1) 251 ((((8 : Int32) * (mz_rd m 239 19)) + (mz_rd m 250 ((mz_rd m 239 19) : Int32).toNatClampNeg)) : Int32).toNatClampNeg) < 0 then ((R_X12_bounded d 1 30 (mz_wr u8.2 252 ((((8 : Int32) * (mz_rd m 239 19)) + (mz_rd m 250 ((mz_rd m 239 19) : Int32).toNatClampNeg)) : Int32).toNatClampNeg u8.1)).bind (fun u29 => mz_g (mz_ok (((8 : Int32) * (mz_rd m 239 19)) + (mz_rd m 250 ((mz_rd m 239 19) : Int32).toNatClampNeg)) 16) ((R_X12_bounded d 0 29 (mz_wr u29.2 253 ((((8 : Int32) * (mz_rd m 239 19)) + (mz_rd m 250 ((mz_rd m 239 19) : Int32).toNatClampNeg)) : Int32).toNatClampNeg u29.1)).bind (fun u33 => mz_g (mz_ok (((8 : Int32) * (mz_rd m 239 19)) + (mz_rd m 250 ((mz_rd m 239 19) : Int32).toNatClampNeg)) 16) ((R_X12_must d 4 (mz_wr u33.2 254 ((((8 : Int32) * (mz_rd m 239 19)) + (mz_rd m 250 ((mz_rd m 239 19) : Int32).toNatClampNeg)) : Int32).toNatClampNeg u33.1)).bind (fun m35 => if ¬ (mz_rd m35 239 13) = 0 then some m35 else (mz_g (mz_ok (mz_rd m35 239 19) 2) (mz_g (mz_ok (mz_rd m35 239 19) 2) (some (mz_wr m35 250 ((mz_rd m35 239 19) : Int32).toNatClampNeg ((mz_rd m35 250 ((mz_rd m35 239 19) : Int32).toNatClampNeg) + 1))))))))))) else (mz_g (mz_ok (((8 : Int32) * (mz_rd m 239 19)) + (mz_rd m 250 ((mz_rd m 239 19) : Int32).toNatClampNeg)) 16) (mz_g (mz_ok (((8 : Int32) * (mz_rd m 239 19)) + (mz_rd m 250 ((mz_rd m 239 19) : Int32).toNatClampNeg)) 16) (if ¬ (mz_rd (mz_wr u8.2 252 ((((8 : Int32) * (mz_rd m 239 19)) + (mz_rd m 250 ((mz_rd m 239 19) : Int32).toNatClampNeg)) : Int32).toNatClampNeg u8.1) 251 ((((8 : Int32) * (mz_rd m 239 19)) + (mz_rd m 250 ((mz_rd m 239 19) : Int32).toNatClampNeg)) : Int32).toNatClampNeg) = (mz_rd (mz_wr u8.2 252 ((((8 : Int32) * (mz_rd m 239 19)) + (mz_rd m 250 ((mz_rd m 239 19) : Int32).toNatClampNeg)) : Int32).toNatClampNeg u8.1) 252 ((((8 : Int32) * (mz_rd m 239 19)) + (mz_rd m 250 ((mz_rd m 239 19) : Int32).toNatClampNeg)) : Int32).toNatClampNeg) then ((R_X12_bounded d 1 30 (mz_wr u8.2 252 ((((8 : Int32) * (mz_rd m 239 19)) + (mz_rd m 250 ((mz_rd m 239 19) : Int32).toNatClampNeg)) : Int32).toNatClampNeg u8.1)).bind (fun u46 => mz_g (mz_ok (((8 : Int32) * (mz_rd m 239 19)) + (mz_rd m 250 ((mz_rd m 239 19) : Int32).toNatClampNeg)) 16) ((R_X12_bounded d 0 29 (mz_wr u46.2 253 ((((8 : Int32) * (mz_rd m 239 19)) + (mz_rd m 250 ((mz_rd m 239 19) : Int32).toNatClampNeg)) : Int32).toNatClampNeg u46.1)).bind (fun u50 => mz_g (mz_ok (((8 : Int32) * (mz_rd m 239 19)) + (mz_rd m 250 ((mz_rd m 239 19) : Int32).toNatClampNeg)) 16) ((R_X12_must d 4 (mz_wr u50.2 254 ((((8 : Int32) * (mz_rd m 239 19)) + (mz_rd m 250 ((mz_rd m 239 19) : Int32).toNatClampNeg)) : Int32).toNatClampNeg u50.1)).bind (fun m52 => if ¬ (mz_rd m52 239 13) = 0 then some m52 else (mz_g (mz_ok (mz_rd m52 239 19) 2) (mz_g (mz_ok (mz_rd m52 239 19) 2) (some (mz_wr m52 250 ((mz_rd m52 239 19) : Int32).toNatClampNeg ((mz_rd m52 250 ((mz_rd m52 239 19) : Int32).toNatClampNeg) + 1))))))))))) else ((R_X12_wrong d 3 (mz_rd (mz_wr u4.2 251 ((((8 : Int32) * (mz_rd m 239 19)) + (mz_rd m 250 ((mz_rd m 239 19) : Int32).toNatClampNeg)) : Int32).toNatClampNeg u4.1) 239 11) (mz_wr u8.2 252 ((((8 : Int32) * (mz_rd m 239 19)) + (mz_rd m 250 ((mz_rd m 239 19) : Int32).toNatClampNeg)) : Int32).toNatClampNeg u8.1)).bind (fun m58 => (R_X12_bounded d 1 30 m58).bind (fun u63 => mz_g (mz_ok (((8 : Int32) * (mz_rd m 239 19)) + (mz_rd m 250 ((mz_rd m 239 19) : Int32).toNatClampNeg)) 16) ((R_X12_bounded d 0 29 (mz_wr u63.2 253 ((((8 : Int32) * (mz_rd m 239 19)) + (mz_rd m 250 ((mz_rd m 239 19) : Int32).toNatClampNeg)) : Int32).toNatClampNeg u63.1)).bind (fun u67 => mz_g (mz_ok (((8 : Int32) * (mz_rd m 239 19)) + (mz_rd m 250 ((mz_rd m 239 19) : Int32).toNatClampNeg)) 16) ((R_X12_must d 4 (mz_wr u67.2 254 ((((8 : Int32) * (mz_rd m 239 19)) + (mz_rd m 250 ((mz_rd m 239 19) : Int32).toNatClampNeg)) : Int32).toNatClampNeg u67.1)).bind (fun m69 => if ¬ (mz_rd m69 239 13) = 0 then some m69 else (mz_g (mz_ok (mz_rd m69 239 19) 2) (mz_g (mz_ok (mz_rd m69 239 19) 2) (some (mz_wr m69 250 ((mz_rd m69 239 19) : Int32).toNatClampNeg ((mz_rd m69 250 ((mz_rd m69 239 19) : Int32).toNatClampNeg) + 1)))))))))))))))))))))) := by
  show mz_cV (mz_T d 200 0 (mz_en (mz_xl 200) [.ref 239]) [] m) = _
  rw [show mz_en (mz_xl 200) [.ref 239] = [some (.ref 239), none, none] from by rw [show mz_xl 200 = 3 from by decide +kernel]; rfl]
  refine q_bi (v := 8) (mz_fe (e := (0, .bipush 8, 2, (0, 0, 0), [])) (by decide +kernel)) (by decide) ?_
  refine q_o (mz_fe (e := (2, .aload_n 0, 1, (0, 0, 0), [])) (by decide +kernel)) (pc2 := 3) rfl ?_
  refine q_getI (mz_fe (e := (3, .getfield 236, 172, (12, 19, 0), [])) (by decide +kernel)) rfl (by decide) tg_239 (by rw [ln_239]; decide) ?_
  refine q_o (mz_fe (e := (6, .imul, 1, (0, 0, 0), [])) (by decide +kernel)) (pc2 := 7) rfl ?_
  refine q_o (mz_fe (e := (7, .aload_n 0, 1, (0, 0, 0), [])) (by decide +kernel)) (pc2 := 8) rfl ?_
  refine q_getR (b := 250) (mz_fe (e := (8, .getfield 49, 128, (12, 23, 2), [])) (by decide +kernel)) rfl tg_239 (by rw [ln_239]; decide) (mz_rfS (by decide +kernel)) ?_
  refine q_o (mz_fe (e := (11, .aload_n 0, 1, (0, 0, 0), [])) (by decide +kernel)) (pc2 := 12) rfl ?_
  refine q_getI (mz_fe (e := (12, .getfield 236, 172, (12, 19, 0), [])) (by decide +kernel)) rfl (by decide) tg_239 (by rw [ln_239]; decide) ?_
  refine q_ialdg rfl (mz_fe (e := (15, .iaload, 1, (0, 0, 0), [])) (by decide +kernel)) rfl (by decide) tg_250 ln_250 (fun g1 => ?_)
  refine q_o (mz_fe (e := (16, .iadd, 1, (0, 0, 0), [])) (by decide +kernel)) (pc2 := 17) rfl ?_
  refine q_s (mz_fe (e := (17, .istore_n 1, 1, (0, 0, 0), [])) (by decide +kernel)) (pc' := 18) (L' := [some (.ref 239), some (.int (((8 : Int32) * (mz_rd m 239 19)) + (mz_rd m 250 ((mz_rd m 239 19) : Int32).toNatClampNeg))), none]) (st' := []) rfl ?_
  refine q_o (mz_fe (e := (18, .aload_n 0, 1, (0, 0, 0), [])) (by decide +kernel)) (pc2 := 19) rfl ?_
  refine q_getR (b := 251) (mz_fe (e := (19, .getfield 52, 129, (12, 24, 2), [])) (by decide +kernel)) rfl tg_239 (by rw [ln_239]; decide) (mz_rfS (by decide +kernel)) ?_
  refine q_o (mz_fe (e := (22, .iload_n 1, 1, (0, 0, 0), [])) (by decide +kernel)) (pc2 := 23) rfl ?_
  refine q_o (mz_fe (e := (23, .aload_n 0, 1, (0, 0, 0), [])) (by decide +kernel)) (pc2 := 24) rfl ?_
  refine q_callI (N := 199) (vs := [.ref 239]) (rest := [.int (((8 : Int32) * (mz_rd m 239 19)) + (mz_rd m 250 ((mz_rd m 239 19) : Int32).toNatClampNeg)), .ref 251]) (L' := [some (.ref 239), some (.int (((8 : Int32) * (mz_rd m 239 19)) + (mz_rd m 250 ((mz_rd m 239 19) : Int32).toNatClampNeg))), none]) (f := fun v3 m2 => mz_g (mz_ok (((8 : Int32) * (mz_rd m 239 19)) + (mz_rd m 250 ((mz_rd m 239 19) : Int32).toNatClampNeg)) 16) ((R_X12_known d  (mz_wr m2 251 ((((8 : Int32) * (mz_rd m 239 19)) + (mz_rd m 250 ((mz_rd m 239 19) : Int32).toNatClampNeg)) : Int32).toNatClampNeg v3)).bind (fun u8 => mz_g (mz_ok (((8 : Int32) * (mz_rd m 239 19)) + (mz_rd m 250 ((mz_rd m 239 19) : Int32).toNatClampNeg)) 16) (if ¬ (mz_rd (mz_wr u8.2 252 ((((8 : Int32) * (mz_rd m 239 19)) + (mz_rd m 250 ((mz_rd m 239 19) : Int32).toNatClampNeg)) : Int32).toNatClampNeg u8.1) 239 13) = 0 then ((R_X12_bounded d 1 30 (mz_wr u8.2 252 ((((8 : Int32) * (mz_rd m 239 19)) + (mz_rd m 250 ((mz_rd m 239 19) : Int32).toNatClampNeg)) : Int32).toNatClampNeg u8.1)).bind (fun u13 => mz_g (mz_ok (((8 : Int32) * (mz_rd m 239 19)) + (mz_rd m 250 ((mz_rd m 239 19) : Int32).toNatClampNeg)) 16) ((R_X12_bounded d 0 29 (mz_wr u13.2 253 ((((8 : Int32) * (mz_rd m 239 19)) + (mz_rd m 250 ((mz_rd m 239 19) : Int32).toNatClampNeg)) : Int32).toNatClampNeg u13.1)).bind (fun u17 => mz_g (mz_ok (((8 : Int32) * (mz_rd m 239 19)) + (mz_rd m 250 ((mz_rd m 239 19) : Int32).toNatClampNeg)) 16) ((R_X12_must d 4 (mz_wr u17.2 254 ((((8 : Int32) * (mz_rd m 239 19)) + (mz_rd m 250 ((mz_rd m 239 19) : Int32).toNatClampNeg)) : Int32).toNatClampNeg u17.1)).bind (fun m19 => if ¬ (mz_rd m19 239 13) = 0 then some m19 else (mz_g (mz_ok (mz_rd m19 239 19) 2) (mz_g (mz_ok (mz_rd m19 239 19) 2) (some (mz_wr m19 250 ((mz_rd m19 239 19) : Int32).toNatClampNeg ((mz_rd m19 250 ((mz_rd m19 239 19) : Int32).toNatClampNeg) + 1))))))))))) else (mz_g (mz_ok (((8 : Int32) * (mz_rd m 239 19)) + (mz_rd m 250 ((mz_rd m 239 19) : Int32).toNatClampNeg)) 16) (if (mz_rd (mz_wr u8.2 252 ((((8 : Int32) * (mz_rd m 239 19)) + (mz_rd m 250 ((mz_rd m 239 19) : Int32).toNatClampNeg)) : Int32).toNatClampNeg u8.1) 251 ((((8 : Int32) * (mz_rd m 239 19)) + (mz_rd m 250 ((mz_rd m 239 19) : Int32).toNatClampNeg)) : Int32).toNatClampNeg) < 0 then ((R_X12_bounded d 1 30 (mz_wr u8.2 252 ((((8 : Int32) * (mz_rd m 239 19)) + (mz_rd m 250 ((mz_rd m 239 19) : Int32).toNatClampNeg)) : Int32).toNatClampNeg u8.1)).bind (fun u29 => mz_g (mz_ok (((8 : Int32) * (mz_rd m 239 19)) + (mz_rd m 250 ((mz_rd m 239 19) : Int32).toNatClampNeg)) 16) ((R_X12_bounded d 0 29 (mz_wr u29.2 253 ((((8 : Int32) * (mz_rd m 239 19)) + (mz_rd m 250 ((mz_rd m 239 19) : Int32).toNatClampNeg)) : Int32).toNatClampNeg u29.1)).bind (fun u33 => mz_g (mz_ok (((8 : Int32) * (mz_rd m 239 19)) + (mz_rd m 250 ((mz_rd m 239 19) : Int32).toNatClampNeg)) 16) ((R_X12_must d 4 (mz_wr u33.2 254 ((((8 : Int32) * (mz_rd m 239 19)) + (mz_rd m 250 ((mz_rd m 239 19) : Int32).toNatClampNeg)) : Int32).toNatClampNeg u33.1)).bind (fun m35 => if ¬ (mz_rd m35 239 13) = 0 then some m35 else (mz_g (mz_ok (mz_rd m35 239 19) 2) (mz_g (mz_ok (mz_rd m35 239 19) 2) (some (mz_wr m35 250 ((mz_rd m35 239 19) : Int32).toNatClampNeg ((mz_rd m35 250 ((mz_rd m35 239 19) : Int32).toNatClampNeg) + 1))))))))))) else (mz_g (mz_ok (((8 : Int32) * (mz_rd m 239 19)) + (mz_rd m 250 ((mz_rd m 239 19) : Int32).toNatClampNeg)) 16) (mz_g (mz_ok (((8 : Int32) * (mz_rd m 239 19)) + (mz_rd m 250 ((mz_rd m 239 19) : Int32).toNatClampNeg)) 16) (if ¬ (mz_rd (mz_wr u8.2 252 ((((8 : Int32) * (mz_rd m 239 19)) + (mz_rd m 250 ((mz_rd m 239 19) : Int32).toNatClampNeg)) : Int32).toNatClampNeg u8.1) 251 ((((8 : Int32) * (mz_rd m 239 19)) + (mz_rd m 250 ((mz_rd m 239 19) : Int32).toNatClampNeg)) : Int32).toNatClampNeg) = (mz_rd (mz_wr u8.2 252 ((((8 : Int32) * (mz_rd m 239 19)) + (mz_rd m 250 ((mz_rd m 239 19) : Int32).toNatClampNeg)) : Int32).toNatClampNeg u8.1) 252 ((((8 : Int32) * (mz_rd m 239 19)) + (mz_rd m 250 ((mz_rd m 239 19) : Int32).toNatClampNeg)) : Int32).toNatClampNeg) then ((R_X12_bounded d 1 30 (mz_wr u8.2 252 ((((8 : Int32) * (mz_rd m 239 19)) + (mz_rd m 250 ((mz_rd m 239 19) : Int32).toNatClampNeg)) : Int32).toNatClampNeg u8.1)).bind (fun u46 => mz_g (mz_ok (((8 : Int32) * (mz_rd m 239 19)) + (mz_rd m 250 ((mz_rd m 239 19) : Int32).toNatClampNeg)) 16) ((R_X12_bounded d 0 29 (mz_wr u46.2 253 ((((8 : Int32) * (mz_rd m 239 19)) + (mz_rd m 250 ((mz_rd m 239 19) : Int32).toNatClampNeg)) : Int32).toNatClampNeg u46.1)).bind (fun u50 => mz_g (mz_ok (((8 : Int32) * (mz_rd m 239 19)) + (mz_rd m 250 ((mz_rd m 239 19) : Int32).toNatClampNeg)) 16) ((R_X12_must d 4 (mz_wr u50.2 254 ((((8 : Int32) * (mz_rd m 239 19)) + (mz_rd m 250 ((mz_rd m 239 19) : Int32).toNatClampNeg)) : Int32).toNatClampNeg u50.1)).bind (fun m52 => if ¬ (mz_rd m52 239 13) = 0 then some m52 else (mz_g (mz_ok (mz_rd m52 239 19) 2) (mz_g (mz_ok (mz_rd m52 239 19) 2) (some (mz_wr m52 250 ((mz_rd m52 239 19) : Int32).toNatClampNeg ((mz_rd m52 250 ((mz_rd m52 239 19) : Int32).toNatClampNeg) + 1))))))))))) else ((R_X12_wrong d 3 (mz_rd (mz_wr m2 251 ((((8 : Int32) * (mz_rd m 239 19)) + (mz_rd m 250 ((mz_rd m 239 19) : Int32).toNatClampNeg)) : Int32).toNatClampNeg v3) 239 11) (mz_wr u8.2 252 ((((8 : Int32) * (mz_rd m 239 19)) + (mz_rd m 250 ((mz_rd m 239 19) : Int32).toNatClampNeg)) : Int32).toNatClampNeg u8.1)).bind (fun m58 => (R_X12_bounded d 1 30 m58).bind (fun u63 => mz_g (mz_ok (((8 : Int32) * (mz_rd m 239 19)) + (mz_rd m 250 ((mz_rd m 239 19) : Int32).toNatClampNeg)) 16) ((R_X12_bounded d 0 29 (mz_wr u63.2 253 ((((8 : Int32) * (mz_rd m 239 19)) + (mz_rd m 250 ((mz_rd m 239 19) : Int32).toNatClampNeg)) : Int32).toNatClampNeg u63.1)).bind (fun u67 => mz_g (mz_ok (((8 : Int32) * (mz_rd m 239 19)) + (mz_rd m 250 ((mz_rd m 239 19) : Int32).toNatClampNeg)) 16) ((R_X12_must d 4 (mz_wr u67.2 254 ((((8 : Int32) * (mz_rd m 239 19)) + (mz_rd m 250 ((mz_rd m 239 19) : Int32).toNatClampNeg)) : Int32).toNatClampNeg u67.1)).bind (fun m69 => if ¬ (mz_rd m69 239 13) = 0 then some m69 else (mz_g (mz_ok (mz_rd m69 239 19) 2) (mz_g (mz_ok (mz_rd m69 239 19) 2) (some (mz_wr m69 250 ((mz_rd m69 239 19) : Int32).toNatClampNeg ((mz_rd m69 250 ((mz_rd m69 239 19) : Int32).toNatClampNeg) + 1))))))))))))))))))))) rfl (mz_fe (e := (24, .invokevirtual 283, 190, (199, 1, 18), [])) (by decide +kernel)) rfl (mz_inv_virt (N := 199) (k := 1) (t := 18) (st := [.ref 239, .int (((8 : Int32) * (mz_rd m 239 19)) + (mz_rd m 250 ((mz_rd m 239 19) : Int32).toNatClampNeg)), .ref 251]) (rest := [.int (((8 : Int32) * (mz_rd m 239 19)) + (mz_rd m 250 ((mz_rd m 239 19) : Int32).toNatClampNeg)), .ref 251]) (b := 239) (vs := []) (h := (mz_S0, m)) rfl rfl (Nat.le_of_ble_eq_true rfl) (Nat.le_of_ble_eq_true rfl) tg_239 (by decide)) (mz_dc_lt (n := 1) rfl (by decide +kernel) (by decide +kernel)) (by decide +kernel) (Or.inl (by decide +kernel)) (fun v3 m2 => ?_)
  refine q_stAg (f := (fun x => x)) rfl (mz_fe (e := (27, .iastore, 1, (0, 0, 0), [])) (by decide +kernel)) (fun _ => rfl) rfl tg_251 ln_251 (fun g5 => ?_)
  refine q_o (mz_fe (e := (28, .aload_n 0, 1, (0, 0, 0), [])) (by decide +kernel)) (pc2 := 29) rfl ?_
  refine q_getI (mz_fe (e := (29, .getfield 206, 166, (12, 11, 0), [])) (by decide +kernel)) rfl (by decide) tg_239 (by rw [ln_239]; decide) ?_
  refine q_s (mz_fe (e := (32, .istore_n 2, 1, (0, 0, 0), [])) (by decide +kernel)) (pc' := 33) (L' := [some (.ref 239), some (.int (((8 : Int32) * (mz_rd m 239 19)) + (mz_rd m 250 ((mz_rd m 239 19) : Int32).toNatClampNeg))), some (.int (mz_rd (mz_wr m2 251 ((((8 : Int32) * (mz_rd m 239 19)) + (mz_rd m 250 ((mz_rd m 239 19) : Int32).toNatClampNeg)) : Int32).toNatClampNeg v3) 239 11))]) (st' := []) rfl ?_
  refine q_o (mz_fe (e := (33, .aload_n 0, 1, (0, 0, 0), [])) (by decide +kernel)) (pc2 := 34) rfl ?_
  refine q_getR (b := 252) (mz_fe (e := (34, .getfield 55, 130, (12, 25, 2), [])) (by decide +kernel)) rfl tg_239 (by rw [ln_239]; decide) (mz_rfS (by decide +kernel)) ?_
  refine q_o (mz_fe (e := (37, .iload_n 1, 1, (0, 0, 0), [])) (by decide +kernel)) (pc2 := 38) rfl ?_
  refine q_o (mz_fe (e := (38, .aload_n 0, 1, (0, 0, 0), [])) (by decide +kernel)) (pc2 := 39) rfl ?_
  refine q_callI (N := 199) (vs := [.ref 239]) (rest := [.int (((8 : Int32) * (mz_rd m 239 19)) + (mz_rd m 250 ((mz_rd m 239 19) : Int32).toNatClampNeg)), .ref 252]) (L' := [some (.ref 239), some (.int (((8 : Int32) * (mz_rd m 239 19)) + (mz_rd m 250 ((mz_rd m 239 19) : Int32).toNatClampNeg))), some (.int (mz_rd (mz_wr m2 251 ((((8 : Int32) * (mz_rd m 239 19)) + (mz_rd m 250 ((mz_rd m 239 19) : Int32).toNatClampNeg)) : Int32).toNatClampNeg v3) 239 11))]) (f := fun v7 m6 => mz_g (mz_ok (((8 : Int32) * (mz_rd m 239 19)) + (mz_rd m 250 ((mz_rd m 239 19) : Int32).toNatClampNeg)) 16) (if ¬ (mz_rd (mz_wr m6 252 ((((8 : Int32) * (mz_rd m 239 19)) + (mz_rd m 250 ((mz_rd m 239 19) : Int32).toNatClampNeg)) : Int32).toNatClampNeg v7) 239 13) = 0 then ((R_X12_bounded d 1 30 (mz_wr m6 252 ((((8 : Int32) * (mz_rd m 239 19)) + (mz_rd m 250 ((mz_rd m 239 19) : Int32).toNatClampNeg)) : Int32).toNatClampNeg v7)).bind (fun u13 => mz_g (mz_ok (((8 : Int32) * (mz_rd m 239 19)) + (mz_rd m 250 ((mz_rd m 239 19) : Int32).toNatClampNeg)) 16) ((R_X12_bounded d 0 29 (mz_wr u13.2 253 ((((8 : Int32) * (mz_rd m 239 19)) + (mz_rd m 250 ((mz_rd m 239 19) : Int32).toNatClampNeg)) : Int32).toNatClampNeg u13.1)).bind (fun u17 => mz_g (mz_ok (((8 : Int32) * (mz_rd m 239 19)) + (mz_rd m 250 ((mz_rd m 239 19) : Int32).toNatClampNeg)) 16) ((R_X12_must d 4 (mz_wr u17.2 254 ((((8 : Int32) * (mz_rd m 239 19)) + (mz_rd m 250 ((mz_rd m 239 19) : Int32).toNatClampNeg)) : Int32).toNatClampNeg u17.1)).bind (fun m19 => if ¬ (mz_rd m19 239 13) = 0 then some m19 else (mz_g (mz_ok (mz_rd m19 239 19) 2) (mz_g (mz_ok (mz_rd m19 239 19) 2) (some (mz_wr m19 250 ((mz_rd m19 239 19) : Int32).toNatClampNeg ((mz_rd m19 250 ((mz_rd m19 239 19) : Int32).toNatClampNeg) + 1))))))))))) else (mz_g (mz_ok (((8 : Int32) * (mz_rd m 239 19)) + (mz_rd m 250 ((mz_rd m 239 19) : Int32).toNatClampNeg)) 16) (if (mz_rd (mz_wr m6 252 ((((8 : Int32) * (mz_rd m 239 19)) + (mz_rd m 250 ((mz_rd m 239 19) : Int32).toNatClampNeg)) : Int32).toNatClampNeg v7) 251 ((((8 : Int32) * (mz_rd m 239 19)) + (mz_rd m 250 ((mz_rd m 239 19) : Int32).toNatClampNeg)) : Int32).toNatClampNeg) < 0 then ((R_X12_bounded d 1 30 (mz_wr m6 252 ((((8 : Int32) * (mz_rd m 239 19)) + (mz_rd m 250 ((mz_rd m 239 19) : Int32).toNatClampNeg)) : Int32).toNatClampNeg v7)).bind (fun u29 => mz_g (mz_ok (((8 : Int32) * (mz_rd m 239 19)) + (mz_rd m 250 ((mz_rd m 239 19) : Int32).toNatClampNeg)) 16) ((R_X12_bounded d 0 29 (mz_wr u29.2 253 ((((8 : Int32) * (mz_rd m 239 19)) + (mz_rd m 250 ((mz_rd m 239 19) : Int32).toNatClampNeg)) : Int32).toNatClampNeg u29.1)).bind (fun u33 => mz_g (mz_ok (((8 : Int32) * (mz_rd m 239 19)) + (mz_rd m 250 ((mz_rd m 239 19) : Int32).toNatClampNeg)) 16) ((R_X12_must d 4 (mz_wr u33.2 254 ((((8 : Int32) * (mz_rd m 239 19)) + (mz_rd m 250 ((mz_rd m 239 19) : Int32).toNatClampNeg)) : Int32).toNatClampNeg u33.1)).bind (fun m35 => if ¬ (mz_rd m35 239 13) = 0 then some m35 else (mz_g (mz_ok (mz_rd m35 239 19) 2) (mz_g (mz_ok (mz_rd m35 239 19) 2) (some (mz_wr m35 250 ((mz_rd m35 239 19) : Int32).toNatClampNeg ((mz_rd m35 250 ((mz_rd m35 239 19) : Int32).toNatClampNeg) + 1))))))))))) else (mz_g (mz_ok (((8 : Int32) * (mz_rd m 239 19)) + (mz_rd m 250 ((mz_rd m 239 19) : Int32).toNatClampNeg)) 16) (mz_g (mz_ok (((8 : Int32) * (mz_rd m 239 19)) + (mz_rd m 250 ((mz_rd m 239 19) : Int32).toNatClampNeg)) 16) (if ¬ (mz_rd (mz_wr m6 252 ((((8 : Int32) * (mz_rd m 239 19)) + (mz_rd m 250 ((mz_rd m 239 19) : Int32).toNatClampNeg)) : Int32).toNatClampNeg v7) 251 ((((8 : Int32) * (mz_rd m 239 19)) + (mz_rd m 250 ((mz_rd m 239 19) : Int32).toNatClampNeg)) : Int32).toNatClampNeg) = (mz_rd (mz_wr m6 252 ((((8 : Int32) * (mz_rd m 239 19)) + (mz_rd m 250 ((mz_rd m 239 19) : Int32).toNatClampNeg)) : Int32).toNatClampNeg v7) 252 ((((8 : Int32) * (mz_rd m 239 19)) + (mz_rd m 250 ((mz_rd m 239 19) : Int32).toNatClampNeg)) : Int32).toNatClampNeg) then ((R_X12_bounded d 1 30 (mz_wr m6 252 ((((8 : Int32) * (mz_rd m 239 19)) + (mz_rd m 250 ((mz_rd m 239 19) : Int32).toNatClampNeg)) : Int32).toNatClampNeg v7)).bind (fun u46 => mz_g (mz_ok (((8 : Int32) * (mz_rd m 239 19)) + (mz_rd m 250 ((mz_rd m 239 19) : Int32).toNatClampNeg)) 16) ((R_X12_bounded d 0 29 (mz_wr u46.2 253 ((((8 : Int32) * (mz_rd m 239 19)) + (mz_rd m 250 ((mz_rd m 239 19) : Int32).toNatClampNeg)) : Int32).toNatClampNeg u46.1)).bind (fun u50 => mz_g (mz_ok (((8 : Int32) * (mz_rd m 239 19)) + (mz_rd m 250 ((mz_rd m 239 19) : Int32).toNatClampNeg)) 16) ((R_X12_must d 4 (mz_wr u50.2 254 ((((8 : Int32) * (mz_rd m 239 19)) + (mz_rd m 250 ((mz_rd m 239 19) : Int32).toNatClampNeg)) : Int32).toNatClampNeg u50.1)).bind (fun m52 => if ¬ (mz_rd m52 239 13) = 0 then some m52 else (mz_g (mz_ok (mz_rd m52 239 19) 2) (mz_g (mz_ok (mz_rd m52 239 19) 2) (some (mz_wr m52 250 ((mz_rd m52 239 19) : Int32).toNatClampNeg ((mz_rd m52 250 ((mz_rd m52 239 19) : Int32).toNatClampNeg) + 1))))))))))) else ((R_X12_wrong d 3 (mz_rd (mz_wr m2 251 ((((8 : Int32) * (mz_rd m 239 19)) + (mz_rd m 250 ((mz_rd m 239 19) : Int32).toNatClampNeg)) : Int32).toNatClampNeg v3) 239 11) (mz_wr m6 252 ((((8 : Int32) * (mz_rd m 239 19)) + (mz_rd m 250 ((mz_rd m 239 19) : Int32).toNatClampNeg)) : Int32).toNatClampNeg v7)).bind (fun m58 => (R_X12_bounded d 1 30 m58).bind (fun u63 => mz_g (mz_ok (((8 : Int32) * (mz_rd m 239 19)) + (mz_rd m 250 ((mz_rd m 239 19) : Int32).toNatClampNeg)) 16) ((R_X12_bounded d 0 29 (mz_wr u63.2 253 ((((8 : Int32) * (mz_rd m 239 19)) + (mz_rd m 250 ((mz_rd m 239 19) : Int32).toNatClampNeg)) : Int32).toNatClampNeg u63.1)).bind (fun u67 => mz_g (mz_ok (((8 : Int32) * (mz_rd m 239 19)) + (mz_rd m 250 ((mz_rd m 239 19) : Int32).toNatClampNeg)) 16) ((R_X12_must d 4 (mz_wr u67.2 254 ((((8 : Int32) * (mz_rd m 239 19)) + (mz_rd m 250 ((mz_rd m 239 19) : Int32).toNatClampNeg)) : Int32).toNatClampNeg u67.1)).bind (fun m69 => if ¬ (mz_rd m69 239 13) = 0 then some m69 else (mz_g (mz_ok (mz_rd m69 239 19) 2) (mz_g (mz_ok (mz_rd m69 239 19) 2) (some (mz_wr m69 250 ((mz_rd m69 239 19) : Int32).toNatClampNeg ((mz_rd m69 250 ((mz_rd m69 239 19) : Int32).toNatClampNeg) + 1))))))))))))))))))) rfl (mz_fe (e := (39, .invokevirtual 283, 190, (199, 1, 18), [])) (by decide +kernel)) rfl (mz_inv_virt (N := 199) (k := 1) (t := 18) (st := [.ref 239, .int (((8 : Int32) * (mz_rd m 239 19)) + (mz_rd m 250 ((mz_rd m 239 19) : Int32).toNatClampNeg)), .ref 252]) (rest := [.int (((8 : Int32) * (mz_rd m 239 19)) + (mz_rd m 250 ((mz_rd m 239 19) : Int32).toNatClampNeg)), .ref 252]) (b := 239) (vs := []) (h := (mz_S0, (mz_wr m2 251 ((((8 : Int32) * (mz_rd m 239 19)) + (mz_rd m 250 ((mz_rd m 239 19) : Int32).toNatClampNeg)) : Int32).toNatClampNeg v3))) rfl rfl (Nat.le_of_ble_eq_true rfl) (Nat.le_of_ble_eq_true rfl) tg_239 (by decide)) (mz_dc_lt (n := 1) rfl (by decide +kernel) (by decide +kernel)) (by decide +kernel) (Or.inl (by decide +kernel)) (fun v7 m6 => ?_)
  refine q_stAg (f := (fun x => x)) rfl (mz_fe (e := (42, .iastore, 1, (0, 0, 0), [])) (by decide +kernel)) (fun _ => rfl) rfl tg_252 ln_252 (fun g9 => ?_)
  refine q_o (mz_fe (e := (43, .aload_n 0, 1, (0, 0, 0), [])) (by decide +kernel)) (pc2 := 44) rfl ?_
  refine q_getI (mz_fe (e := (44, .getfield 203, 165, (12, 13, 0), [])) (by decide +kernel)) rfl (by decide) tg_239 (by rw [ln_239]; decide) ?_
  refine q_if (c := .ne) (off := 33) (t := 80) (x := (mz_rd (mz_wr m6 252 ((((8 : Int32) * (mz_rd m 239 19)) + (mz_rd m 250 ((mz_rd m 239 19) : Int32).toNatClampNeg)) : Int32).toNatClampNeg v7) 239 13)) (y := 0) (st := []) (mz_fe (e := (47, .ifCond .ne 33, 3, (0, 0, 0), [])) (by decide +kernel)) (fun _ => rfl) rfl rfl rfl (fun c10 => ?_) (fun c10 => ?_)
  · refine q_o (mz_fe (e := (80, .aload_n 0, 1, (0, 0, 0), [])) (by decide +kernel)) (pc2 := 81) rfl ?_
    refine q_getR (b := 253) (mz_fe (e := (81, .getfield 58, 131, (12, 26, 2), [])) (by decide +kernel)) rfl tg_239 (by rw [ln_239]; decide) (mz_rfS (by decide +kernel)) ?_
    refine q_o (mz_fe (e := (84, .iload_n 1, 1, (0, 0, 0), [])) (by decide +kernel)) (pc2 := 85) rfl ?_
    refine q_o (mz_fe (e := (85, .aload_n 0, 1, (0, 0, 0), [])) (by decide +kernel)) (pc2 := 86) rfl ?_
    refine q_ic (v := 1) (mz_fe (e := (86, .iconst 1, 1, (0, 0, 0), [])) (by decide +kernel)) (by decide) ?_
    refine q_bi (v := 30) (mz_fe (e := (87, .bipush 30, 2, (0, 0, 0), [])) (by decide +kernel)) (by decide) ?_
    refine q_callI (N := 197) (vs := [.ref 239, .int 1, .int 30]) (rest := [.int (((8 : Int32) * (mz_rd m 239 19)) + (mz_rd m 250 ((mz_rd m 239 19) : Int32).toNatClampNeg)), .ref 253]) (L' := [some (.ref 239), some (.int (((8 : Int32) * (mz_rd m 239 19)) + (mz_rd m 250 ((mz_rd m 239 19) : Int32).toNatClampNeg))), some (.int (mz_rd (mz_wr m2 251 ((((8 : Int32) * (mz_rd m 239 19)) + (mz_rd m 250 ((mz_rd m 239 19) : Int32).toNatClampNeg)) : Int32).toNatClampNeg v3) 239 11))]) (f := fun v12 m11 => mz_g (mz_ok (((8 : Int32) * (mz_rd m 239 19)) + (mz_rd m 250 ((mz_rd m 239 19) : Int32).toNatClampNeg)) 16) ((R_X12_bounded d 0 29 (mz_wr m11 253 ((((8 : Int32) * (mz_rd m 239 19)) + (mz_rd m 250 ((mz_rd m 239 19) : Int32).toNatClampNeg)) : Int32).toNatClampNeg v12)).bind (fun u17 => mz_g (mz_ok (((8 : Int32) * (mz_rd m 239 19)) + (mz_rd m 250 ((mz_rd m 239 19) : Int32).toNatClampNeg)) 16) ((R_X12_must d 4 (mz_wr u17.2 254 ((((8 : Int32) * (mz_rd m 239 19)) + (mz_rd m 250 ((mz_rd m 239 19) : Int32).toNatClampNeg)) : Int32).toNatClampNeg u17.1)).bind (fun m19 => if ¬ (mz_rd m19 239 13) = 0 then some m19 else (mz_g (mz_ok (mz_rd m19 239 19) 2) (mz_g (mz_ok (mz_rd m19 239 19) 2) (some (mz_wr m19 250 ((mz_rd m19 239 19) : Int32).toNatClampNeg ((mz_rd m19 250 ((mz_rd m19 239 19) : Int32).toNatClampNeg) + 1)))))))))) rfl (mz_fe (e := (89, .invokevirtual 254, 181, (197, 3, 18), [])) (by decide +kernel)) rfl (mz_inv_virt (N := 197) (k := 3) (t := 18) (st := [.int 30, .int 1, .ref 239, .int (((8 : Int32) * (mz_rd m 239 19)) + (mz_rd m 250 ((mz_rd m 239 19) : Int32).toNatClampNeg)), .ref 253]) (rest := [.int (((8 : Int32) * (mz_rd m 239 19)) + (mz_rd m 250 ((mz_rd m 239 19) : Int32).toNatClampNeg)), .ref 253]) (b := 239) (vs := [.int 1, .int 30]) (h := (mz_S0, (mz_wr m6 252 ((((8 : Int32) * (mz_rd m 239 19)) + (mz_rd m 250 ((mz_rd m 239 19) : Int32).toNatClampNeg)) : Int32).toNatClampNeg v7))) rfl rfl (Nat.le_of_ble_eq_true rfl) (Nat.le_of_ble_eq_true rfl) tg_239 (by decide)) (mz_dc_lt (n := 3) rfl (by decide +kernel) (by decide +kernel)) (by decide +kernel) (Or.inl (by decide +kernel)) (fun v12 m11 => ?_)
    refine q_stAg (f := (fun x => x)) rfl (mz_fe (e := (92, .iastore, 1, (0, 0, 0), [])) (by decide +kernel)) (fun _ => rfl) rfl tg_253 ln_253 (fun g14 => ?_)
    refine q_o (mz_fe (e := (93, .aload_n 0, 1, (0, 0, 0), [])) (by decide +kernel)) (pc2 := 94) rfl ?_
    refine q_getR (b := 254) (mz_fe (e := (94, .getfield 61, 132, (12, 27, 2), [])) (by decide +kernel)) rfl tg_239 (by rw [ln_239]; decide) (mz_rfS (by decide +kernel)) ?_
    refine q_o (mz_fe (e := (97, .iload_n 1, 1, (0, 0, 0), [])) (by decide +kernel)) (pc2 := 98) rfl ?_
    refine q_o (mz_fe (e := (98, .aload_n 0, 1, (0, 0, 0), [])) (by decide +kernel)) (pc2 := 99) rfl ?_
    refine q_ic (v := 0) (mz_fe (e := (99, .iconst 0, 1, (0, 0, 0), [])) (by decide +kernel)) (by decide) ?_
    refine q_bi (v := 29) (mz_fe (e := (100, .bipush 29, 2, (0, 0, 0), [])) (by decide +kernel)) (by decide) ?_
    refine q_callI (N := 197) (vs := [.ref 239, .int 0, .int 29]) (rest := [.int (((8 : Int32) * (mz_rd m 239 19)) + (mz_rd m 250 ((mz_rd m 239 19) : Int32).toNatClampNeg)), .ref 254]) (L' := [some (.ref 239), some (.int (((8 : Int32) * (mz_rd m 239 19)) + (mz_rd m 250 ((mz_rd m 239 19) : Int32).toNatClampNeg))), some (.int (mz_rd (mz_wr m2 251 ((((8 : Int32) * (mz_rd m 239 19)) + (mz_rd m 250 ((mz_rd m 239 19) : Int32).toNatClampNeg)) : Int32).toNatClampNeg v3) 239 11))]) (f := fun v16 m15 => mz_g (mz_ok (((8 : Int32) * (mz_rd m 239 19)) + (mz_rd m 250 ((mz_rd m 239 19) : Int32).toNatClampNeg)) 16) ((R_X12_must d 4 (mz_wr m15 254 ((((8 : Int32) * (mz_rd m 239 19)) + (mz_rd m 250 ((mz_rd m 239 19) : Int32).toNatClampNeg)) : Int32).toNatClampNeg v16)).bind (fun m19 => if ¬ (mz_rd m19 239 13) = 0 then some m19 else (mz_g (mz_ok (mz_rd m19 239 19) 2) (mz_g (mz_ok (mz_rd m19 239 19) 2) (some (mz_wr m19 250 ((mz_rd m19 239 19) : Int32).toNatClampNeg ((mz_rd m19 250 ((mz_rd m19 239 19) : Int32).toNatClampNeg) + 1)))))))) rfl (mz_fe (e := (102, .invokevirtual 254, 181, (197, 3, 18), [])) (by decide +kernel)) rfl (mz_inv_virt (N := 197) (k := 3) (t := 18) (st := [.int 29, .int 0, .ref 239, .int (((8 : Int32) * (mz_rd m 239 19)) + (mz_rd m 250 ((mz_rd m 239 19) : Int32).toNatClampNeg)), .ref 254]) (rest := [.int (((8 : Int32) * (mz_rd m 239 19)) + (mz_rd m 250 ((mz_rd m 239 19) : Int32).toNatClampNeg)), .ref 254]) (b := 239) (vs := [.int 0, .int 29]) (h := (mz_S0, (mz_wr m11 253 ((((8 : Int32) * (mz_rd m 239 19)) + (mz_rd m 250 ((mz_rd m 239 19) : Int32).toNatClampNeg)) : Int32).toNatClampNeg v12))) rfl rfl (Nat.le_of_ble_eq_true rfl) (Nat.le_of_ble_eq_true rfl) tg_239 (by decide)) (mz_dc_lt (n := 3) rfl (by decide +kernel) (by decide +kernel)) (by decide +kernel) (Or.inl (by decide +kernel)) (fun v16 m15 => ?_)
    refine q_stAg (f := (fun x => x)) rfl (mz_fe (e := (105, .iastore, 1, (0, 0, 0), [])) (by decide +kernel)) (fun _ => rfl) rfl tg_254 ln_254 (fun g18 => ?_)
    refine q_o (mz_fe (e := (106, .aload_n 0, 1, (0, 0, 0), [])) (by decide +kernel)) (pc2 := 107) rfl ?_
    refine q_ic (v := 4) (mz_fe (e := (107, .iconst 4, 1, (0, 0, 0), [])) (by decide +kernel)) (by decide) ?_
    refine q_callV (N := 189) (vs := [.ref 239, .int 4]) (rest := []) (L' := [some (.ref 239), some (.int (((8 : Int32) * (mz_rd m 239 19)) + (mz_rd m 250 ((mz_rd m 239 19) : Int32).toNatClampNeg))), some (.int (mz_rd (mz_wr m2 251 ((((8 : Int32) * (mz_rd m 239 19)) + (mz_rd m 250 ((mz_rd m 239 19) : Int32).toNatClampNeg)) : Int32).toNatClampNeg v3) 239 11))]) rfl (mz_fe (e := (108, .invokevirtual 258, 182, (189, 2, 18), [])) (by decide +kernel)) rfl (mz_inv_virt (N := 189) (k := 2) (t := 18) (st := [.int 4, .ref 239]) (rest := []) (b := 239) (vs := [.int 4]) (h := (mz_S0, (mz_wr m15 254 ((((8 : Int32) * (mz_rd m 239 19)) + (mz_rd m 250 ((mz_rd m 239 19) : Int32).toNatClampNeg)) : Int32).toNatClampNeg v16))) rfl rfl (Nat.le_of_ble_eq_true rfl) (Nat.le_of_ble_eq_true rfl) tg_239 (by decide)) (mz_dc_lt (n := 2) rfl (by decide +kernel) (by decide +kernel)) (by decide +kernel) (by decide +kernel) (fun m19 => ?_)
    refine q_o (mz_fe (e := (111, .aload_n 0, 1, (0, 0, 0), [])) (by decide +kernel)) (pc2 := 112) rfl ?_
    refine q_getI (mz_fe (e := (112, .getfield 203, 165, (12, 13, 0), [])) (by decide +kernel)) rfl (by decide) tg_239 (by rw [ln_239]; decide) ?_
    refine q_if (c := .ne) (off := 16) (t := 131) (x := (mz_rd m19 239 13)) (y := 0) (st := []) (mz_fe (e := (115, .ifCond .ne 16, 3, (0, 0, 0), [])) (by decide +kernel)) (fun _ => rfl) rfl rfl rfl (fun c22 => ?_) (fun c22 => ?_)
    · exact q_retV (mz_fe (e := (131, .return_, 1, (0, 0, 0), [])) (by decide +kernel)) (by decide +kernel)
    · refine q_o (mz_fe (e := (118, .aload_n 0, 1, (0, 0, 0), [])) (by decide +kernel)) (pc2 := 119) rfl ?_
      refine q_getR (b := 250) (mz_fe (e := (119, .getfield 49, 128, (12, 23, 2), [])) (by decide +kernel)) rfl tg_239 (by rw [ln_239]; decide) (mz_rfS (by decide +kernel)) ?_
      refine q_o (mz_fe (e := (122, .aload_n 0, 1, (0, 0, 0), [])) (by decide +kernel)) (pc2 := 123) rfl ?_
      refine q_getI (mz_fe (e := (123, .getfield 236, 172, (12, 19, 0), [])) (by decide +kernel)) rfl (by decide) tg_239 (by rw [ln_239]; decide) ?_
      refine q_o (mz_fe (e := (126, .dup2, 1, (0, 0, 0), [])) (by decide +kernel)) (pc2 := 127) rfl ?_
      refine q_ialdg rfl (mz_fe (e := (127, .iaload, 1, (0, 0, 0), [])) (by decide +kernel)) rfl (by decide) tg_250 ln_250 (fun g23 => ?_)
      refine q_ic (v := 1) (mz_fe (e := (128, .iconst 1, 1, (0, 0, 0), [])) (by decide +kernel)) (by decide) ?_
      refine q_o (mz_fe (e := (129, .iadd, 1, (0, 0, 0), [])) (by decide +kernel)) (pc2 := 130) rfl ?_
      refine q_stAg (f := (fun x => x)) rfl (mz_fe (e := (130, .iastore, 1, (0, 0, 0), [])) (by decide +kernel)) (fun _ => rfl) rfl tg_250 ln_250 (fun g24 => ?_)
      exact q_retV (mz_fe (e := (131, .return_, 1, (0, 0, 0), [])) (by decide +kernel)) (by decide +kernel)
  · refine q_o (mz_fe (e := (50, .aload_n 0, 1, (0, 0, 0), [])) (by decide +kernel)) (pc2 := 51) rfl ?_
    refine q_getR (b := 251) (mz_fe (e := (51, .getfield 52, 129, (12, 24, 2), [])) (by decide +kernel)) rfl tg_239 (by rw [ln_239]; decide) (mz_rfS (by decide +kernel)) ?_
    refine q_o (mz_fe (e := (54, .iload_n 1, 1, (0, 0, 0), [])) (by decide +kernel)) (pc2 := 55) rfl ?_
    refine q_ialdg rfl (mz_fe (e := (55, .iaload, 1, (0, 0, 0), [])) (by decide +kernel)) rfl (by decide) tg_251 ln_251 (fun g25 => ?_)
    refine q_if (c := .lt) (off := 24) (t := 80) (x := (mz_rd (mz_wr m6 252 ((((8 : Int32) * (mz_rd m 239 19)) + (mz_rd m 250 ((mz_rd m 239 19) : Int32).toNatClampNeg)) : Int32).toNatClampNeg v7) 251 ((((8 : Int32) * (mz_rd m 239 19)) + (mz_rd m 250 ((mz_rd m 239 19) : Int32).toNatClampNeg)) : Int32).toNatClampNeg)) (y := 0) (st := []) (mz_fe (e := (56, .ifCond .lt 24, 3, (0, 0, 0), [])) (by decide +kernel)) (fun _ => rfl) rfl rfl rfl (fun c26 => ?_) (fun c26 => ?_)
    · refine q_o (mz_fe (e := (80, .aload_n 0, 1, (0, 0, 0), [])) (by decide +kernel)) (pc2 := 81) rfl ?_
      refine q_getR (b := 253) (mz_fe (e := (81, .getfield 58, 131, (12, 26, 2), [])) (by decide +kernel)) rfl tg_239 (by rw [ln_239]; decide) (mz_rfS (by decide +kernel)) ?_
      refine q_o (mz_fe (e := (84, .iload_n 1, 1, (0, 0, 0), [])) (by decide +kernel)) (pc2 := 85) rfl ?_
      refine q_o (mz_fe (e := (85, .aload_n 0, 1, (0, 0, 0), [])) (by decide +kernel)) (pc2 := 86) rfl ?_
      refine q_ic (v := 1) (mz_fe (e := (86, .iconst 1, 1, (0, 0, 0), [])) (by decide +kernel)) (by decide) ?_
      refine q_bi (v := 30) (mz_fe (e := (87, .bipush 30, 2, (0, 0, 0), [])) (by decide +kernel)) (by decide) ?_
      refine q_callI (N := 197) (vs := [.ref 239, .int 1, .int 30]) (rest := [.int (((8 : Int32) * (mz_rd m 239 19)) + (mz_rd m 250 ((mz_rd m 239 19) : Int32).toNatClampNeg)), .ref 253]) (L' := [some (.ref 239), some (.int (((8 : Int32) * (mz_rd m 239 19)) + (mz_rd m 250 ((mz_rd m 239 19) : Int32).toNatClampNeg))), some (.int (mz_rd (mz_wr m2 251 ((((8 : Int32) * (mz_rd m 239 19)) + (mz_rd m 250 ((mz_rd m 239 19) : Int32).toNatClampNeg)) : Int32).toNatClampNeg v3) 239 11))]) (f := fun v28 m27 => mz_g (mz_ok (((8 : Int32) * (mz_rd m 239 19)) + (mz_rd m 250 ((mz_rd m 239 19) : Int32).toNatClampNeg)) 16) ((R_X12_bounded d 0 29 (mz_wr m27 253 ((((8 : Int32) * (mz_rd m 239 19)) + (mz_rd m 250 ((mz_rd m 239 19) : Int32).toNatClampNeg)) : Int32).toNatClampNeg v28)).bind (fun u33 => mz_g (mz_ok (((8 : Int32) * (mz_rd m 239 19)) + (mz_rd m 250 ((mz_rd m 239 19) : Int32).toNatClampNeg)) 16) ((R_X12_must d 4 (mz_wr u33.2 254 ((((8 : Int32) * (mz_rd m 239 19)) + (mz_rd m 250 ((mz_rd m 239 19) : Int32).toNatClampNeg)) : Int32).toNatClampNeg u33.1)).bind (fun m35 => if ¬ (mz_rd m35 239 13) = 0 then some m35 else (mz_g (mz_ok (mz_rd m35 239 19) 2) (mz_g (mz_ok (mz_rd m35 239 19) 2) (some (mz_wr m35 250 ((mz_rd m35 239 19) : Int32).toNatClampNeg ((mz_rd m35 250 ((mz_rd m35 239 19) : Int32).toNatClampNeg) + 1)))))))))) rfl (mz_fe (e := (89, .invokevirtual 254, 181, (197, 3, 18), [])) (by decide +kernel)) rfl (mz_inv_virt (N := 197) (k := 3) (t := 18) (st := [.int 30, .int 1, .ref 239, .int (((8 : Int32) * (mz_rd m 239 19)) + (mz_rd m 250 ((mz_rd m 239 19) : Int32).toNatClampNeg)), .ref 253]) (rest := [.int (((8 : Int32) * (mz_rd m 239 19)) + (mz_rd m 250 ((mz_rd m 239 19) : Int32).toNatClampNeg)), .ref 253]) (b := 239) (vs := [.int 1, .int 30]) (h := (mz_S0, (mz_wr m6 252 ((((8 : Int32) * (mz_rd m 239 19)) + (mz_rd m 250 ((mz_rd m 239 19) : Int32).toNatClampNeg)) : Int32).toNatClampNeg v7))) rfl rfl (Nat.le_of_ble_eq_true rfl) (Nat.le_of_ble_eq_true rfl) tg_239 (by decide)) (mz_dc_lt (n := 3) rfl (by decide +kernel) (by decide +kernel)) (by decide +kernel) (Or.inl (by decide +kernel)) (fun v28 m27 => ?_)
      refine q_stAg (f := (fun x => x)) rfl (mz_fe (e := (92, .iastore, 1, (0, 0, 0), [])) (by decide +kernel)) (fun _ => rfl) rfl tg_253 ln_253 (fun g30 => ?_)
      refine q_o (mz_fe (e := (93, .aload_n 0, 1, (0, 0, 0), [])) (by decide +kernel)) (pc2 := 94) rfl ?_
      refine q_getR (b := 254) (mz_fe (e := (94, .getfield 61, 132, (12, 27, 2), [])) (by decide +kernel)) rfl tg_239 (by rw [ln_239]; decide) (mz_rfS (by decide +kernel)) ?_
      refine q_o (mz_fe (e := (97, .iload_n 1, 1, (0, 0, 0), [])) (by decide +kernel)) (pc2 := 98) rfl ?_
      refine q_o (mz_fe (e := (98, .aload_n 0, 1, (0, 0, 0), [])) (by decide +kernel)) (pc2 := 99) rfl ?_
      refine q_ic (v := 0) (mz_fe (e := (99, .iconst 0, 1, (0, 0, 0), [])) (by decide +kernel)) (by decide) ?_
      refine q_bi (v := 29) (mz_fe (e := (100, .bipush 29, 2, (0, 0, 0), [])) (by decide +kernel)) (by decide) ?_
      refine q_callI (N := 197) (vs := [.ref 239, .int 0, .int 29]) (rest := [.int (((8 : Int32) * (mz_rd m 239 19)) + (mz_rd m 250 ((mz_rd m 239 19) : Int32).toNatClampNeg)), .ref 254]) (L' := [some (.ref 239), some (.int (((8 : Int32) * (mz_rd m 239 19)) + (mz_rd m 250 ((mz_rd m 239 19) : Int32).toNatClampNeg))), some (.int (mz_rd (mz_wr m2 251 ((((8 : Int32) * (mz_rd m 239 19)) + (mz_rd m 250 ((mz_rd m 239 19) : Int32).toNatClampNeg)) : Int32).toNatClampNeg v3) 239 11))]) (f := fun v32 m31 => mz_g (mz_ok (((8 : Int32) * (mz_rd m 239 19)) + (mz_rd m 250 ((mz_rd m 239 19) : Int32).toNatClampNeg)) 16) ((R_X12_must d 4 (mz_wr m31 254 ((((8 : Int32) * (mz_rd m 239 19)) + (mz_rd m 250 ((mz_rd m 239 19) : Int32).toNatClampNeg)) : Int32).toNatClampNeg v32)).bind (fun m35 => if ¬ (mz_rd m35 239 13) = 0 then some m35 else (mz_g (mz_ok (mz_rd m35 239 19) 2) (mz_g (mz_ok (mz_rd m35 239 19) 2) (some (mz_wr m35 250 ((mz_rd m35 239 19) : Int32).toNatClampNeg ((mz_rd m35 250 ((mz_rd m35 239 19) : Int32).toNatClampNeg) + 1)))))))) rfl (mz_fe (e := (102, .invokevirtual 254, 181, (197, 3, 18), [])) (by decide +kernel)) rfl (mz_inv_virt (N := 197) (k := 3) (t := 18) (st := [.int 29, .int 0, .ref 239, .int (((8 : Int32) * (mz_rd m 239 19)) + (mz_rd m 250 ((mz_rd m 239 19) : Int32).toNatClampNeg)), .ref 254]) (rest := [.int (((8 : Int32) * (mz_rd m 239 19)) + (mz_rd m 250 ((mz_rd m 239 19) : Int32).toNatClampNeg)), .ref 254]) (b := 239) (vs := [.int 0, .int 29]) (h := (mz_S0, (mz_wr m27 253 ((((8 : Int32) * (mz_rd m 239 19)) + (mz_rd m 250 ((mz_rd m 239 19) : Int32).toNatClampNeg)) : Int32).toNatClampNeg v28))) rfl rfl (Nat.le_of_ble_eq_true rfl) (Nat.le_of_ble_eq_true rfl) tg_239 (by decide)) (mz_dc_lt (n := 3) rfl (by decide +kernel) (by decide +kernel)) (by decide +kernel) (Or.inl (by decide +kernel)) (fun v32 m31 => ?_)
      refine q_stAg (f := (fun x => x)) rfl (mz_fe (e := (105, .iastore, 1, (0, 0, 0), [])) (by decide +kernel)) (fun _ => rfl) rfl tg_254 ln_254 (fun g34 => ?_)
      refine q_o (mz_fe (e := (106, .aload_n 0, 1, (0, 0, 0), [])) (by decide +kernel)) (pc2 := 107) rfl ?_
      refine q_ic (v := 4) (mz_fe (e := (107, .iconst 4, 1, (0, 0, 0), [])) (by decide +kernel)) (by decide) ?_
      refine q_callV (N := 189) (vs := [.ref 239, .int 4]) (rest := []) (L' := [some (.ref 239), some (.int (((8 : Int32) * (mz_rd m 239 19)) + (mz_rd m 250 ((mz_rd m 239 19) : Int32).toNatClampNeg))), some (.int (mz_rd (mz_wr m2 251 ((((8 : Int32) * (mz_rd m 239 19)) + (mz_rd m 250 ((mz_rd m 239 19) : Int32).toNatClampNeg)) : Int32).toNatClampNeg v3) 239 11))]) rfl (mz_fe (e := (108, .invokevirtual 258, 182, (189, 2, 18), [])) (by decide +kernel)) rfl (mz_inv_virt (N := 189) (k := 2) (t := 18) (st := [.int 4, .ref 239]) (rest := []) (b := 239) (vs := [.int 4]) (h := (mz_S0, (mz_wr m31 254 ((((8 : Int32) * (mz_rd m 239 19)) + (mz_rd m 250 ((mz_rd m 239 19) : Int32).toNatClampNeg)) : Int32).toNatClampNeg v32))) rfl rfl (Nat.le_of_ble_eq_true rfl) (Nat.le_of_ble_eq_true rfl) tg_239 (by decide)) (mz_dc_lt (n := 2) rfl (by decide +kernel) (by decide +kernel)) (by decide +kernel) (by decide +kernel) (fun m35 => ?_)
      refine q_o (mz_fe (e := (111, .aload_n 0, 1, (0, 0, 0), [])) (by decide +kernel)) (pc2 := 112) rfl ?_
      refine q_getI (mz_fe (e := (112, .getfield 203, 165, (12, 13, 0), [])) (by decide +kernel)) rfl (by decide) tg_239 (by rw [ln_239]; decide) ?_
      refine q_if (c := .ne) (off := 16) (t := 131) (x := (mz_rd m35 239 13)) (y := 0) (st := []) (mz_fe (e := (115, .ifCond .ne 16, 3, (0, 0, 0), [])) (by decide +kernel)) (fun _ => rfl) rfl rfl rfl (fun c38 => ?_) (fun c38 => ?_)
      · exact q_retV (mz_fe (e := (131, .return_, 1, (0, 0, 0), [])) (by decide +kernel)) (by decide +kernel)
      · refine q_o (mz_fe (e := (118, .aload_n 0, 1, (0, 0, 0), [])) (by decide +kernel)) (pc2 := 119) rfl ?_
        refine q_getR (b := 250) (mz_fe (e := (119, .getfield 49, 128, (12, 23, 2), [])) (by decide +kernel)) rfl tg_239 (by rw [ln_239]; decide) (mz_rfS (by decide +kernel)) ?_
        refine q_o (mz_fe (e := (122, .aload_n 0, 1, (0, 0, 0), [])) (by decide +kernel)) (pc2 := 123) rfl ?_
        refine q_getI (mz_fe (e := (123, .getfield 236, 172, (12, 19, 0), [])) (by decide +kernel)) rfl (by decide) tg_239 (by rw [ln_239]; decide) ?_
        refine q_o (mz_fe (e := (126, .dup2, 1, (0, 0, 0), [])) (by decide +kernel)) (pc2 := 127) rfl ?_
        refine q_ialdg rfl (mz_fe (e := (127, .iaload, 1, (0, 0, 0), [])) (by decide +kernel)) rfl (by decide) tg_250 ln_250 (fun g39 => ?_)
        refine q_ic (v := 1) (mz_fe (e := (128, .iconst 1, 1, (0, 0, 0), [])) (by decide +kernel)) (by decide) ?_
        refine q_o (mz_fe (e := (129, .iadd, 1, (0, 0, 0), [])) (by decide +kernel)) (pc2 := 130) rfl ?_
        refine q_stAg (f := (fun x => x)) rfl (mz_fe (e := (130, .iastore, 1, (0, 0, 0), [])) (by decide +kernel)) (fun _ => rfl) rfl tg_250 ln_250 (fun g40 => ?_)
        exact q_retV (mz_fe (e := (131, .return_, 1, (0, 0, 0), [])) (by decide +kernel)) (by decide +kernel)
    · refine q_o (mz_fe (e := (59, .aload_n 0, 1, (0, 0, 0), [])) (by decide +kernel)) (pc2 := 60) rfl ?_
      refine q_getR (b := 251) (mz_fe (e := (60, .getfield 52, 129, (12, 24, 2), [])) (by decide +kernel)) rfl tg_239 (by rw [ln_239]; decide) (mz_rfS (by decide +kernel)) ?_
      refine q_o (mz_fe (e := (63, .iload_n 1, 1, (0, 0, 0), [])) (by decide +kernel)) (pc2 := 64) rfl ?_
      refine q_ialdg rfl (mz_fe (e := (64, .iaload, 1, (0, 0, 0), [])) (by decide +kernel)) rfl (by decide) tg_251 ln_251 (fun g41 => ?_)
      refine q_o (mz_fe (e := (65, .aload_n 0, 1, (0, 0, 0), [])) (by decide +kernel)) (pc2 := 66) rfl ?_
      refine q_getR (b := 252) (mz_fe (e := (66, .getfield 55, 130, (12, 25, 2), [])) (by decide +kernel)) rfl tg_239 (by rw [ln_239]; decide) (mz_rfS (by decide +kernel)) ?_
      refine q_o (mz_fe (e := (69, .iload_n 1, 1, (0, 0, 0), [])) (by decide +kernel)) (pc2 := 70) rfl ?_
      refine q_ialdg rfl (mz_fe (e := (70, .iaload, 1, (0, 0, 0), [])) (by decide +kernel)) rfl (by decide) tg_252 ln_252 (fun g42 => ?_)
      refine q_if (c := .ne) (off := 9) (t := 80) (x := (mz_rd (mz_wr m6 252 ((((8 : Int32) * (mz_rd m 239 19)) + (mz_rd m 250 ((mz_rd m 239 19) : Int32).toNatClampNeg)) : Int32).toNatClampNeg v7) 251 ((((8 : Int32) * (mz_rd m 239 19)) + (mz_rd m 250 ((mz_rd m 239 19) : Int32).toNatClampNeg)) : Int32).toNatClampNeg)) (y := (mz_rd (mz_wr m6 252 ((((8 : Int32) * (mz_rd m 239 19)) + (mz_rd m 250 ((mz_rd m 239 19) : Int32).toNatClampNeg)) : Int32).toNatClampNeg v7) 252 ((((8 : Int32) * (mz_rd m 239 19)) + (mz_rd m 250 ((mz_rd m 239 19) : Int32).toNatClampNeg)) : Int32).toNatClampNeg)) (st := []) (mz_fe (e := (71, .if_icmp .ne 9, 3, (0, 0, 0), [])) (by decide +kernel)) (fun _ => rfl) rfl rfl rfl (fun c43 => ?_) (fun c43 => ?_)
      · refine q_o (mz_fe (e := (80, .aload_n 0, 1, (0, 0, 0), [])) (by decide +kernel)) (pc2 := 81) rfl ?_
        refine q_getR (b := 253) (mz_fe (e := (81, .getfield 58, 131, (12, 26, 2), [])) (by decide +kernel)) rfl tg_239 (by rw [ln_239]; decide) (mz_rfS (by decide +kernel)) ?_
        refine q_o (mz_fe (e := (84, .iload_n 1, 1, (0, 0, 0), [])) (by decide +kernel)) (pc2 := 85) rfl ?_
        refine q_o (mz_fe (e := (85, .aload_n 0, 1, (0, 0, 0), [])) (by decide +kernel)) (pc2 := 86) rfl ?_
        refine q_ic (v := 1) (mz_fe (e := (86, .iconst 1, 1, (0, 0, 0), [])) (by decide +kernel)) (by decide) ?_
        refine q_bi (v := 30) (mz_fe (e := (87, .bipush 30, 2, (0, 0, 0), [])) (by decide +kernel)) (by decide) ?_
        refine q_callI (N := 197) (vs := [.ref 239, .int 1, .int 30]) (rest := [.int (((8 : Int32) * (mz_rd m 239 19)) + (mz_rd m 250 ((mz_rd m 239 19) : Int32).toNatClampNeg)), .ref 253]) (L' := [some (.ref 239), some (.int (((8 : Int32) * (mz_rd m 239 19)) + (mz_rd m 250 ((mz_rd m 239 19) : Int32).toNatClampNeg))), some (.int (mz_rd (mz_wr m2 251 ((((8 : Int32) * (mz_rd m 239 19)) + (mz_rd m 250 ((mz_rd m 239 19) : Int32).toNatClampNeg)) : Int32).toNatClampNeg v3) 239 11))]) (f := fun v45 m44 => mz_g (mz_ok (((8 : Int32) * (mz_rd m 239 19)) + (mz_rd m 250 ((mz_rd m 239 19) : Int32).toNatClampNeg)) 16) ((R_X12_bounded d 0 29 (mz_wr m44 253 ((((8 : Int32) * (mz_rd m 239 19)) + (mz_rd m 250 ((mz_rd m 239 19) : Int32).toNatClampNeg)) : Int32).toNatClampNeg v45)).bind (fun u50 => mz_g (mz_ok (((8 : Int32) * (mz_rd m 239 19)) + (mz_rd m 250 ((mz_rd m 239 19) : Int32).toNatClampNeg)) 16) ((R_X12_must d 4 (mz_wr u50.2 254 ((((8 : Int32) * (mz_rd m 239 19)) + (mz_rd m 250 ((mz_rd m 239 19) : Int32).toNatClampNeg)) : Int32).toNatClampNeg u50.1)).bind (fun m52 => if ¬ (mz_rd m52 239 13) = 0 then some m52 else (mz_g (mz_ok (mz_rd m52 239 19) 2) (mz_g (mz_ok (mz_rd m52 239 19) 2) (some (mz_wr m52 250 ((mz_rd m52 239 19) : Int32).toNatClampNeg ((mz_rd m52 250 ((mz_rd m52 239 19) : Int32).toNatClampNeg) + 1)))))))))) rfl (mz_fe (e := (89, .invokevirtual 254, 181, (197, 3, 18), [])) (by decide +kernel)) rfl (mz_inv_virt (N := 197) (k := 3) (t := 18) (st := [.int 30, .int 1, .ref 239, .int (((8 : Int32) * (mz_rd m 239 19)) + (mz_rd m 250 ((mz_rd m 239 19) : Int32).toNatClampNeg)), .ref 253]) (rest := [.int (((8 : Int32) * (mz_rd m 239 19)) + (mz_rd m 250 ((mz_rd m 239 19) : Int32).toNatClampNeg)), .ref 253]) (b := 239) (vs := [.int 1, .int 30]) (h := (mz_S0, (mz_wr m6 252 ((((8 : Int32) * (mz_rd m 239 19)) + (mz_rd m 250 ((mz_rd m 239 19) : Int32).toNatClampNeg)) : Int32).toNatClampNeg v7))) rfl rfl (Nat.le_of_ble_eq_true rfl) (Nat.le_of_ble_eq_true rfl) tg_239 (by decide)) (mz_dc_lt (n := 3) rfl (by decide +kernel) (by decide +kernel)) (by decide +kernel) (Or.inl (by decide +kernel)) (fun v45 m44 => ?_)
        refine q_stAg (f := (fun x => x)) rfl (mz_fe (e := (92, .iastore, 1, (0, 0, 0), [])) (by decide +kernel)) (fun _ => rfl) rfl tg_253 ln_253 (fun g47 => ?_)
        refine q_o (mz_fe (e := (93, .aload_n 0, 1, (0, 0, 0), [])) (by decide +kernel)) (pc2 := 94) rfl ?_
        refine q_getR (b := 254) (mz_fe (e := (94, .getfield 61, 132, (12, 27, 2), [])) (by decide +kernel)) rfl tg_239 (by rw [ln_239]; decide) (mz_rfS (by decide +kernel)) ?_
        refine q_o (mz_fe (e := (97, .iload_n 1, 1, (0, 0, 0), [])) (by decide +kernel)) (pc2 := 98) rfl ?_
        refine q_o (mz_fe (e := (98, .aload_n 0, 1, (0, 0, 0), [])) (by decide +kernel)) (pc2 := 99) rfl ?_
        refine q_ic (v := 0) (mz_fe (e := (99, .iconst 0, 1, (0, 0, 0), [])) (by decide +kernel)) (by decide) ?_
        refine q_bi (v := 29) (mz_fe (e := (100, .bipush 29, 2, (0, 0, 0), [])) (by decide +kernel)) (by decide) ?_
        refine q_callI (N := 197) (vs := [.ref 239, .int 0, .int 29]) (rest := [.int (((8 : Int32) * (mz_rd m 239 19)) + (mz_rd m 250 ((mz_rd m 239 19) : Int32).toNatClampNeg)), .ref 254]) (L' := [some (.ref 239), some (.int (((8 : Int32) * (mz_rd m 239 19)) + (mz_rd m 250 ((mz_rd m 239 19) : Int32).toNatClampNeg))), some (.int (mz_rd (mz_wr m2 251 ((((8 : Int32) * (mz_rd m 239 19)) + (mz_rd m 250 ((mz_rd m 239 19) : Int32).toNatClampNeg)) : Int32).toNatClampNeg v3) 239 11))]) (f := fun v49 m48 => mz_g (mz_ok (((8 : Int32) * (mz_rd m 239 19)) + (mz_rd m 250 ((mz_rd m 239 19) : Int32).toNatClampNeg)) 16) ((R_X12_must d 4 (mz_wr m48 254 ((((8 : Int32) * (mz_rd m 239 19)) + (mz_rd m 250 ((mz_rd m 239 19) : Int32).toNatClampNeg)) : Int32).toNatClampNeg v49)).bind (fun m52 => if ¬ (mz_rd m52 239 13) = 0 then some m52 else (mz_g (mz_ok (mz_rd m52 239 19) 2) (mz_g (mz_ok (mz_rd m52 239 19) 2) (some (mz_wr m52 250 ((mz_rd m52 239 19) : Int32).toNatClampNeg ((mz_rd m52 250 ((mz_rd m52 239 19) : Int32).toNatClampNeg) + 1)))))))) rfl (mz_fe (e := (102, .invokevirtual 254, 181, (197, 3, 18), [])) (by decide +kernel)) rfl (mz_inv_virt (N := 197) (k := 3) (t := 18) (st := [.int 29, .int 0, .ref 239, .int (((8 : Int32) * (mz_rd m 239 19)) + (mz_rd m 250 ((mz_rd m 239 19) : Int32).toNatClampNeg)), .ref 254]) (rest := [.int (((8 : Int32) * (mz_rd m 239 19)) + (mz_rd m 250 ((mz_rd m 239 19) : Int32).toNatClampNeg)), .ref 254]) (b := 239) (vs := [.int 0, .int 29]) (h := (mz_S0, (mz_wr m44 253 ((((8 : Int32) * (mz_rd m 239 19)) + (mz_rd m 250 ((mz_rd m 239 19) : Int32).toNatClampNeg)) : Int32).toNatClampNeg v45))) rfl rfl (Nat.le_of_ble_eq_true rfl) (Nat.le_of_ble_eq_true rfl) tg_239 (by decide)) (mz_dc_lt (n := 3) rfl (by decide +kernel) (by decide +kernel)) (by decide +kernel) (Or.inl (by decide +kernel)) (fun v49 m48 => ?_)
        refine q_stAg (f := (fun x => x)) rfl (mz_fe (e := (105, .iastore, 1, (0, 0, 0), [])) (by decide +kernel)) (fun _ => rfl) rfl tg_254 ln_254 (fun g51 => ?_)
        refine q_o (mz_fe (e := (106, .aload_n 0, 1, (0, 0, 0), [])) (by decide +kernel)) (pc2 := 107) rfl ?_
        refine q_ic (v := 4) (mz_fe (e := (107, .iconst 4, 1, (0, 0, 0), [])) (by decide +kernel)) (by decide) ?_
        refine q_callV (N := 189) (vs := [.ref 239, .int 4]) (rest := []) (L' := [some (.ref 239), some (.int (((8 : Int32) * (mz_rd m 239 19)) + (mz_rd m 250 ((mz_rd m 239 19) : Int32).toNatClampNeg))), some (.int (mz_rd (mz_wr m2 251 ((((8 : Int32) * (mz_rd m 239 19)) + (mz_rd m 250 ((mz_rd m 239 19) : Int32).toNatClampNeg)) : Int32).toNatClampNeg v3) 239 11))]) rfl (mz_fe (e := (108, .invokevirtual 258, 182, (189, 2, 18), [])) (by decide +kernel)) rfl (mz_inv_virt (N := 189) (k := 2) (t := 18) (st := [.int 4, .ref 239]) (rest := []) (b := 239) (vs := [.int 4]) (h := (mz_S0, (mz_wr m48 254 ((((8 : Int32) * (mz_rd m 239 19)) + (mz_rd m 250 ((mz_rd m 239 19) : Int32).toNatClampNeg)) : Int32).toNatClampNeg v49))) rfl rfl (Nat.le_of_ble_eq_true rfl) (Nat.le_of_ble_eq_true rfl) tg_239 (by decide)) (mz_dc_lt (n := 2) rfl (by decide +kernel) (by decide +kernel)) (by decide +kernel) (by decide +kernel) (fun m52 => ?_)
        refine q_o (mz_fe (e := (111, .aload_n 0, 1, (0, 0, 0), [])) (by decide +kernel)) (pc2 := 112) rfl ?_
        refine q_getI (mz_fe (e := (112, .getfield 203, 165, (12, 13, 0), [])) (by decide +kernel)) rfl (by decide) tg_239 (by rw [ln_239]; decide) ?_
        refine q_if (c := .ne) (off := 16) (t := 131) (x := (mz_rd m52 239 13)) (y := 0) (st := []) (mz_fe (e := (115, .ifCond .ne 16, 3, (0, 0, 0), [])) (by decide +kernel)) (fun _ => rfl) rfl rfl rfl (fun c55 => ?_) (fun c55 => ?_)
        · exact q_retV (mz_fe (e := (131, .return_, 1, (0, 0, 0), [])) (by decide +kernel)) (by decide +kernel)
        · refine q_o (mz_fe (e := (118, .aload_n 0, 1, (0, 0, 0), [])) (by decide +kernel)) (pc2 := 119) rfl ?_
          refine q_getR (b := 250) (mz_fe (e := (119, .getfield 49, 128, (12, 23, 2), [])) (by decide +kernel)) rfl tg_239 (by rw [ln_239]; decide) (mz_rfS (by decide +kernel)) ?_
          refine q_o (mz_fe (e := (122, .aload_n 0, 1, (0, 0, 0), [])) (by decide +kernel)) (pc2 := 123) rfl ?_
          refine q_getI (mz_fe (e := (123, .getfield 236, 172, (12, 19, 0), [])) (by decide +kernel)) rfl (by decide) tg_239 (by rw [ln_239]; decide) ?_
          refine q_o (mz_fe (e := (126, .dup2, 1, (0, 0, 0), [])) (by decide +kernel)) (pc2 := 127) rfl ?_
          refine q_ialdg rfl (mz_fe (e := (127, .iaload, 1, (0, 0, 0), [])) (by decide +kernel)) rfl (by decide) tg_250 ln_250 (fun g56 => ?_)
          refine q_ic (v := 1) (mz_fe (e := (128, .iconst 1, 1, (0, 0, 0), [])) (by decide +kernel)) (by decide) ?_
          refine q_o (mz_fe (e := (129, .iadd, 1, (0, 0, 0), [])) (by decide +kernel)) (pc2 := 130) rfl ?_
          refine q_stAg (f := (fun x => x)) rfl (mz_fe (e := (130, .iastore, 1, (0, 0, 0), [])) (by decide +kernel)) (fun _ => rfl) rfl tg_250 ln_250 (fun g57 => ?_)
          exact q_retV (mz_fe (e := (131, .return_, 1, (0, 0, 0), [])) (by decide +kernel)) (by decide +kernel)
      · refine q_o (mz_fe (e := (74, .aload_n 0, 1, (0, 0, 0), [])) (by decide +kernel)) (pc2 := 75) rfl ?_
        refine q_ic (v := 3) (mz_fe (e := (75, .iconst 3, 1, (0, 0, 0), [])) (by decide +kernel)) (by decide) ?_
        refine q_o (mz_fe (e := (76, .iload_n 2, 1, (0, 0, 0), [])) (by decide +kernel)) (pc2 := 77) rfl ?_
        refine q_callV (N := 187) (vs := [.ref 239, .int 3, .int (mz_rd (mz_wr m2 251 ((((8 : Int32) * (mz_rd m 239 19)) + (mz_rd m 250 ((mz_rd m 239 19) : Int32).toNatClampNeg)) : Int32).toNatClampNeg v3) 239 11)]) (rest := []) (L' := [some (.ref 239), some (.int (((8 : Int32) * (mz_rd m 239 19)) + (mz_rd m 250 ((mz_rd m 239 19) : Int32).toNatClampNeg))), some (.int (mz_rd (mz_wr m2 251 ((((8 : Int32) * (mz_rd m 239 19)) + (mz_rd m 250 ((mz_rd m 239 19) : Int32).toNatClampNeg)) : Int32).toNatClampNeg v3) 239 11))]) rfl (mz_fe (e := (77, .invokevirtual 277, 188, (187, 3, 18), [])) (by decide +kernel)) rfl (mz_inv_virt (N := 187) (k := 3) (t := 18) (st := [.int (mz_rd (mz_wr m2 251 ((((8 : Int32) * (mz_rd m 239 19)) + (mz_rd m 250 ((mz_rd m 239 19) : Int32).toNatClampNeg)) : Int32).toNatClampNeg v3) 239 11), .int 3, .ref 239]) (rest := []) (b := 239) (vs := [.int 3, .int (mz_rd (mz_wr m2 251 ((((8 : Int32) * (mz_rd m 239 19)) + (mz_rd m 250 ((mz_rd m 239 19) : Int32).toNatClampNeg)) : Int32).toNatClampNeg v3) 239 11)]) (h := (mz_S0, (mz_wr m6 252 ((((8 : Int32) * (mz_rd m 239 19)) + (mz_rd m 250 ((mz_rd m 239 19) : Int32).toNatClampNeg)) : Int32).toNatClampNeg v7))) rfl rfl (Nat.le_of_ble_eq_true rfl) (Nat.le_of_ble_eq_true rfl) tg_239 (by decide)) (mz_dc_lt (n := 3) rfl (by decide +kernel) (by decide +kernel)) (by decide +kernel) (by decide +kernel) (fun m58 => ?_)
        refine q_o (mz_fe (e := (80, .aload_n 0, 1, (0, 0, 0), [])) (by decide +kernel)) (pc2 := 81) rfl ?_
        refine q_getR (b := 253) (mz_fe (e := (81, .getfield 58, 131, (12, 26, 2), [])) (by decide +kernel)) rfl tg_239 (by rw [ln_239]; decide) (mz_rfS (by decide +kernel)) ?_
        refine q_o (mz_fe (e := (84, .iload_n 1, 1, (0, 0, 0), [])) (by decide +kernel)) (pc2 := 85) rfl ?_
        refine q_o (mz_fe (e := (85, .aload_n 0, 1, (0, 0, 0), [])) (by decide +kernel)) (pc2 := 86) rfl ?_
        refine q_ic (v := 1) (mz_fe (e := (86, .iconst 1, 1, (0, 0, 0), [])) (by decide +kernel)) (by decide) ?_
        refine q_bi (v := 30) (mz_fe (e := (87, .bipush 30, 2, (0, 0, 0), [])) (by decide +kernel)) (by decide) ?_
        refine q_callI (N := 197) (vs := [.ref 239, .int 1, .int 30]) (rest := [.int (((8 : Int32) * (mz_rd m 239 19)) + (mz_rd m 250 ((mz_rd m 239 19) : Int32).toNatClampNeg)), .ref 253]) (L' := [some (.ref 239), some (.int (((8 : Int32) * (mz_rd m 239 19)) + (mz_rd m 250 ((mz_rd m 239 19) : Int32).toNatClampNeg))), some (.int (mz_rd (mz_wr m2 251 ((((8 : Int32) * (mz_rd m 239 19)) + (mz_rd m 250 ((mz_rd m 239 19) : Int32).toNatClampNeg)) : Int32).toNatClampNeg v3) 239 11))]) (f := fun v62 m61 => mz_g (mz_ok (((8 : Int32) * (mz_rd m 239 19)) + (mz_rd m 250 ((mz_rd m 239 19) : Int32).toNatClampNeg)) 16) ((R_X12_bounded d 0 29 (mz_wr m61 253 ((((8 : Int32) * (mz_rd m 239 19)) + (mz_rd m 250 ((mz_rd m 239 19) : Int32).toNatClampNeg)) : Int32).toNatClampNeg v62)).bind (fun u67 => mz_g (mz_ok (((8 : Int32) * (mz_rd m 239 19)) + (mz_rd m 250 ((mz_rd m 239 19) : Int32).toNatClampNeg)) 16) ((R_X12_must d 4 (mz_wr u67.2 254 ((((8 : Int32) * (mz_rd m 239 19)) + (mz_rd m 250 ((mz_rd m 239 19) : Int32).toNatClampNeg)) : Int32).toNatClampNeg u67.1)).bind (fun m69 => if ¬ (mz_rd m69 239 13) = 0 then some m69 else (mz_g (mz_ok (mz_rd m69 239 19) 2) (mz_g (mz_ok (mz_rd m69 239 19) 2) (some (mz_wr m69 250 ((mz_rd m69 239 19) : Int32).toNatClampNeg ((mz_rd m69 250 ((mz_rd m69 239 19) : Int32).toNatClampNeg) + 1)))))))))) rfl (mz_fe (e := (89, .invokevirtual 254, 181, (197, 3, 18), [])) (by decide +kernel)) rfl (mz_inv_virt (N := 197) (k := 3) (t := 18) (st := [.int 30, .int 1, .ref 239, .int (((8 : Int32) * (mz_rd m 239 19)) + (mz_rd m 250 ((mz_rd m 239 19) : Int32).toNatClampNeg)), .ref 253]) (rest := [.int (((8 : Int32) * (mz_rd m 239 19)) + (mz_rd m 250 ((mz_rd m 239 19) : Int32).toNatClampNeg)), .ref 253]) (b := 239) (vs := [.int 1, .int 30]) (h := (mz_S0, m58)) rfl rfl (Nat.le_of_ble_eq_true rfl) (Nat.le_of_ble_eq_true rfl) tg_239 (by decide)) (mz_dc_lt (n := 3) rfl (by decide +kernel) (by decide +kernel)) (by decide +kernel) (Or.inl (by decide +kernel)) (fun v62 m61 => ?_)
        refine q_stAg (f := (fun x => x)) rfl (mz_fe (e := (92, .iastore, 1, (0, 0, 0), [])) (by decide +kernel)) (fun _ => rfl) rfl tg_253 ln_253 (fun g64 => ?_)
        refine q_o (mz_fe (e := (93, .aload_n 0, 1, (0, 0, 0), [])) (by decide +kernel)) (pc2 := 94) rfl ?_
        refine q_getR (b := 254) (mz_fe (e := (94, .getfield 61, 132, (12, 27, 2), [])) (by decide +kernel)) rfl tg_239 (by rw [ln_239]; decide) (mz_rfS (by decide +kernel)) ?_
        refine q_o (mz_fe (e := (97, .iload_n 1, 1, (0, 0, 0), [])) (by decide +kernel)) (pc2 := 98) rfl ?_
        refine q_o (mz_fe (e := (98, .aload_n 0, 1, (0, 0, 0), [])) (by decide +kernel)) (pc2 := 99) rfl ?_
        refine q_ic (v := 0) (mz_fe (e := (99, .iconst 0, 1, (0, 0, 0), [])) (by decide +kernel)) (by decide) ?_
        refine q_bi (v := 29) (mz_fe (e := (100, .bipush 29, 2, (0, 0, 0), [])) (by decide +kernel)) (by decide) ?_
        refine q_callI (N := 197) (vs := [.ref 239, .int 0, .int 29]) (rest := [.int (((8 : Int32) * (mz_rd m 239 19)) + (mz_rd m 250 ((mz_rd m 239 19) : Int32).toNatClampNeg)), .ref 254]) (L' := [some (.ref 239), some (.int (((8 : Int32) * (mz_rd m 239 19)) + (mz_rd m 250 ((mz_rd m 239 19) : Int32).toNatClampNeg))), some (.int (mz_rd (mz_wr m2 251 ((((8 : Int32) * (mz_rd m 239 19)) + (mz_rd m 250 ((mz_rd m 239 19) : Int32).toNatClampNeg)) : Int32).toNatClampNeg v3) 239 11))]) (f := fun v66 m65 => mz_g (mz_ok (((8 : Int32) * (mz_rd m 239 19)) + (mz_rd m 250 ((mz_rd m 239 19) : Int32).toNatClampNeg)) 16) ((R_X12_must d 4 (mz_wr m65 254 ((((8 : Int32) * (mz_rd m 239 19)) + (mz_rd m 250 ((mz_rd m 239 19) : Int32).toNatClampNeg)) : Int32).toNatClampNeg v66)).bind (fun m69 => if ¬ (mz_rd m69 239 13) = 0 then some m69 else (mz_g (mz_ok (mz_rd m69 239 19) 2) (mz_g (mz_ok (mz_rd m69 239 19) 2) (some (mz_wr m69 250 ((mz_rd m69 239 19) : Int32).toNatClampNeg ((mz_rd m69 250 ((mz_rd m69 239 19) : Int32).toNatClampNeg) + 1)))))))) rfl (mz_fe (e := (102, .invokevirtual 254, 181, (197, 3, 18), [])) (by decide +kernel)) rfl (mz_inv_virt (N := 197) (k := 3) (t := 18) (st := [.int 29, .int 0, .ref 239, .int (((8 : Int32) * (mz_rd m 239 19)) + (mz_rd m 250 ((mz_rd m 239 19) : Int32).toNatClampNeg)), .ref 254]) (rest := [.int (((8 : Int32) * (mz_rd m 239 19)) + (mz_rd m 250 ((mz_rd m 239 19) : Int32).toNatClampNeg)), .ref 254]) (b := 239) (vs := [.int 0, .int 29]) (h := (mz_S0, (mz_wr m61 253 ((((8 : Int32) * (mz_rd m 239 19)) + (mz_rd m 250 ((mz_rd m 239 19) : Int32).toNatClampNeg)) : Int32).toNatClampNeg v62))) rfl rfl (Nat.le_of_ble_eq_true rfl) (Nat.le_of_ble_eq_true rfl) tg_239 (by decide)) (mz_dc_lt (n := 3) rfl (by decide +kernel) (by decide +kernel)) (by decide +kernel) (Or.inl (by decide +kernel)) (fun v66 m65 => ?_)
        refine q_stAg (f := (fun x => x)) rfl (mz_fe (e := (105, .iastore, 1, (0, 0, 0), [])) (by decide +kernel)) (fun _ => rfl) rfl tg_254 ln_254 (fun g68 => ?_)
        refine q_o (mz_fe (e := (106, .aload_n 0, 1, (0, 0, 0), [])) (by decide +kernel)) (pc2 := 107) rfl ?_
        refine q_ic (v := 4) (mz_fe (e := (107, .iconst 4, 1, (0, 0, 0), [])) (by decide +kernel)) (by decide) ?_
        refine q_callV (N := 189) (vs := [.ref 239, .int 4]) (rest := []) (L' := [some (.ref 239), some (.int (((8 : Int32) * (mz_rd m 239 19)) + (mz_rd m 250 ((mz_rd m 239 19) : Int32).toNatClampNeg))), some (.int (mz_rd (mz_wr m2 251 ((((8 : Int32) * (mz_rd m 239 19)) + (mz_rd m 250 ((mz_rd m 239 19) : Int32).toNatClampNeg)) : Int32).toNatClampNeg v3) 239 11))]) rfl (mz_fe (e := (108, .invokevirtual 258, 182, (189, 2, 18), [])) (by decide +kernel)) rfl (mz_inv_virt (N := 189) (k := 2) (t := 18) (st := [.int 4, .ref 239]) (rest := []) (b := 239) (vs := [.int 4]) (h := (mz_S0, (mz_wr m65 254 ((((8 : Int32) * (mz_rd m 239 19)) + (mz_rd m 250 ((mz_rd m 239 19) : Int32).toNatClampNeg)) : Int32).toNatClampNeg v66))) rfl rfl (Nat.le_of_ble_eq_true rfl) (Nat.le_of_ble_eq_true rfl) tg_239 (by decide)) (mz_dc_lt (n := 2) rfl (by decide +kernel) (by decide +kernel)) (by decide +kernel) (by decide +kernel) (fun m69 => ?_)
        refine q_o (mz_fe (e := (111, .aload_n 0, 1, (0, 0, 0), [])) (by decide +kernel)) (pc2 := 112) rfl ?_
        refine q_getI (mz_fe (e := (112, .getfield 203, 165, (12, 13, 0), [])) (by decide +kernel)) rfl (by decide) tg_239 (by rw [ln_239]; decide) ?_
        refine q_if (c := .ne) (off := 16) (t := 131) (x := (mz_rd m69 239 13)) (y := 0) (st := []) (mz_fe (e := (115, .ifCond .ne 16, 3, (0, 0, 0), [])) (by decide +kernel)) (fun _ => rfl) rfl rfl rfl (fun c72 => ?_) (fun c72 => ?_)
        · exact q_retV (mz_fe (e := (131, .return_, 1, (0, 0, 0), [])) (by decide +kernel)) (by decide +kernel)
        · refine q_o (mz_fe (e := (118, .aload_n 0, 1, (0, 0, 0), [])) (by decide +kernel)) (pc2 := 119) rfl ?_
          refine q_getR (b := 250) (mz_fe (e := (119, .getfield 49, 128, (12, 23, 2), [])) (by decide +kernel)) rfl tg_239 (by rw [ln_239]; decide) (mz_rfS (by decide +kernel)) ?_
          refine q_o (mz_fe (e := (122, .aload_n 0, 1, (0, 0, 0), [])) (by decide +kernel)) (pc2 := 123) rfl ?_
          refine q_getI (mz_fe (e := (123, .getfield 236, 172, (12, 19, 0), [])) (by decide +kernel)) rfl (by decide) tg_239 (by rw [ln_239]; decide) ?_
          refine q_o (mz_fe (e := (126, .dup2, 1, (0, 0, 0), [])) (by decide +kernel)) (pc2 := 127) rfl ?_
          refine q_ialdg rfl (mz_fe (e := (127, .iaload, 1, (0, 0, 0), [])) (by decide +kernel)) rfl (by decide) tg_250 ln_250 (fun g73 => ?_)
          refine q_ic (v := 1) (mz_fe (e := (128, .iconst 1, 1, (0, 0, 0), [])) (by decide +kernel)) (by decide) ?_
          refine q_o (mz_fe (e := (129, .iadd, 1, (0, 0, 0), [])) (by decide +kernel)) (pc2 := 130) rfl ?_
          refine q_stAg (f := (fun x => x)) rfl (mz_fe (e := (130, .iastore, 1, (0, 0, 0), [])) (by decide +kernel)) (fun _ => rfl) rfl tg_250 ln_250 (fun g74 => ?_)
          exact q_retV (mz_fe (e := (131, .return_, 1, (0, 0, 0), [])) (by decide +kernel)) (by decide +kernel)
set_option maxRecDepth 10000 in
theorem R_X12_term_eq (d : Nat)  (m : MzM)  : R_X12_term d  m = mz_g (mz_ok (mz_rd m 239 33) 260) (if ¬ (mz_rd (mz_wr m 263 ((mz_rd m 239 33) : Int32).toNatClampNeg (mz_rd m 239 39)) 239 13) = 0 then (mz_g (mz_ok (mz_rd (mz_wr m 263 ((mz_rd m 239 33) : Int32).toNatClampNeg (mz_rd m 239 39)) 239 33) 260) (some (mz_wr (mz_wr (mz_wr m 263 ((mz_rd m 239 33) : Int32).toNatClampNeg (mz_rd m 239 39)) 264 ((mz_rd (mz_wr m 263 ((mz_rd m 239 33) : Int32).toNatClampNeg (mz_rd m 239 39)) 239 33) : Int32).toNatClampNeg (mz_rd (mz_wr m 263 ((mz_rd m 239 33) : Int32).toNatClampNeg (mz_rd m 239 39)) 239 39)) 239 33 ((mz_rd (mz_wr (mz_wr m 263 ((mz_rd m 239 33) : Int32).toNatClampNeg (mz_rd m 239 39)) 264 ((mz_rd (mz_wr m 263 ((mz_rd m 239 33) : Int32).toNatClampNeg (mz_rd m 239 39)) 239 33) : Int32).toNatClampNeg (mz_rd (mz_wr m 263 ((mz_rd m 239 33) : Int32).toNatClampNeg (mz_rd m 239 39)) 239 39)) 239 33) + 1)))) else ((R_X12_expression d  (mz_wr m 263 ((mz_rd m 239 33) : Int32).toNatClampNeg (mz_rd m 239 39))).bind (fun m4 => mz_g (mz_ok (mz_rd m4 239 33) 260) (some (mz_wr (mz_wr m4 264 ((mz_rd m4 239 33) : Int32).toNatClampNeg (mz_rd m4 239 39)) 239 33 ((mz_rd (mz_wr m4 264 ((mz_rd m4 239 33) : Int32).toNatClampNeg (mz_rd m4 239 39)) 239 33) + 1)))))) := by
  show mz_cV (mz_T d 202 0 (mz_en (mz_xl 202) [.ref 239]) [] m) = _
  rw [show mz_en (mz_xl 202) [.ref 239] = [some (.ref 239)] from by rw [show mz_xl 202 = 1 from by decide +kernel]; rfl]
  refine q_o (mz_fe (e := (0, .aload_n 0, 1, (0, 0, 0), [])) (by decide +kernel)) (pc2 := 1) rfl ?_
  refine q_getR (b := 263) (mz_fe (e := (1, .getfield 89, 141, (12, 37, 2), [])) (by decide +kernel)) rfl tg_239 (by rw [ln_239]; decide) (mz_rfS (by decide +kernel)) ?_
  refine q_o (mz_fe (e := (4, .aload_n 0, 1, (0, 0, 0), [])) (by decide +kernel)) (pc2 := 5) rfl ?_
  refine q_getI (mz_fe (e := (5, .getfield 239, 173, (12, 33, 0), [])) (by decide +kernel)) rfl (by decide) tg_239 (by rw [ln_239]; decide) ?_
  refine q_o (mz_fe (e := (8, .aload_n 0, 1, (0, 0, 0), [])) (by decide +kernel)) (pc2 := 9) rfl ?_
  refine q_getI (mz_fe (e := (9, .getfield 242, 174, (12, 39, 0), [])) (by decide +kernel)) rfl (by decide) tg_239 (by rw [ln_239]; decide) ?_
  refine q_stAg (f := (fun x => x)) rfl (mz_fe (e := (12, .iastore, 1, (0, 0, 0), [])) (by decide +kernel)) (fun _ => rfl) rfl tg_263 ln_263 (fun g1 => ?_)
  refine q_o (mz_fe (e := (13, .aload_n 0, 1, (0, 0, 0), [])) (by decide +kernel)) (pc2 := 14) rfl ?_
  refine q_getI (mz_fe (e := (14, .getfield 203, 165, (12, 13, 0), [])) (by decide +kernel)) rfl (by decide) tg_239 (by rw [ln_239]; decide) ?_
  refine q_if (c := .ne) (off := 7) (t := 24) (x := (mz_rd (mz_wr m 263 ((mz_rd m 239 33) : Int32).toNatClampNeg (mz_rd m 239 39)) 239 13)) (y := 0) (st := []) (mz_fe (e := (17, .ifCond .ne 7, 3, (0, 0, 0), [])) (by decide +kernel)) (fun _ => rfl) rfl rfl rfl (fun c2 => ?_) (fun c2 => ?_)
  · refine q_o (mz_fe (e := (24, .aload_n 0, 1, (0, 0, 0), [])) (by decide +kernel)) (pc2 := 25) rfl ?_
    refine q_getR (b := 264) (mz_fe (e := (25, .getfield 92, 142, (12, 38, 2), [])) (by decide +kernel)) rfl tg_239 (by rw [ln_239]; decide) (mz_rfS (by decide +kernel)) ?_
    refine q_o (mz_fe (e := (28, .aload_n 0, 1, (0, 0, 0), [])) (by decide +kernel)) (pc2 := 29) rfl ?_
    refine q_getI (mz_fe (e := (29, .getfield 239, 173, (12, 33, 0), [])) (by decide +kernel)) rfl (by decide) tg_239 (by rw [ln_239]; decide) ?_
    refine q_o (mz_fe (e := (32, .aload_n 0, 1, (0, 0, 0), [])) (by decide +kernel)) (pc2 := 33) rfl ?_
    refine q_getI (mz_fe (e := (33, .getfield 242, 174, (12, 39, 0), [])) (by decide +kernel)) rfl (by decide) tg_239 (by rw [ln_239]; decide) ?_
    refine q_stAg (f := (fun x => x)) rfl (mz_fe (e := (36, .iastore, 1, (0, 0, 0), [])) (by decide +kernel)) (fun _ => rfl) rfl tg_264 ln_264 (fun g3 => ?_)
    refine q_o (mz_fe (e := (37, .aload_n 0, 1, (0, 0, 0), [])) (by decide +kernel)) (pc2 := 38) rfl ?_
    refine q_o (mz_fe (e := (38, .dup, 1, (0, 0, 0), [])) (by decide +kernel)) (pc2 := 39) rfl ?_
    refine q_getI (mz_fe (e := (39, .getfield 239, 173, (12, 33, 0), [])) (by decide +kernel)) rfl (by decide) tg_239 (by rw [ln_239]; decide) ?_
    refine q_ic (v := 1) (mz_fe (e := (42, .iconst 1, 1, (0, 0, 0), [])) (by decide +kernel)) (by decide) ?_
    refine q_o (mz_fe (e := (43, .iadd, 1, (0, 0, 0), [])) (by decide +kernel)) (pc2 := 44) rfl ?_
    refine q_putI (mz_fe (e := (44, .putfield 239, 173, (12, 33, 0), [])) (by decide +kernel)) rfl tg_239 (by rw [ln_239]; decide) ?_
    exact q_retV (mz_fe (e := (47, .return_, 1, (0, 0, 0), [])) (by decide +kernel)) (by decide +kernel)
  · refine q_o (mz_fe (e := (20, .aload_n 0, 1, (0, 0, 0), [])) (by decide +kernel)) (pc2 := 21) rfl ?_
    refine q_callV (N := 205) (vs := [.ref 239]) (rest := []) (L' := [some (.ref 239)]) rfl (mz_fe (e := (21, .invokevirtual 287, 191, (205, 1, 18), [])) (by decide +kernel)) rfl (mz_inv_virt (N := 205) (k := 1) (t := 18) (st := [.ref 239]) (rest := []) (b := 239) (vs := []) (h := (mz_S0, (mz_wr m 263 ((mz_rd m 239 33) : Int32).toNatClampNeg (mz_rd m 239 39)))) rfl rfl (Nat.le_of_ble_eq_true rfl) (Nat.le_of_ble_eq_true rfl) tg_239 (by decide)) (mz_dc_lt (n := 1) rfl (by decide +kernel) (by decide +kernel)) (by decide +kernel) (by decide +kernel) (fun m4 => ?_)
    refine q_o (mz_fe (e := (24, .aload_n 0, 1, (0, 0, 0), [])) (by decide +kernel)) (pc2 := 25) rfl ?_
    refine q_getR (b := 264) (mz_fe (e := (25, .getfield 92, 142, (12, 38, 2), [])) (by decide +kernel)) rfl tg_239 (by rw [ln_239]; decide) (mz_rfS (by decide +kernel)) ?_
    refine q_o (mz_fe (e := (28, .aload_n 0, 1, (0, 0, 0), [])) (by decide +kernel)) (pc2 := 29) rfl ?_
    refine q_getI (mz_fe (e := (29, .getfield 239, 173, (12, 33, 0), [])) (by decide +kernel)) rfl (by decide) tg_239 (by rw [ln_239]; decide) ?_
    refine q_o (mz_fe (e := (32, .aload_n 0, 1, (0, 0, 0), [])) (by decide +kernel)) (pc2 := 33) rfl ?_
    refine q_getI (mz_fe (e := (33, .getfield 242, 174, (12, 39, 0), [])) (by decide +kernel)) rfl (by decide) tg_239 (by rw [ln_239]; decide) ?_
    refine q_stAg (f := (fun x => x)) rfl (mz_fe (e := (36, .iastore, 1, (0, 0, 0), [])) (by decide +kernel)) (fun _ => rfl) rfl tg_264 ln_264 (fun g7 => ?_)
    refine q_o (mz_fe (e := (37, .aload_n 0, 1, (0, 0, 0), [])) (by decide +kernel)) (pc2 := 38) rfl ?_
    refine q_o (mz_fe (e := (38, .dup, 1, (0, 0, 0), [])) (by decide +kernel)) (pc2 := 39) rfl ?_
    refine q_getI (mz_fe (e := (39, .getfield 239, 173, (12, 33, 0), [])) (by decide +kernel)) rfl (by decide) tg_239 (by rw [ln_239]; decide) ?_
    refine q_ic (v := 1) (mz_fe (e := (42, .iconst 1, 1, (0, 0, 0), [])) (by decide +kernel)) (by decide) ?_
    refine q_o (mz_fe (e := (43, .iadd, 1, (0, 0, 0), [])) (by decide +kernel)) (pc2 := 44) rfl ?_
    refine q_putI (mz_fe (e := (44, .putfield 239, 173, (12, 33, 0), [])) (by decide +kernel)) rfl tg_239 (by rw [ln_239]; decide) ?_
    exact q_retV (mz_fe (e := (47, .return_, 1, (0, 0, 0), [])) (by decide +kernel)) (by decide +kernel)
set_option maxRecDepth 10000 in
theorem R_X12_comesOut_eq (d : Nat) (x0 : Int32) (m : MzM)  : R_X12_comesOut d x0 m = if (mz_rd m 239 43) ≤ 0 then some m else (mz_g (mz_ok ((mz_rd m 239 43) - 1) 64) (if (mz_rd m 267 (((mz_rd m 239 43) - 1) : Int32).toNatClampNeg) = 6 then some m else (if x0 = 0 then (if ¬ (mz_rd m 267 (((mz_rd m 239 43) - 1) : Int32).toNatClampNeg) = 8 then (if ¬ (mz_rd m 267 (((mz_rd m 239 43) - 1) : Int32).toNatClampNeg) = 9 then (if ¬ (mz_rd m 267 (((mz_rd m 239 43) - 1) : Int32).toNatClampNeg) = 10 then ((R_X12_emit d 5 0 (mz_wr m 239 43 ((mz_rd m 239 43) - 1))).bind (fun m8 => H_X12_comesOut_0 d x0 m8)) else ((R_X12_emit d 4 0 (mz_wr m 239 43 ((mz_rd m 239 43) - 1))).bind (fun m11 => H_X12_comesOut_0 d x0 m11))) else ((R_X12_emit d 3 0 (mz_wr m 239 43 ((mz_rd m 239 43) - 1))).bind (fun m14 => H_X12_comesOut_0 d x0 m14))) else ((R_X12_emit d 2 0 (mz_wr m 239 43 ((mz_rd m 239 43) - 1))).bind (fun m17 => H_X12_comesOut_0 d x0 m17))) else (if (mz_rd m 267 (((mz_rd m 239 43) - 1) : Int32).toNatClampNeg) = 8 then some m else (if ¬ (mz_rd m 267 (((mz_rd m 239 43) - 1) : Int32).toNatClampNeg) = 9 then (if ¬ (mz_rd m 267 (((mz_rd m 239 43) - 1) : Int32).toNatClampNeg) = 8 then (if ¬ (mz_rd m 267 (((mz_rd m 239 43) - 1) : Int32).toNatClampNeg) = 9 then (if ¬ (mz_rd m 267 (((mz_rd m 239 43) - 1) : Int32).toNatClampNeg) = 10 then ((R_X12_emit d 5 0 (mz_wr m 239 43 ((mz_rd m 239 43) - 1))).bind (fun m25 => H_X12_comesOut_0 d x0 m25)) else ((R_X12_emit d 4 0 (mz_wr m 239 43 ((mz_rd m 239 43) - 1))).bind (fun m28 => H_X12_comesOut_0 d x0 m28))) else ((R_X12_emit d 3 0 (mz_wr m 239 43 ((mz_rd m 239 43) - 1))).bind (fun m31 => H_X12_comesOut_0 d x0 m31))) else ((R_X12_emit d 2 0 (mz_wr m 239 43 ((mz_rd m 239 43) - 1))).bind (fun m34 => H_X12_comesOut_0 d x0 m34))) else some m))))) := by
  show mz_cV (mz_T d 204 0 (mz_en (mz_xl 204) [.ref 239, .int x0]) [] m) = _
  rw [show mz_en (mz_xl 204) [.ref 239, .int x0] = [some (.ref 239), some (.int x0), none] from by rw [show mz_xl 204 = 3 from by decide +kernel]; rfl]
  refine q_s (mz_fe (e := (0, .aload_n 0, 1, (0, 0, 0), [true, true, false])) (by decide +kernel)) (pc' := 1) (L' := [some (.ref 239), some (.int x0), none]) (st' := [.ref 239]) rfl ?_
  refine q_getI (mz_fe (e := (1, .getfield 293, 177, (12, 43, 0), [])) (by decide +kernel)) rfl (by decide) tg_239 (by rw [ln_239]; decide) ?_
  refine q_if (c := .le) (off := 87) (t := 91) (x := (mz_rd m 239 43)) (y := 0) (st := []) (mz_fe (e := (4, .ifCond .le 87, 3, (0, 0, 0), [])) (by decide +kernel)) (fun _ => rfl) rfl rfl rfl (fun c1 => ?_) (fun c1 => ?_)
  · exact q_retV (mz_fe (e := (91, .return_, 1, (0, 0, 0), [])) (by decide +kernel)) (by decide +kernel)
  · refine q_o (mz_fe (e := (7, .aload_n 0, 1, (0, 0, 0), [])) (by decide +kernel)) (pc2 := 8) rfl ?_
    refine q_getR (b := 267) (mz_fe (e := (8, .getfield 101, 145, (12, 42, 2), [])) (by decide +kernel)) rfl tg_239 (by rw [ln_239]; decide) (mz_rfS (by decide +kernel)) ?_
    refine q_o (mz_fe (e := (11, .aload_n 0, 1, (0, 0, 0), [])) (by decide +kernel)) (pc2 := 12) rfl ?_
    refine q_getI (mz_fe (e := (12, .getfield 293, 177, (12, 43, 0), [])) (by decide +kernel)) rfl (by decide) tg_239 (by rw [ln_239]; decide) ?_
    refine q_ic (v := 1) (mz_fe (e := (15, .iconst 1, 1, (0, 0, 0), [])) (by decide +kernel)) (by decide) ?_
    refine q_o (mz_fe (e := (16, .isub, 1, (0, 0, 0), [])) (by decide +kernel)) (pc2 := 17) rfl ?_
    refine q_ialdg rfl (mz_fe (e := (17, .iaload, 1, (0, 0, 0), [])) (by decide +kernel)) rfl (by decide) tg_267 ln_267 (fun g2 => ?_)
    refine q_s (mz_fe (e := (18, .istore_n 2, 1, (0, 0, 0), [])) (by decide +kernel)) (pc' := 19) (L' := [some (.ref 239), some (.int x0), some (.int (mz_rd m 267 (((mz_rd m 239 43) - 1) : Int32).toNatClampNeg))]) (st' := []) rfl ?_
    refine q_o (mz_fe (e := (19, .iload_n 2, 1, (0, 0, 0), [])) (by decide +kernel)) (pc2 := 20) rfl ?_
    refine q_bi (v := 6) (mz_fe (e := (20, .bipush 6, 2, (0, 0, 0), [])) (by decide +kernel)) (by decide) ?_
    refine q_if (c := .eq) (off := 19) (t := 41) (x := (mz_rd m 267 (((mz_rd m 239 43) - 1) : Int32).toNatClampNeg)) (y := 6) (st := []) (mz_fe (e := (22, .if_icmp .eq 19, 3, (0, 0, 0), [])) (by decide +kernel)) (fun _ => rfl) rfl rfl rfl (fun c3 => ?_) (fun c3 => ?_)
    · exact q_retV (mz_fe (e := (41, .return_, 1, (0, 0, 0), [])) (by decide +kernel)) (by decide +kernel)
    · refine q_o (mz_fe (e := (25, .iload_n 1, 1, (0, 0, 0), [])) (by decide +kernel)) (pc2 := 26) rfl ?_
      refine q_if (c := .eq) (off := 16) (t := 42) (x := x0) (y := 0) (st := []) (mz_fe (e := (26, .ifCond .eq 16, 3, (0, 0, 0), [])) (by decide +kernel)) (fun _ => rfl) rfl rfl rfl (fun c4 => ?_) (fun c4 => ?_)
      · refine q_o (mz_fe (e := (42, .aload_n 0, 1, (0, 0, 0), [])) (by decide +kernel)) (pc2 := 43) rfl ?_
        refine q_o (mz_fe (e := (43, .dup, 1, (0, 0, 0), [])) (by decide +kernel)) (pc2 := 44) rfl ?_
        refine q_getI (mz_fe (e := (44, .getfield 293, 177, (12, 43, 0), [])) (by decide +kernel)) rfl (by decide) tg_239 (by rw [ln_239]; decide) ?_
        refine q_ic (v := 1) (mz_fe (e := (47, .iconst 1, 1, (0, 0, 0), [])) (by decide +kernel)) (by decide) ?_
        refine q_o (mz_fe (e := (48, .isub, 1, (0, 0, 0), [])) (by decide +kernel)) (pc2 := 49) rfl ?_
        refine q_putI (mz_fe (e := (49, .putfield 293, 177, (12, 43, 0), [])) (by decide +kernel)) rfl tg_239 (by rw [ln_239]; decide) ?_
        refine q_o (mz_fe (e := (52, .aload_n 0, 1, (0, 0, 0), [])) (by decide +kernel)) (pc2 := 53) rfl ?_
        refine q_o (mz_fe (e := (53, .iload_n 2, 1, (0, 0, 0), [])) (by decide +kernel)) (pc2 := 54) rfl ?_
        refine q_bi (v := 8) (mz_fe (e := (54, .bipush 8, 2, (0, 0, 0), [])) (by decide +kernel)) (by decide) ?_
        refine q_if (c := .ne) (off := 7) (t := 63) (x := (mz_rd m 267 (((mz_rd m 239 43) - 1) : Int32).toNatClampNeg)) (y := 8) (st := [.ref 239]) (mz_fe (e := (56, .if_icmp .ne 7, 3, (0, 0, 0), [])) (by decide +kernel)) (fun _ => rfl) rfl rfl rfl (fun c5 => ?_) (fun c5 => ?_)
        · refine q_o (mz_fe (e := (63, .iload_n 2, 1, (0, 0, 0), [])) (by decide +kernel)) (pc2 := 64) rfl ?_
          refine q_bi (v := 9) (mz_fe (e := (64, .bipush 9, 2, (0, 0, 0), [])) (by decide +kernel)) (by decide) ?_
          refine q_if (c := .ne) (off := 7) (t := 73) (x := (mz_rd m 267 (((mz_rd m 239 43) - 1) : Int32).toNatClampNeg)) (y := 9) (st := [.ref 239]) (mz_fe (e := (66, .if_icmp .ne 7, 3, (0, 0, 0), [])) (by decide +kernel)) (fun _ => rfl) rfl rfl rfl (fun c6 => ?_) (fun c6 => ?_)
          · refine q_o (mz_fe (e := (73, .iload_n 2, 1, (0, 0, 0), [])) (by decide +kernel)) (pc2 := 74) rfl ?_
            refine q_bi (v := 10) (mz_fe (e := (74, .bipush 10, 2, (0, 0, 0), [])) (by decide +kernel)) (by decide) ?_
            refine q_if (c := .ne) (off := 7) (t := 83) (x := (mz_rd m 267 (((mz_rd m 239 43) - 1) : Int32).toNatClampNeg)) (y := 10) (st := [.ref 239]) (mz_fe (e := (76, .if_icmp .ne 7, 3, (0, 0, 0), [])) (by decide +kernel)) (fun _ => rfl) rfl rfl rfl (fun c7 => ?_) (fun c7 => ?_)
            · refine q_ic (v := 5) (mz_fe (e := (83, .iconst 5, 1, (0, 0, 0), [])) (by decide +kernel)) (by decide) ?_
              refine q_ic (v := 0) (mz_fe (e := (84, .iconst 0, 1, (0, 0, 0), [])) (by decide +kernel)) (by decide) ?_
              refine q_callV (N := 203) (vs := [.ref 239, .int 5, .int 0]) (rest := []) (L' := [some (.ref 239), some (.int x0), some (.int (mz_rd m 267 (((mz_rd m 239 43) - 1) : Int32).toNatClampNeg))]) rfl (mz_fe (e := (85, .invokevirtual 296, 193, (203, 3, 18), [])) (by decide +kernel)) rfl (mz_inv_virt (N := 203) (k := 3) (t := 18) (st := [.int 0, .int 5, .ref 239]) (rest := []) (b := 239) (vs := [.int 5, .int 0]) (h := (mz_S0, (mz_wr m 239 43 ((mz_rd m 239 43) - 1)))) rfl rfl (Nat.le_of_ble_eq_true rfl) (Nat.le_of_ble_eq_true rfl) tg_239 (by decide)) (mz_dc_lt (n := 3) rfl (by decide +kernel) (by decide +kernel)) (by decide +kernel) (by decide +kernel) (fun m8 => ?_)
              refine q_o (mz_fe (e := (88, .goto (-88), 3, (0, 0, 0), [])) (by decide +kernel)) (pc2 := 0) rfl ?_
              exact congrArg mz_cV (mz_At_msk (L := [some (.ref 239), some (.int x0), some (.int (mz_rd m 267 (((mz_rd m 239 43) - 1) : Int32).toNatClampNeg))]) (L2 := [some (.ref 239), some (.int x0), none]) (mz_fe (e := (0, .aload_n 0, 1, (0, 0, 0), [true, true, false])) (by decide +kernel)) rfl rfl)
            · refine q_ic (v := 4) (mz_fe (e := (79, .iconst 4, 1, (0, 0, 0), [])) (by decide +kernel)) (by decide) ?_
              refine q_o (mz_fe (e := (80, .goto 4, 3, (0, 0, 0), [])) (by decide +kernel)) (pc2 := 84) rfl ?_
              refine q_ic (v := 0) (mz_fe (e := (84, .iconst 0, 1, (0, 0, 0), [])) (by decide +kernel)) (by decide) ?_
              refine q_callV (N := 203) (vs := [.ref 239, .int 4, .int 0]) (rest := []) (L' := [some (.ref 239), some (.int x0), some (.int (mz_rd m 267 (((mz_rd m 239 43) - 1) : Int32).toNatClampNeg))]) rfl (mz_fe (e := (85, .invokevirtual 296, 193, (203, 3, 18), [])) (by decide +kernel)) rfl (mz_inv_virt (N := 203) (k := 3) (t := 18) (st := [.int 0, .int 4, .ref 239]) (rest := []) (b := 239) (vs := [.int 4, .int 0]) (h := (mz_S0, (mz_wr m 239 43 ((mz_rd m 239 43) - 1)))) rfl rfl (Nat.le_of_ble_eq_true rfl) (Nat.le_of_ble_eq_true rfl) tg_239 (by decide)) (mz_dc_lt (n := 3) rfl (by decide +kernel) (by decide +kernel)) (by decide +kernel) (by decide +kernel) (fun m11 => ?_)
              refine q_o (mz_fe (e := (88, .goto (-88), 3, (0, 0, 0), [])) (by decide +kernel)) (pc2 := 0) rfl ?_
              exact congrArg mz_cV (mz_At_msk (L := [some (.ref 239), some (.int x0), some (.int (mz_rd m 267 (((mz_rd m 239 43) - 1) : Int32).toNatClampNeg))]) (L2 := [some (.ref 239), some (.int x0), none]) (mz_fe (e := (0, .aload_n 0, 1, (0, 0, 0), [true, true, false])) (by decide +kernel)) rfl rfl)
          · refine q_ic (v := 3) (mz_fe (e := (69, .iconst 3, 1, (0, 0, 0), [])) (by decide +kernel)) (by decide) ?_
            refine q_o (mz_fe (e := (70, .goto 14, 3, (0, 0, 0), [])) (by decide +kernel)) (pc2 := 84) rfl ?_
            refine q_ic (v := 0) (mz_fe (e := (84, .iconst 0, 1, (0, 0, 0), [])) (by decide +kernel)) (by decide) ?_
            refine q_callV (N := 203) (vs := [.ref 239, .int 3, .int 0]) (rest := []) (L' := [some (.ref 239), some (.int x0), some (.int (mz_rd m 267 (((mz_rd m 239 43) - 1) : Int32).toNatClampNeg))]) rfl (mz_fe (e := (85, .invokevirtual 296, 193, (203, 3, 18), [])) (by decide +kernel)) rfl (mz_inv_virt (N := 203) (k := 3) (t := 18) (st := [.int 0, .int 3, .ref 239]) (rest := []) (b := 239) (vs := [.int 3, .int 0]) (h := (mz_S0, (mz_wr m 239 43 ((mz_rd m 239 43) - 1)))) rfl rfl (Nat.le_of_ble_eq_true rfl) (Nat.le_of_ble_eq_true rfl) tg_239 (by decide)) (mz_dc_lt (n := 3) rfl (by decide +kernel) (by decide +kernel)) (by decide +kernel) (by decide +kernel) (fun m14 => ?_)
            refine q_o (mz_fe (e := (88, .goto (-88), 3, (0, 0, 0), [])) (by decide +kernel)) (pc2 := 0) rfl ?_
            exact congrArg mz_cV (mz_At_msk (L := [some (.ref 239), some (.int x0), some (.int (mz_rd m 267 (((mz_rd m 239 43) - 1) : Int32).toNatClampNeg))]) (L2 := [some (.ref 239), some (.int x0), none]) (mz_fe (e := (0, .aload_n 0, 1, (0, 0, 0), [true, true, false])) (by decide +kernel)) rfl rfl)
        · refine q_ic (v := 2) (mz_fe (e := (59, .iconst 2, 1, (0, 0, 0), [])) (by decide +kernel)) (by decide) ?_
          refine q_o (mz_fe (e := (60, .goto 24, 3, (0, 0, 0), [])) (by decide +kernel)) (pc2 := 84) rfl ?_
          refine q_ic (v := 0) (mz_fe (e := (84, .iconst 0, 1, (0, 0, 0), [])) (by decide +kernel)) (by decide) ?_
          refine q_callV (N := 203) (vs := [.ref 239, .int 2, .int 0]) (rest := []) (L' := [some (.ref 239), some (.int x0), some (.int (mz_rd m 267 (((mz_rd m 239 43) - 1) : Int32).toNatClampNeg))]) rfl (mz_fe (e := (85, .invokevirtual 296, 193, (203, 3, 18), [])) (by decide +kernel)) rfl (mz_inv_virt (N := 203) (k := 3) (t := 18) (st := [.int 0, .int 2, .ref 239]) (rest := []) (b := 239) (vs := [.int 2, .int 0]) (h := (mz_S0, (mz_wr m 239 43 ((mz_rd m 239 43) - 1)))) rfl rfl (Nat.le_of_ble_eq_true rfl) (Nat.le_of_ble_eq_true rfl) tg_239 (by decide)) (mz_dc_lt (n := 3) rfl (by decide +kernel) (by decide +kernel)) (by decide +kernel) (by decide +kernel) (fun m17 => ?_)
          refine q_o (mz_fe (e := (88, .goto (-88), 3, (0, 0, 0), [])) (by decide +kernel)) (pc2 := 0) rfl ?_
          exact congrArg mz_cV (mz_At_msk (L := [some (.ref 239), some (.int x0), some (.int (mz_rd m 267 (((mz_rd m 239 43) - 1) : Int32).toNatClampNeg))]) (L2 := [some (.ref 239), some (.int x0), none]) (mz_fe (e := (0, .aload_n 0, 1, (0, 0, 0), [true, true, false])) (by decide +kernel)) rfl rfl)
      · refine q_o (mz_fe (e := (29, .iload_n 2, 1, (0, 0, 0), [])) (by decide +kernel)) (pc2 := 30) rfl ?_
        refine q_bi (v := 8) (mz_fe (e := (30, .bipush 8, 2, (0, 0, 0), [])) (by decide +kernel)) (by decide) ?_
        refine q_if (c := .eq) (off := 9) (t := 41) (x := (mz_rd m 267 (((mz_rd m 239 43) - 1) : Int32).toNatClampNeg)) (y := 8) (st := []) (mz_fe (e := (32, .if_icmp .eq 9, 3, (0, 0, 0), [])) (by decide +kernel)) (fun _ => rfl) rfl rfl rfl (fun c20 => ?_) (fun c20 => ?_)
        · exact q_retV (mz_fe (e := (41, .return_, 1, (0, 0, 0), [])) (by decide +kernel)) (by decide +kernel)
        · refine q_o (mz_fe (e := (35, .iload_n 2, 1, (0, 0, 0), [])) (by decide +kernel)) (pc2 := 36) rfl ?_
          refine q_bi (v := 9) (mz_fe (e := (36, .bipush 9, 2, (0, 0, 0), [])) (by decide +kernel)) (by decide) ?_
          refine q_if (c := .ne) (off := 4) (t := 42) (x := (mz_rd m 267 (((mz_rd m 239 43) - 1) : Int32).toNatClampNeg)) (y := 9) (st := []) (mz_fe (e := (38, .if_icmp .ne 4, 3, (0, 0, 0), [])) (by decide +kernel)) (fun _ => rfl) rfl rfl rfl (fun c21 => ?_) (fun c21 => ?_)
          · refine q_o (mz_fe (e := (42, .aload_n 0, 1, (0, 0, 0), [])) (by decide +kernel)) (pc2 := 43) rfl ?_
            refine q_o (mz_fe (e := (43, .dup, 1, (0, 0, 0), [])) (by decide +kernel)) (pc2 := 44) rfl ?_
            refine q_getI (mz_fe (e := (44, .getfield 293, 177, (12, 43, 0), [])) (by decide +kernel)) rfl (by decide) tg_239 (by rw [ln_239]; decide) ?_
            refine q_ic (v := 1) (mz_fe (e := (47, .iconst 1, 1, (0, 0, 0), [])) (by decide +kernel)) (by decide) ?_
            refine q_o (mz_fe (e := (48, .isub, 1, (0, 0, 0), [])) (by decide +kernel)) (pc2 := 49) rfl ?_
            refine q_putI (mz_fe (e := (49, .putfield 293, 177, (12, 43, 0), [])) (by decide +kernel)) rfl tg_239 (by rw [ln_239]; decide) ?_
            refine q_o (mz_fe (e := (52, .aload_n 0, 1, (0, 0, 0), [])) (by decide +kernel)) (pc2 := 53) rfl ?_
            refine q_o (mz_fe (e := (53, .iload_n 2, 1, (0, 0, 0), [])) (by decide +kernel)) (pc2 := 54) rfl ?_
            refine q_bi (v := 8) (mz_fe (e := (54, .bipush 8, 2, (0, 0, 0), [])) (by decide +kernel)) (by decide) ?_
            refine q_if (c := .ne) (off := 7) (t := 63) (x := (mz_rd m 267 (((mz_rd m 239 43) - 1) : Int32).toNatClampNeg)) (y := 8) (st := [.ref 239]) (mz_fe (e := (56, .if_icmp .ne 7, 3, (0, 0, 0), [])) (by decide +kernel)) (fun _ => rfl) rfl rfl rfl (fun c22 => ?_) (fun c22 => ?_)
            · refine q_o (mz_fe (e := (63, .iload_n 2, 1, (0, 0, 0), [])) (by decide +kernel)) (pc2 := 64) rfl ?_
              refine q_bi (v := 9) (mz_fe (e := (64, .bipush 9, 2, (0, 0, 0), [])) (by decide +kernel)) (by decide) ?_
              refine q_if (c := .ne) (off := 7) (t := 73) (x := (mz_rd m 267 (((mz_rd m 239 43) - 1) : Int32).toNatClampNeg)) (y := 9) (st := [.ref 239]) (mz_fe (e := (66, .if_icmp .ne 7, 3, (0, 0, 0), [])) (by decide +kernel)) (fun _ => rfl) rfl rfl rfl (fun c23 => ?_) (fun c23 => ?_)
              · refine q_o (mz_fe (e := (73, .iload_n 2, 1, (0, 0, 0), [])) (by decide +kernel)) (pc2 := 74) rfl ?_
                refine q_bi (v := 10) (mz_fe (e := (74, .bipush 10, 2, (0, 0, 0), [])) (by decide +kernel)) (by decide) ?_
                refine q_if (c := .ne) (off := 7) (t := 83) (x := (mz_rd m 267 (((mz_rd m 239 43) - 1) : Int32).toNatClampNeg)) (y := 10) (st := [.ref 239]) (mz_fe (e := (76, .if_icmp .ne 7, 3, (0, 0, 0), [])) (by decide +kernel)) (fun _ => rfl) rfl rfl rfl (fun c24 => ?_) (fun c24 => ?_)
                · refine q_ic (v := 5) (mz_fe (e := (83, .iconst 5, 1, (0, 0, 0), [])) (by decide +kernel)) (by decide) ?_
                  refine q_ic (v := 0) (mz_fe (e := (84, .iconst 0, 1, (0, 0, 0), [])) (by decide +kernel)) (by decide) ?_
                  refine q_callV (N := 203) (vs := [.ref 239, .int 5, .int 0]) (rest := []) (L' := [some (.ref 239), some (.int x0), some (.int (mz_rd m 267 (((mz_rd m 239 43) - 1) : Int32).toNatClampNeg))]) rfl (mz_fe (e := (85, .invokevirtual 296, 193, (203, 3, 18), [])) (by decide +kernel)) rfl (mz_inv_virt (N := 203) (k := 3) (t := 18) (st := [.int 0, .int 5, .ref 239]) (rest := []) (b := 239) (vs := [.int 5, .int 0]) (h := (mz_S0, (mz_wr m 239 43 ((mz_rd m 239 43) - 1)))) rfl rfl (Nat.le_of_ble_eq_true rfl) (Nat.le_of_ble_eq_true rfl) tg_239 (by decide)) (mz_dc_lt (n := 3) rfl (by decide +kernel) (by decide +kernel)) (by decide +kernel) (by decide +kernel) (fun m25 => ?_)
                  refine q_o (mz_fe (e := (88, .goto (-88), 3, (0, 0, 0), [])) (by decide +kernel)) (pc2 := 0) rfl ?_
                  exact congrArg mz_cV (mz_At_msk (L := [some (.ref 239), some (.int x0), some (.int (mz_rd m 267 (((mz_rd m 239 43) - 1) : Int32).toNatClampNeg))]) (L2 := [some (.ref 239), some (.int x0), none]) (mz_fe (e := (0, .aload_n 0, 1, (0, 0, 0), [true, true, false])) (by decide +kernel)) rfl rfl)
                · refine q_ic (v := 4) (mz_fe (e := (79, .iconst 4, 1, (0, 0, 0), [])) (by decide +kernel)) (by decide) ?_
                  refine q_o (mz_fe (e := (80, .goto 4, 3, (0, 0, 0), [])) (by decide +kernel)) (pc2 := 84) rfl ?_
                  refine q_ic (v := 0) (mz_fe (e := (84, .iconst 0, 1, (0, 0, 0), [])) (by decide +kernel)) (by decide) ?_
                  refine q_callV (N := 203) (vs := [.ref 239, .int 4, .int 0]) (rest := []) (L' := [some (.ref 239), some (.int x0), some (.int (mz_rd m 267 (((mz_rd m 239 43) - 1) : Int32).toNatClampNeg))]) rfl (mz_fe (e := (85, .invokevirtual 296, 193, (203, 3, 18), [])) (by decide +kernel)) rfl (mz_inv_virt (N := 203) (k := 3) (t := 18) (st := [.int 0, .int 4, .ref 239]) (rest := []) (b := 239) (vs := [.int 4, .int 0]) (h := (mz_S0, (mz_wr m 239 43 ((mz_rd m 239 43) - 1)))) rfl rfl (Nat.le_of_ble_eq_true rfl) (Nat.le_of_ble_eq_true rfl) tg_239 (by decide)) (mz_dc_lt (n := 3) rfl (by decide +kernel) (by decide +kernel)) (by decide +kernel) (by decide +kernel) (fun m28 => ?_)
                  refine q_o (mz_fe (e := (88, .goto (-88), 3, (0, 0, 0), [])) (by decide +kernel)) (pc2 := 0) rfl ?_
                  exact congrArg mz_cV (mz_At_msk (L := [some (.ref 239), some (.int x0), some (.int (mz_rd m 267 (((mz_rd m 239 43) - 1) : Int32).toNatClampNeg))]) (L2 := [some (.ref 239), some (.int x0), none]) (mz_fe (e := (0, .aload_n 0, 1, (0, 0, 0), [true, true, false])) (by decide +kernel)) rfl rfl)
              · refine q_ic (v := 3) (mz_fe (e := (69, .iconst 3, 1, (0, 0, 0), [])) (by decide +kernel)) (by decide) ?_
                refine q_o (mz_fe (e := (70, .goto 14, 3, (0, 0, 0), [])) (by decide +kernel)) (pc2 := 84) rfl ?_
                refine q_ic (v := 0) (mz_fe (e := (84, .iconst 0, 1, (0, 0, 0), [])) (by decide +kernel)) (by decide) ?_
                refine q_callV (N := 203) (vs := [.ref 239, .int 3, .int 0]) (rest := []) (L' := [some (.ref 239), some (.int x0), some (.int (mz_rd m 267 (((mz_rd m 239 43) - 1) : Int32).toNatClampNeg))]) rfl (mz_fe (e := (85, .invokevirtual 296, 193, (203, 3, 18), [])) (by decide +kernel)) rfl (mz_inv_virt (N := 203) (k := 3) (t := 18) (st := [.int 0, .int 3, .ref 239]) (rest := []) (b := 239) (vs := [.int 3, .int 0]) (h := (mz_S0, (mz_wr m 239 43 ((mz_rd m 239 43) - 1)))) rfl rfl (Nat.le_of_ble_eq_true rfl) (Nat.le_of_ble_eq_true rfl) tg_239 (by decide)) (mz_dc_lt (n := 3) rfl (by decide +kernel) (by decide +kernel)) (by decide +kernel) (by decide +kernel) (fun m31 => ?_)
                refine q_o (mz_fe (e := (88, .goto (-88), 3, (0, 0, 0), [])) (by decide +kernel)) (pc2 := 0) rfl ?_
                exact congrArg mz_cV (mz_At_msk (L := [some (.ref 239), some (.int x0), some (.int (mz_rd m 267 (((mz_rd m 239 43) - 1) : Int32).toNatClampNeg))]) (L2 := [some (.ref 239), some (.int x0), none]) (mz_fe (e := (0, .aload_n 0, 1, (0, 0, 0), [true, true, false])) (by decide +kernel)) rfl rfl)
            · refine q_ic (v := 2) (mz_fe (e := (59, .iconst 2, 1, (0, 0, 0), [])) (by decide +kernel)) (by decide) ?_
              refine q_o (mz_fe (e := (60, .goto 24, 3, (0, 0, 0), [])) (by decide +kernel)) (pc2 := 84) rfl ?_
              refine q_ic (v := 0) (mz_fe (e := (84, .iconst 0, 1, (0, 0, 0), [])) (by decide +kernel)) (by decide) ?_
              refine q_callV (N := 203) (vs := [.ref 239, .int 2, .int 0]) (rest := []) (L' := [some (.ref 239), some (.int x0), some (.int (mz_rd m 267 (((mz_rd m 239 43) - 1) : Int32).toNatClampNeg))]) rfl (mz_fe (e := (85, .invokevirtual 296, 193, (203, 3, 18), [])) (by decide +kernel)) rfl (mz_inv_virt (N := 203) (k := 3) (t := 18) (st := [.int 0, .int 2, .ref 239]) (rest := []) (b := 239) (vs := [.int 2, .int 0]) (h := (mz_S0, (mz_wr m 239 43 ((mz_rd m 239 43) - 1)))) rfl rfl (Nat.le_of_ble_eq_true rfl) (Nat.le_of_ble_eq_true rfl) tg_239 (by decide)) (mz_dc_lt (n := 3) rfl (by decide +kernel) (by decide +kernel)) (by decide +kernel) (by decide +kernel) (fun m34 => ?_)
              refine q_o (mz_fe (e := (88, .goto (-88), 3, (0, 0, 0), [])) (by decide +kernel)) (pc2 := 0) rfl ?_
              exact congrArg mz_cV (mz_At_msk (L := [some (.ref 239), some (.int x0), some (.int (mz_rd m 267 (((mz_rd m 239 43) - 1) : Int32).toNatClampNeg))]) (L2 := [some (.ref 239), some (.int x0), none]) (mz_fe (e := (0, .aload_n 0, 1, (0, 0, 0), [true, true, false])) (by decide +kernel)) rfl rfl)
          · exact q_retV (mz_fe (e := (41, .return_, 1, (0, 0, 0), [])) (by decide +kernel)) (by decide +kernel)
set_option maxRecDepth 10000 in
theorem H_X12_comesOut_0_eq (d : Nat) (y1 : Int32) (m : MzM)  : H_X12_comesOut_0 d y1 m = if (mz_rd m 239 43) ≤ 0 then some m else (mz_g (mz_ok ((mz_rd m 239 43) - 1) 64) (if (mz_rd m 267 (((mz_rd m 239 43) - 1) : Int32).toNatClampNeg) = 6 then some m else (if y1 = 0 then (if ¬ (mz_rd m 267 (((mz_rd m 239 43) - 1) : Int32).toNatClampNeg) = 8 then (if ¬ (mz_rd m 267 (((mz_rd m 239 43) - 1) : Int32).toNatClampNeg) = 9 then (if ¬ (mz_rd m 267 (((mz_rd m 239 43) - 1) : Int32).toNatClampNeg) = 10 then ((R_X12_emit d 5 0 (mz_wr m 239 43 ((mz_rd m 239 43) - 1))).bind (fun m44 => H_X12_comesOut_0 d y1 m44)) else ((R_X12_emit d 4 0 (mz_wr m 239 43 ((mz_rd m 239 43) - 1))).bind (fun m47 => H_X12_comesOut_0 d y1 m47))) else ((R_X12_emit d 3 0 (mz_wr m 239 43 ((mz_rd m 239 43) - 1))).bind (fun m50 => H_X12_comesOut_0 d y1 m50))) else ((R_X12_emit d 2 0 (mz_wr m 239 43 ((mz_rd m 239 43) - 1))).bind (fun m53 => H_X12_comesOut_0 d y1 m53))) else (if (mz_rd m 267 (((mz_rd m 239 43) - 1) : Int32).toNatClampNeg) = 8 then some m else (if ¬ (mz_rd m 267 (((mz_rd m 239 43) - 1) : Int32).toNatClampNeg) = 9 then (if ¬ (mz_rd m 267 (((mz_rd m 239 43) - 1) : Int32).toNatClampNeg) = 8 then (if ¬ (mz_rd m 267 (((mz_rd m 239 43) - 1) : Int32).toNatClampNeg) = 9 then (if ¬ (mz_rd m 267 (((mz_rd m 239 43) - 1) : Int32).toNatClampNeg) = 10 then ((R_X12_emit d 5 0 (mz_wr m 239 43 ((mz_rd m 239 43) - 1))).bind (fun m61 => H_X12_comesOut_0 d y1 m61)) else ((R_X12_emit d 4 0 (mz_wr m 239 43 ((mz_rd m 239 43) - 1))).bind (fun m64 => H_X12_comesOut_0 d y1 m64))) else ((R_X12_emit d 3 0 (mz_wr m 239 43 ((mz_rd m 239 43) - 1))).bind (fun m67 => H_X12_comesOut_0 d y1 m67))) else ((R_X12_emit d 2 0 (mz_wr m 239 43 ((mz_rd m 239 43) - 1))).bind (fun m70 => H_X12_comesOut_0 d y1 m70))) else some m))))) := by
  show mz_cV (mz_T d 204 0 [some (.ref 239), some (.int y1), none] [] m) = _
  refine q_s (mz_fe (e := (0, .aload_n 0, 1, (0, 0, 0), [true, true, false])) (by decide +kernel)) (pc' := 1) (L' := [some (.ref 239), some (.int y1), none]) (st' := [.ref 239]) rfl ?_
  refine q_getI (mz_fe (e := (1, .getfield 293, 177, (12, 43, 0), [])) (by decide +kernel)) rfl (by decide) tg_239 (by rw [ln_239]; decide) ?_
  refine q_if (c := .le) (off := 87) (t := 91) (x := (mz_rd m 239 43)) (y := 0) (st := []) (mz_fe (e := (4, .ifCond .le 87, 3, (0, 0, 0), [])) (by decide +kernel)) (fun _ => rfl) rfl rfl rfl (fun c37 => ?_) (fun c37 => ?_)
  · exact q_retV (mz_fe (e := (91, .return_, 1, (0, 0, 0), [])) (by decide +kernel)) (by decide +kernel)
  · refine q_o (mz_fe (e := (7, .aload_n 0, 1, (0, 0, 0), [])) (by decide +kernel)) (pc2 := 8) rfl ?_
    refine q_getR (b := 267) (mz_fe (e := (8, .getfield 101, 145, (12, 42, 2), [])) (by decide +kernel)) rfl tg_239 (by rw [ln_239]; decide) (mz_rfS (by decide +kernel)) ?_
    refine q_o (mz_fe (e := (11, .aload_n 0, 1, (0, 0, 0), [])) (by decide +kernel)) (pc2 := 12) rfl ?_
    refine q_getI (mz_fe (e := (12, .getfield 293, 177, (12, 43, 0), [])) (by decide +kernel)) rfl (by decide) tg_239 (by rw [ln_239]; decide) ?_
    refine q_ic (v := 1) (mz_fe (e := (15, .iconst 1, 1, (0, 0, 0), [])) (by decide +kernel)) (by decide) ?_
    refine q_o (mz_fe (e := (16, .isub, 1, (0, 0, 0), [])) (by decide +kernel)) (pc2 := 17) rfl ?_
    refine q_ialdg rfl (mz_fe (e := (17, .iaload, 1, (0, 0, 0), [])) (by decide +kernel)) rfl (by decide) tg_267 ln_267 (fun g38 => ?_)
    refine q_s (mz_fe (e := (18, .istore_n 2, 1, (0, 0, 0), [])) (by decide +kernel)) (pc' := 19) (L' := [some (.ref 239), some (.int y1), some (.int (mz_rd m 267 (((mz_rd m 239 43) - 1) : Int32).toNatClampNeg))]) (st' := []) rfl ?_
    refine q_o (mz_fe (e := (19, .iload_n 2, 1, (0, 0, 0), [])) (by decide +kernel)) (pc2 := 20) rfl ?_
    refine q_bi (v := 6) (mz_fe (e := (20, .bipush 6, 2, (0, 0, 0), [])) (by decide +kernel)) (by decide) ?_
    refine q_if (c := .eq) (off := 19) (t := 41) (x := (mz_rd m 267 (((mz_rd m 239 43) - 1) : Int32).toNatClampNeg)) (y := 6) (st := []) (mz_fe (e := (22, .if_icmp .eq 19, 3, (0, 0, 0), [])) (by decide +kernel)) (fun _ => rfl) rfl rfl rfl (fun c39 => ?_) (fun c39 => ?_)
    · exact q_retV (mz_fe (e := (41, .return_, 1, (0, 0, 0), [])) (by decide +kernel)) (by decide +kernel)
    · refine q_o (mz_fe (e := (25, .iload_n 1, 1, (0, 0, 0), [])) (by decide +kernel)) (pc2 := 26) rfl ?_
      refine q_if (c := .eq) (off := 16) (t := 42) (x := y1) (y := 0) (st := []) (mz_fe (e := (26, .ifCond .eq 16, 3, (0, 0, 0), [])) (by decide +kernel)) (fun _ => rfl) rfl rfl rfl (fun c40 => ?_) (fun c40 => ?_)
      · refine q_o (mz_fe (e := (42, .aload_n 0, 1, (0, 0, 0), [])) (by decide +kernel)) (pc2 := 43) rfl ?_
        refine q_o (mz_fe (e := (43, .dup, 1, (0, 0, 0), [])) (by decide +kernel)) (pc2 := 44) rfl ?_
        refine q_getI (mz_fe (e := (44, .getfield 293, 177, (12, 43, 0), [])) (by decide +kernel)) rfl (by decide) tg_239 (by rw [ln_239]; decide) ?_
        refine q_ic (v := 1) (mz_fe (e := (47, .iconst 1, 1, (0, 0, 0), [])) (by decide +kernel)) (by decide) ?_
        refine q_o (mz_fe (e := (48, .isub, 1, (0, 0, 0), [])) (by decide +kernel)) (pc2 := 49) rfl ?_
        refine q_putI (mz_fe (e := (49, .putfield 293, 177, (12, 43, 0), [])) (by decide +kernel)) rfl tg_239 (by rw [ln_239]; decide) ?_
        refine q_o (mz_fe (e := (52, .aload_n 0, 1, (0, 0, 0), [])) (by decide +kernel)) (pc2 := 53) rfl ?_
        refine q_o (mz_fe (e := (53, .iload_n 2, 1, (0, 0, 0), [])) (by decide +kernel)) (pc2 := 54) rfl ?_
        refine q_bi (v := 8) (mz_fe (e := (54, .bipush 8, 2, (0, 0, 0), [])) (by decide +kernel)) (by decide) ?_
        refine q_if (c := .ne) (off := 7) (t := 63) (x := (mz_rd m 267 (((mz_rd m 239 43) - 1) : Int32).toNatClampNeg)) (y := 8) (st := [.ref 239]) (mz_fe (e := (56, .if_icmp .ne 7, 3, (0, 0, 0), [])) (by decide +kernel)) (fun _ => rfl) rfl rfl rfl (fun c41 => ?_) (fun c41 => ?_)
        · refine q_o (mz_fe (e := (63, .iload_n 2, 1, (0, 0, 0), [])) (by decide +kernel)) (pc2 := 64) rfl ?_
          refine q_bi (v := 9) (mz_fe (e := (64, .bipush 9, 2, (0, 0, 0), [])) (by decide +kernel)) (by decide) ?_
          refine q_if (c := .ne) (off := 7) (t := 73) (x := (mz_rd m 267 (((mz_rd m 239 43) - 1) : Int32).toNatClampNeg)) (y := 9) (st := [.ref 239]) (mz_fe (e := (66, .if_icmp .ne 7, 3, (0, 0, 0), [])) (by decide +kernel)) (fun _ => rfl) rfl rfl rfl (fun c42 => ?_) (fun c42 => ?_)
          · refine q_o (mz_fe (e := (73, .iload_n 2, 1, (0, 0, 0), [])) (by decide +kernel)) (pc2 := 74) rfl ?_
            refine q_bi (v := 10) (mz_fe (e := (74, .bipush 10, 2, (0, 0, 0), [])) (by decide +kernel)) (by decide) ?_
            refine q_if (c := .ne) (off := 7) (t := 83) (x := (mz_rd m 267 (((mz_rd m 239 43) - 1) : Int32).toNatClampNeg)) (y := 10) (st := [.ref 239]) (mz_fe (e := (76, .if_icmp .ne 7, 3, (0, 0, 0), [])) (by decide +kernel)) (fun _ => rfl) rfl rfl rfl (fun c43 => ?_) (fun c43 => ?_)
            · refine q_ic (v := 5) (mz_fe (e := (83, .iconst 5, 1, (0, 0, 0), [])) (by decide +kernel)) (by decide) ?_
              refine q_ic (v := 0) (mz_fe (e := (84, .iconst 0, 1, (0, 0, 0), [])) (by decide +kernel)) (by decide) ?_
              refine q_callV (N := 203) (vs := [.ref 239, .int 5, .int 0]) (rest := []) (L' := [some (.ref 239), some (.int y1), some (.int (mz_rd m 267 (((mz_rd m 239 43) - 1) : Int32).toNatClampNeg))]) rfl (mz_fe (e := (85, .invokevirtual 296, 193, (203, 3, 18), [])) (by decide +kernel)) rfl (mz_inv_virt (N := 203) (k := 3) (t := 18) (st := [.int 0, .int 5, .ref 239]) (rest := []) (b := 239) (vs := [.int 5, .int 0]) (h := (mz_S0, (mz_wr m 239 43 ((mz_rd m 239 43) - 1)))) rfl rfl (Nat.le_of_ble_eq_true rfl) (Nat.le_of_ble_eq_true rfl) tg_239 (by decide)) (mz_dc_lt (n := 3) rfl (by decide +kernel) (by decide +kernel)) (by decide +kernel) (by decide +kernel) (fun m44 => ?_)
              refine q_o (mz_fe (e := (88, .goto (-88), 3, (0, 0, 0), [])) (by decide +kernel)) (pc2 := 0) rfl ?_
              exact congrArg mz_cV (mz_At_msk (L := [some (.ref 239), some (.int y1), some (.int (mz_rd m 267 (((mz_rd m 239 43) - 1) : Int32).toNatClampNeg))]) (L2 := [some (.ref 239), some (.int y1), none]) (mz_fe (e := (0, .aload_n 0, 1, (0, 0, 0), [true, true, false])) (by decide +kernel)) rfl rfl)
            · refine q_ic (v := 4) (mz_fe (e := (79, .iconst 4, 1, (0, 0, 0), [])) (by decide +kernel)) (by decide) ?_
              refine q_o (mz_fe (e := (80, .goto 4, 3, (0, 0, 0), [])) (by decide +kernel)) (pc2 := 84) rfl ?_
              refine q_ic (v := 0) (mz_fe (e := (84, .iconst 0, 1, (0, 0, 0), [])) (by decide +kernel)) (by decide) ?_
              refine q_callV (N := 203) (vs := [.ref 239, .int 4, .int 0]) (rest := []) (L' := [some (.ref 239), some (.int y1), some (.int (mz_rd m 267 (((mz_rd m 239 43) - 1) : Int32).toNatClampNeg))]) rfl (mz_fe (e := (85, .invokevirtual 296, 193, (203, 3, 18), [])) (by decide +kernel)) rfl (mz_inv_virt (N := 203) (k := 3) (t := 18) (st := [.int 0, .int 4, .ref 239]) (rest := []) (b := 239) (vs := [.int 4, .int 0]) (h := (mz_S0, (mz_wr m 239 43 ((mz_rd m 239 43) - 1)))) rfl rfl (Nat.le_of_ble_eq_true rfl) (Nat.le_of_ble_eq_true rfl) tg_239 (by decide)) (mz_dc_lt (n := 3) rfl (by decide +kernel) (by decide +kernel)) (by decide +kernel) (by decide +kernel) (fun m47 => ?_)
              refine q_o (mz_fe (e := (88, .goto (-88), 3, (0, 0, 0), [])) (by decide +kernel)) (pc2 := 0) rfl ?_
              exact congrArg mz_cV (mz_At_msk (L := [some (.ref 239), some (.int y1), some (.int (mz_rd m 267 (((mz_rd m 239 43) - 1) : Int32).toNatClampNeg))]) (L2 := [some (.ref 239), some (.int y1), none]) (mz_fe (e := (0, .aload_n 0, 1, (0, 0, 0), [true, true, false])) (by decide +kernel)) rfl rfl)
          · refine q_ic (v := 3) (mz_fe (e := (69, .iconst 3, 1, (0, 0, 0), [])) (by decide +kernel)) (by decide) ?_
            refine q_o (mz_fe (e := (70, .goto 14, 3, (0, 0, 0), [])) (by decide +kernel)) (pc2 := 84) rfl ?_
            refine q_ic (v := 0) (mz_fe (e := (84, .iconst 0, 1, (0, 0, 0), [])) (by decide +kernel)) (by decide) ?_
            refine q_callV (N := 203) (vs := [.ref 239, .int 3, .int 0]) (rest := []) (L' := [some (.ref 239), some (.int y1), some (.int (mz_rd m 267 (((mz_rd m 239 43) - 1) : Int32).toNatClampNeg))]) rfl (mz_fe (e := (85, .invokevirtual 296, 193, (203, 3, 18), [])) (by decide +kernel)) rfl (mz_inv_virt (N := 203) (k := 3) (t := 18) (st := [.int 0, .int 3, .ref 239]) (rest := []) (b := 239) (vs := [.int 3, .int 0]) (h := (mz_S0, (mz_wr m 239 43 ((mz_rd m 239 43) - 1)))) rfl rfl (Nat.le_of_ble_eq_true rfl) (Nat.le_of_ble_eq_true rfl) tg_239 (by decide)) (mz_dc_lt (n := 3) rfl (by decide +kernel) (by decide +kernel)) (by decide +kernel) (by decide +kernel) (fun m50 => ?_)
            refine q_o (mz_fe (e := (88, .goto (-88), 3, (0, 0, 0), [])) (by decide +kernel)) (pc2 := 0) rfl ?_
            exact congrArg mz_cV (mz_At_msk (L := [some (.ref 239), some (.int y1), some (.int (mz_rd m 267 (((mz_rd m 239 43) - 1) : Int32).toNatClampNeg))]) (L2 := [some (.ref 239), some (.int y1), none]) (mz_fe (e := (0, .aload_n 0, 1, (0, 0, 0), [true, true, false])) (by decide +kernel)) rfl rfl)
        · refine q_ic (v := 2) (mz_fe (e := (59, .iconst 2, 1, (0, 0, 0), [])) (by decide +kernel)) (by decide) ?_
          refine q_o (mz_fe (e := (60, .goto 24, 3, (0, 0, 0), [])) (by decide +kernel)) (pc2 := 84) rfl ?_
          refine q_ic (v := 0) (mz_fe (e := (84, .iconst 0, 1, (0, 0, 0), [])) (by decide +kernel)) (by decide) ?_
          refine q_callV (N := 203) (vs := [.ref 239, .int 2, .int 0]) (rest := []) (L' := [some (.ref 239), some (.int y1), some (.int (mz_rd m 267 (((mz_rd m 239 43) - 1) : Int32).toNatClampNeg))]) rfl (mz_fe (e := (85, .invokevirtual 296, 193, (203, 3, 18), [])) (by decide +kernel)) rfl (mz_inv_virt (N := 203) (k := 3) (t := 18) (st := [.int 0, .int 2, .ref 239]) (rest := []) (b := 239) (vs := [.int 2, .int 0]) (h := (mz_S0, (mz_wr m 239 43 ((mz_rd m 239 43) - 1)))) rfl rfl (Nat.le_of_ble_eq_true rfl) (Nat.le_of_ble_eq_true rfl) tg_239 (by decide)) (mz_dc_lt (n := 3) rfl (by decide +kernel) (by decide +kernel)) (by decide +kernel) (by decide +kernel) (fun m53 => ?_)
          refine q_o (mz_fe (e := (88, .goto (-88), 3, (0, 0, 0), [])) (by decide +kernel)) (pc2 := 0) rfl ?_
          exact congrArg mz_cV (mz_At_msk (L := [some (.ref 239), some (.int y1), some (.int (mz_rd m 267 (((mz_rd m 239 43) - 1) : Int32).toNatClampNeg))]) (L2 := [some (.ref 239), some (.int y1), none]) (mz_fe (e := (0, .aload_n 0, 1, (0, 0, 0), [true, true, false])) (by decide +kernel)) rfl rfl)
      · refine q_o (mz_fe (e := (29, .iload_n 2, 1, (0, 0, 0), [])) (by decide +kernel)) (pc2 := 30) rfl ?_
        refine q_bi (v := 8) (mz_fe (e := (30, .bipush 8, 2, (0, 0, 0), [])) (by decide +kernel)) (by decide) ?_
        refine q_if (c := .eq) (off := 9) (t := 41) (x := (mz_rd m 267 (((mz_rd m 239 43) - 1) : Int32).toNatClampNeg)) (y := 8) (st := []) (mz_fe (e := (32, .if_icmp .eq 9, 3, (0, 0, 0), [])) (by decide +kernel)) (fun _ => rfl) rfl rfl rfl (fun c56 => ?_) (fun c56 => ?_)
        · exact q_retV (mz_fe (e := (41, .return_, 1, (0, 0, 0), [])) (by decide +kernel)) (by decide +kernel)
        · refine q_o (mz_fe (e := (35, .iload_n 2, 1, (0, 0, 0), [])) (by decide +kernel)) (pc2 := 36) rfl ?_
          refine q_bi (v := 9) (mz_fe (e := (36, .bipush 9, 2, (0, 0, 0), [])) (by decide +kernel)) (by decide) ?_
          refine q_if (c := .ne) (off := 4) (t := 42) (x := (mz_rd m 267 (((mz_rd m 239 43) - 1) : Int32).toNatClampNeg)) (y := 9) (st := []) (mz_fe (e := (38, .if_icmp .ne 4, 3, (0, 0, 0), [])) (by decide +kernel)) (fun _ => rfl) rfl rfl rfl (fun c57 => ?_) (fun c57 => ?_)
          · refine q_o (mz_fe (e := (42, .aload_n 0, 1, (0, 0, 0), [])) (by decide +kernel)) (pc2 := 43) rfl ?_
            refine q_o (mz_fe (e := (43, .dup, 1, (0, 0, 0), [])) (by decide +kernel)) (pc2 := 44) rfl ?_
            refine q_getI (mz_fe (e := (44, .getfield 293, 177, (12, 43, 0), [])) (by decide +kernel)) rfl (by decide) tg_239 (by rw [ln_239]; decide) ?_
            refine q_ic (v := 1) (mz_fe (e := (47, .iconst 1, 1, (0, 0, 0), [])) (by decide +kernel)) (by decide) ?_
            refine q_o (mz_fe (e := (48, .isub, 1, (0, 0, 0), [])) (by decide +kernel)) (pc2 := 49) rfl ?_
            refine q_putI (mz_fe (e := (49, .putfield 293, 177, (12, 43, 0), [])) (by decide +kernel)) rfl tg_239 (by rw [ln_239]; decide) ?_
            refine q_o (mz_fe (e := (52, .aload_n 0, 1, (0, 0, 0), [])) (by decide +kernel)) (pc2 := 53) rfl ?_
            refine q_o (mz_fe (e := (53, .iload_n 2, 1, (0, 0, 0), [])) (by decide +kernel)) (pc2 := 54) rfl ?_
            refine q_bi (v := 8) (mz_fe (e := (54, .bipush 8, 2, (0, 0, 0), [])) (by decide +kernel)) (by decide) ?_
            refine q_if (c := .ne) (off := 7) (t := 63) (x := (mz_rd m 267 (((mz_rd m 239 43) - 1) : Int32).toNatClampNeg)) (y := 8) (st := [.ref 239]) (mz_fe (e := (56, .if_icmp .ne 7, 3, (0, 0, 0), [])) (by decide +kernel)) (fun _ => rfl) rfl rfl rfl (fun c58 => ?_) (fun c58 => ?_)
            · refine q_o (mz_fe (e := (63, .iload_n 2, 1, (0, 0, 0), [])) (by decide +kernel)) (pc2 := 64) rfl ?_
              refine q_bi (v := 9) (mz_fe (e := (64, .bipush 9, 2, (0, 0, 0), [])) (by decide +kernel)) (by decide) ?_
              refine q_if (c := .ne) (off := 7) (t := 73) (x := (mz_rd m 267 (((mz_rd m 239 43) - 1) : Int32).toNatClampNeg)) (y := 9) (st := [.ref 239]) (mz_fe (e := (66, .if_icmp .ne 7, 3, (0, 0, 0), [])) (by decide +kernel)) (fun _ => rfl) rfl rfl rfl (fun c59 => ?_) (fun c59 => ?_)
              · refine q_o (mz_fe (e := (73, .iload_n 2, 1, (0, 0, 0), [])) (by decide +kernel)) (pc2 := 74) rfl ?_
                refine q_bi (v := 10) (mz_fe (e := (74, .bipush 10, 2, (0, 0, 0), [])) (by decide +kernel)) (by decide) ?_
                refine q_if (c := .ne) (off := 7) (t := 83) (x := (mz_rd m 267 (((mz_rd m 239 43) - 1) : Int32).toNatClampNeg)) (y := 10) (st := [.ref 239]) (mz_fe (e := (76, .if_icmp .ne 7, 3, (0, 0, 0), [])) (by decide +kernel)) (fun _ => rfl) rfl rfl rfl (fun c60 => ?_) (fun c60 => ?_)
                · refine q_ic (v := 5) (mz_fe (e := (83, .iconst 5, 1, (0, 0, 0), [])) (by decide +kernel)) (by decide) ?_
                  refine q_ic (v := 0) (mz_fe (e := (84, .iconst 0, 1, (0, 0, 0), [])) (by decide +kernel)) (by decide) ?_
                  refine q_callV (N := 203) (vs := [.ref 239, .int 5, .int 0]) (rest := []) (L' := [some (.ref 239), some (.int y1), some (.int (mz_rd m 267 (((mz_rd m 239 43) - 1) : Int32).toNatClampNeg))]) rfl (mz_fe (e := (85, .invokevirtual 296, 193, (203, 3, 18), [])) (by decide +kernel)) rfl (mz_inv_virt (N := 203) (k := 3) (t := 18) (st := [.int 0, .int 5, .ref 239]) (rest := []) (b := 239) (vs := [.int 5, .int 0]) (h := (mz_S0, (mz_wr m 239 43 ((mz_rd m 239 43) - 1)))) rfl rfl (Nat.le_of_ble_eq_true rfl) (Nat.le_of_ble_eq_true rfl) tg_239 (by decide)) (mz_dc_lt (n := 3) rfl (by decide +kernel) (by decide +kernel)) (by decide +kernel) (by decide +kernel) (fun m61 => ?_)
                  refine q_o (mz_fe (e := (88, .goto (-88), 3, (0, 0, 0), [])) (by decide +kernel)) (pc2 := 0) rfl ?_
                  exact congrArg mz_cV (mz_At_msk (L := [some (.ref 239), some (.int y1), some (.int (mz_rd m 267 (((mz_rd m 239 43) - 1) : Int32).toNatClampNeg))]) (L2 := [some (.ref 239), some (.int y1), none]) (mz_fe (e := (0, .aload_n 0, 1, (0, 0, 0), [true, true, false])) (by decide +kernel)) rfl rfl)
                · refine q_ic (v := 4) (mz_fe (e := (79, .iconst 4, 1, (0, 0, 0), [])) (by decide +kernel)) (by decide) ?_
                  refine q_o (mz_fe (e := (80, .goto 4, 3, (0, 0, 0), [])) (by decide +kernel)) (pc2 := 84) rfl ?_
                  refine q_ic (v := 0) (mz_fe (e := (84, .iconst 0, 1, (0, 0, 0), [])) (by decide +kernel)) (by decide) ?_
                  refine q_callV (N := 203) (vs := [.ref 239, .int 4, .int 0]) (rest := []) (L' := [some (.ref 239), some (.int y1), some (.int (mz_rd m 267 (((mz_rd m 239 43) - 1) : Int32).toNatClampNeg))]) rfl (mz_fe (e := (85, .invokevirtual 296, 193, (203, 3, 18), [])) (by decide +kernel)) rfl (mz_inv_virt (N := 203) (k := 3) (t := 18) (st := [.int 0, .int 4, .ref 239]) (rest := []) (b := 239) (vs := [.int 4, .int 0]) (h := (mz_S0, (mz_wr m 239 43 ((mz_rd m 239 43) - 1)))) rfl rfl (Nat.le_of_ble_eq_true rfl) (Nat.le_of_ble_eq_true rfl) tg_239 (by decide)) (mz_dc_lt (n := 3) rfl (by decide +kernel) (by decide +kernel)) (by decide +kernel) (by decide +kernel) (fun m64 => ?_)
                  refine q_o (mz_fe (e := (88, .goto (-88), 3, (0, 0, 0), [])) (by decide +kernel)) (pc2 := 0) rfl ?_
                  exact congrArg mz_cV (mz_At_msk (L := [some (.ref 239), some (.int y1), some (.int (mz_rd m 267 (((mz_rd m 239 43) - 1) : Int32).toNatClampNeg))]) (L2 := [some (.ref 239), some (.int y1), none]) (mz_fe (e := (0, .aload_n 0, 1, (0, 0, 0), [true, true, false])) (by decide +kernel)) rfl rfl)
              · refine q_ic (v := 3) (mz_fe (e := (69, .iconst 3, 1, (0, 0, 0), [])) (by decide +kernel)) (by decide) ?_
                refine q_o (mz_fe (e := (70, .goto 14, 3, (0, 0, 0), [])) (by decide +kernel)) (pc2 := 84) rfl ?_
                refine q_ic (v := 0) (mz_fe (e := (84, .iconst 0, 1, (0, 0, 0), [])) (by decide +kernel)) (by decide) ?_
                refine q_callV (N := 203) (vs := [.ref 239, .int 3, .int 0]) (rest := []) (L' := [some (.ref 239), some (.int y1), some (.int (mz_rd m 267 (((mz_rd m 239 43) - 1) : Int32).toNatClampNeg))]) rfl (mz_fe (e := (85, .invokevirtual 296, 193, (203, 3, 18), [])) (by decide +kernel)) rfl (mz_inv_virt (N := 203) (k := 3) (t := 18) (st := [.int 0, .int 3, .ref 239]) (rest := []) (b := 239) (vs := [.int 3, .int 0]) (h := (mz_S0, (mz_wr m 239 43 ((mz_rd m 239 43) - 1)))) rfl rfl (Nat.le_of_ble_eq_true rfl) (Nat.le_of_ble_eq_true rfl) tg_239 (by decide)) (mz_dc_lt (n := 3) rfl (by decide +kernel) (by decide +kernel)) (by decide +kernel) (by decide +kernel) (fun m67 => ?_)
                refine q_o (mz_fe (e := (88, .goto (-88), 3, (0, 0, 0), [])) (by decide +kernel)) (pc2 := 0) rfl ?_
                exact congrArg mz_cV (mz_At_msk (L := [some (.ref 239), some (.int y1), some (.int (mz_rd m 267 (((mz_rd m 239 43) - 1) : Int32).toNatClampNeg))]) (L2 := [some (.ref 239), some (.int y1), none]) (mz_fe (e := (0, .aload_n 0, 1, (0, 0, 0), [true, true, false])) (by decide +kernel)) rfl rfl)
            · refine q_ic (v := 2) (mz_fe (e := (59, .iconst 2, 1, (0, 0, 0), [])) (by decide +kernel)) (by decide) ?_
              refine q_o (mz_fe (e := (60, .goto 24, 3, (0, 0, 0), [])) (by decide +kernel)) (pc2 := 84) rfl ?_
              refine q_ic (v := 0) (mz_fe (e := (84, .iconst 0, 1, (0, 0, 0), [])) (by decide +kernel)) (by decide) ?_
              refine q_callV (N := 203) (vs := [.ref 239, .int 2, .int 0]) (rest := []) (L' := [some (.ref 239), some (.int y1), some (.int (mz_rd m 267 (((mz_rd m 239 43) - 1) : Int32).toNatClampNeg))]) rfl (mz_fe (e := (85, .invokevirtual 296, 193, (203, 3, 18), [])) (by decide +kernel)) rfl (mz_inv_virt (N := 203) (k := 3) (t := 18) (st := [.int 0, .int 2, .ref 239]) (rest := []) (b := 239) (vs := [.int 2, .int 0]) (h := (mz_S0, (mz_wr m 239 43 ((mz_rd m 239 43) - 1)))) rfl rfl (Nat.le_of_ble_eq_true rfl) (Nat.le_of_ble_eq_true rfl) tg_239 (by decide)) (mz_dc_lt (n := 3) rfl (by decide +kernel) (by decide +kernel)) (by decide +kernel) (by decide +kernel) (fun m70 => ?_)
              refine q_o (mz_fe (e := (88, .goto (-88), 3, (0, 0, 0), [])) (by decide +kernel)) (pc2 := 0) rfl ?_
              exact congrArg mz_cV (mz_At_msk (L := [some (.ref 239), some (.int y1), some (.int (mz_rd m 267 (((mz_rd m 239 43) - 1) : Int32).toNatClampNeg))]) (L2 := [some (.ref 239), some (.int y1), none]) (mz_fe (e := (0, .aload_n 0, 1, (0, 0, 0), [true, true, false])) (by decide +kernel)) rfl rfl)
          · exact q_retV (mz_fe (e := (41, .return_, 1, (0, 0, 0), [])) (by decide +kernel)) (by decide +kernel)
set_option maxRecDepth 10000 in
theorem R_X12_unit_eq (d : Nat)  (m : MzM)  : R_X12_unit d  m = (R_X12_is d 2 m).bind (fun u3 => if u3.1 = 0 then (if ¬ (mz_rd u3.2 239 13) = 0 then ((R_X12_fail d 1 u3.2).bind (fun m6 => some m6)) else (mz_g (mz_ok (mz_rd u3.2 239 11) 403) (if (mz_rd u3.2 242 ((mz_rd u3.2 239 11) : Int32).toNatClampNeg) < 32 then ((R_X12_fail d 1 u3.2).bind (fun m11 => some m11)) else (mz_g (mz_ok (mz_rd u3.2 239 11) 403) (if (40 : Int32) < (mz_rd u3.2 242 ((mz_rd u3.2 239 11) : Int32).toNatClampNeg) then ((R_X12_fail d 1 u3.2).bind (fun m16 => some m16)) else (mz_g (mz_ok (mz_rd u3.2 239 11) 403) ((R_X12_emit d 1 ((mz_rd u3.2 242 ((mz_rd u3.2 239 11) : Int32).toNatClampNeg) - 32) u3.2).bind (fun m20 => (R_X12_goesOn d  m20).bind (fun m23 => some m23))))))))) else (mz_g (mz_ok (mz_rd u3.2 239 11) 403) ((R_X12_emit d 0 (mz_rd u3.2 244 ((mz_rd u3.2 239 11) : Int32).toNatClampNeg) u3.2).bind (fun m27 => (R_X12_goesOn d  m27).bind (fun m30 => some m30))))) := by
  show mz_cV (mz_T d 206 0 (mz_en (mz_xl 206) [.ref 239]) [] m) = _
  rw [show mz_en (mz_xl 206) [.ref 239] = [some (.ref 239)] from by rw [show mz_xl 206 = 1 from by decide +kernel]; rfl]
  refine q_o (mz_fe (e := (0, .aload_n 0, 1, (0, 0, 0), [])) (by decide +kernel)) (pc2 := 1) rfl ?_
  refine q_ic (v := 2) (mz_fe (e := (1, .iconst 2, 1, (0, 0, 0), [])) (by decide +kernel)) (by decide) ?_
  refine q_callI (N := 185) (vs := [.ref 239, .int 2]) (rest := []) (L' := [some (.ref 239)]) (f := fun v2 m1 => if v2 = 0 then (if ¬ (mz_rd m1 239 13) = 0 then ((R_X12_fail d 1 m1).bind (fun m6 => some m6)) else (mz_g (mz_ok (mz_rd m1 239 11) 403) (if (mz_rd m1 242 ((mz_rd m1 239 11) : Int32).toNatClampNeg) < 32 then ((R_X12_fail d 1 m1).bind (fun m11 => some m11)) else (mz_g (mz_ok (mz_rd m1 239 11) 403) (if (40 : Int32) < (mz_rd m1 242 ((mz_rd m1 239 11) : Int32).toNatClampNeg) then ((R_X12_fail d 1 m1).bind (fun m16 => some m16)) else (mz_g (mz_ok (mz_rd m1 239 11) 403) ((R_X12_emit d 1 ((mz_rd m1 242 ((mz_rd m1 239 11) : Int32).toNatClampNeg) - 32) m1).bind (fun m20 => (R_X12_goesOn d  m20).bind (fun m23 => some m23))))))))) else (mz_g (mz_ok (mz_rd m1 239 11) 403) ((R_X12_emit d 0 (mz_rd m1 244 ((mz_rd m1 239 11) : Int32).toNatClampNeg) m1).bind (fun m27 => (R_X12_goesOn d  m27).bind (fun m30 => some m30))))) rfl (mz_fe (e := (2, .invokevirtual 221, 177, (185, 2, 18), [])) (by decide +kernel)) rfl (mz_inv_virt (N := 185) (k := 2) (t := 18) (st := [.int 2, .ref 239]) (rest := []) (b := 239) (vs := [.int 2]) (h := (mz_S0, m)) rfl rfl (Nat.le_of_ble_eq_true rfl) (Nat.le_of_ble_eq_true rfl) tg_239 (by decide)) (mz_dc_lt (n := 2) rfl (by decide +kernel) (by decide +kernel)) (by decide +kernel) (Or.inr (by decide +kernel)) (fun v2 m1 => ?_)
  refine q_if (c := .eq) (off := 24) (t := 29) (x := v2) (y := 0) (st := []) (mz_fe (e := (5, .ifCond .eq 24, 3, (0, 0, 0), [])) (by decide +kernel)) (fun _ => rfl) rfl rfl rfl (fun c4 => ?_) (fun c4 => ?_)
  · refine q_o (mz_fe (e := (29, .aload_n 0, 1, (0, 0, 0), [])) (by decide +kernel)) (pc2 := 30) rfl ?_
    refine q_getI (mz_fe (e := (30, .getfield 203, 165, (12, 13, 0), [])) (by decide +kernel)) rfl (by decide) tg_239 (by rw [ln_239]; decide) ?_
    refine q_if (c := .ne) (off := 55) (t := 88) (x := (mz_rd m1 239 13)) (y := 0) (st := []) (mz_fe (e := (33, .ifCond .ne 55, 3, (0, 0, 0), [])) (by decide +kernel)) (fun _ => rfl) rfl rfl rfl (fun c5 => ?_) (fun c5 => ?_)
    · refine q_o (mz_fe (e := (88, .aload_n 0, 1, (0, 0, 0), [])) (by decide +kernel)) (pc2 := 89) rfl ?_
      refine q_ic (v := 1) (mz_fe (e := (89, .iconst 1, 1, (0, 0, 0), [])) (by decide +kernel)) (by decide) ?_
      refine q_callV (N := 186) (vs := [.ref 239, .int 1]) (rest := []) (L' := [some (.ref 239)]) rfl (mz_fe (e := (90, .invokevirtual 218, 176, (186, 2, 18), [])) (by decide +kernel)) rfl (mz_inv_virt (N := 186) (k := 2) (t := 18) (st := [.int 1, .ref 239]) (rest := []) (b := 239) (vs := [.int 1]) (h := (mz_S0, m1)) rfl rfl (Nat.le_of_ble_eq_true rfl) (Nat.le_of_ble_eq_true rfl) tg_239 (by decide)) (mz_dc_lt (n := 2) rfl (by decide +kernel) (by decide +kernel)) (by decide +kernel) (by decide +kernel) (fun m6 => ?_)
      exact q_retV (mz_fe (e := (93, .return_, 1, (0, 0, 0), [])) (by decide +kernel)) (by decide +kernel)
    · refine q_o (mz_fe (e := (36, .aload_n 0, 1, (0, 0, 0), [])) (by decide +kernel)) (pc2 := 37) rfl ?_
      refine q_getR (b := 242) (mz_fe (e := (37, .getfield 20, 119, (12, 5, 2), [])) (by decide +kernel)) rfl tg_239 (by rw [ln_239]; decide) (mz_rfS (by decide +kernel)) ?_
      refine q_o (mz_fe (e := (40, .aload_n 0, 1, (0, 0, 0), [])) (by decide +kernel)) (pc2 := 41) rfl ?_
      refine q_getI (mz_fe (e := (41, .getfield 206, 166, (12, 11, 0), [])) (by decide +kernel)) rfl (by decide) tg_239 (by rw [ln_239]; decide) ?_
      refine q_ialdg rfl (mz_fe (e := (44, .iaload, 1, (0, 0, 0), [])) (by decide +kernel)) rfl (by decide) tg_242 ln_242 (fun g9 => ?_)
      refine q_bi (v := 32) (mz_fe (e := (45, .bipush 32, 2, (0, 0, 0), [])) (by decide +kernel)) (by decide) ?_
      refine q_if (c := .lt) (off := 41) (t := 88) (x := (mz_rd m1 242 ((mz_rd m1 239 11) : Int32).toNatClampNeg)) (y := 32) (st := []) (mz_fe (e := (47, .if_icmp .lt 41, 3, (0, 0, 0), [])) (by decide +kernel)) (fun _ => rfl) rfl rfl rfl (fun c10 => ?_) (fun c10 => ?_)
      · refine q_o (mz_fe (e := (88, .aload_n 0, 1, (0, 0, 0), [])) (by decide +kernel)) (pc2 := 89) rfl ?_
        refine q_ic (v := 1) (mz_fe (e := (89, .iconst 1, 1, (0, 0, 0), [])) (by decide +kernel)) (by decide) ?_
        refine q_callV (N := 186) (vs := [.ref 239, .int 1]) (rest := []) (L' := [some (.ref 239)]) rfl (mz_fe (e := (90, .invokevirtual 218, 176, (186, 2, 18), [])) (by decide +kernel)) rfl (mz_inv_virt (N := 186) (k := 2) (t := 18) (st := [.int 1, .ref 239]) (rest := []) (b := 239) (vs := [.int 1]) (h := (mz_S0, m1)) rfl rfl (Nat.le_of_ble_eq_true rfl) (Nat.le_of_ble_eq_true rfl) tg_239 (by decide)) (mz_dc_lt (n := 2) rfl (by decide +kernel) (by decide +kernel)) (by decide +kernel) (by decide +kernel) (fun m11 => ?_)
        exact q_retV (mz_fe (e := (93, .return_, 1, (0, 0, 0), [])) (by decide +kernel)) (by decide +kernel)
      · refine q_o (mz_fe (e := (50, .aload_n 0, 1, (0, 0, 0), [])) (by decide +kernel)) (pc2 := 51) rfl ?_
        refine q_getR (b := 242) (mz_fe (e := (51, .getfield 20, 119, (12, 5, 2), [])) (by decide +kernel)) rfl tg_239 (by rw [ln_239]; decide) (mz_rfS (by decide +kernel)) ?_
        refine q_o (mz_fe (e := (54, .aload_n 0, 1, (0, 0, 0), [])) (by decide +kernel)) (pc2 := 55) rfl ?_
        refine q_getI (mz_fe (e := (55, .getfield 206, 166, (12, 11, 0), [])) (by decide +kernel)) rfl (by decide) tg_239 (by rw [ln_239]; decide) ?_
        refine q_ialdg rfl (mz_fe (e := (58, .iaload, 1, (0, 0, 0), [])) (by decide +kernel)) rfl (by decide) tg_242 ln_242 (fun g14 => ?_)
        refine q_bi (v := 40) (mz_fe (e := (59, .bipush 40, 2, (0, 0, 0), [])) (by decide +kernel)) (by decide) ?_
        refine q_if (c := .gt) (off := 27) (t := 88) (x := (mz_rd m1 242 ((mz_rd m1 239 11) : Int32).toNatClampNeg)) (y := 40) (st := []) (mz_fe (e := (61, .if_icmp .gt 27, 3, (0, 0, 0), [])) (by decide +kernel)) (fun _ => rfl) rfl rfl rfl (fun c15 => ?_) (fun c15 => ?_)
        · refine q_o (mz_fe (e := (88, .aload_n 0, 1, (0, 0, 0), [])) (by decide +kernel)) (pc2 := 89) rfl ?_
          refine q_ic (v := 1) (mz_fe (e := (89, .iconst 1, 1, (0, 0, 0), [])) (by decide +kernel)) (by decide) ?_
          refine q_callV (N := 186) (vs := [.ref 239, .int 1]) (rest := []) (L' := [some (.ref 239)]) rfl (mz_fe (e := (90, .invokevirtual 218, 176, (186, 2, 18), [])) (by decide +kernel)) rfl (mz_inv_virt (N := 186) (k := 2) (t := 18) (st := [.int 1, .ref 239]) (rest := []) (b := 239) (vs := [.int 1]) (h := (mz_S0, m1)) rfl rfl (Nat.le_of_ble_eq_true rfl) (Nat.le_of_ble_eq_true rfl) tg_239 (by decide)) (mz_dc_lt (n := 2) rfl (by decide +kernel) (by decide +kernel)) (by decide +kernel) (by decide +kernel) (fun m16 => ?_)
          exact q_retV (mz_fe (e := (93, .return_, 1, (0, 0, 0), [])) (by decide +kernel)) (by decide +kernel)
        · refine q_o (mz_fe (e := (64, .aload_n 0, 1, (0, 0, 0), [])) (by decide +kernel)) (pc2 := 65) rfl ?_
          refine q_ic (v := 1) (mz_fe (e := (65, .iconst 1, 1, (0, 0, 0), [])) (by decide +kernel)) (by decide) ?_
          refine q_o (mz_fe (e := (66, .aload_n 0, 1, (0, 0, 0), [])) (by decide +kernel)) (pc2 := 67) rfl ?_
          refine q_getR (b := 242) (mz_fe (e := (67, .getfield 20, 119, (12, 5, 2), [])) (by decide +kernel)) rfl tg_239 (by rw [ln_239]; decide) (mz_rfS (by decide +kernel)) ?_
          refine q_o (mz_fe (e := (70, .aload_n 0, 1, (0, 0, 0), [])) (by decide +kernel)) (pc2 := 71) rfl ?_
          refine q_getI (mz_fe (e := (71, .getfield 206, 166, (12, 11, 0), [])) (by decide +kernel)) rfl (by decide) tg_239 (by rw [ln_239]; decide) ?_
          refine q_ialdg rfl (mz_fe (e := (74, .iaload, 1, (0, 0, 0), [])) (by decide +kernel)) rfl (by decide) tg_242 ln_242 (fun g19 => ?_)
          refine q_bi (v := 32) (mz_fe (e := (75, .bipush 32, 2, (0, 0, 0), [])) (by decide +kernel)) (by decide) ?_
          refine q_o (mz_fe (e := (77, .isub, 1, (0, 0, 0), [])) (by decide +kernel)) (pc2 := 78) rfl ?_
          refine q_callV (N := 203) (vs := [.ref 239, .int 1, .int ((mz_rd m1 242 ((mz_rd m1 239 11) : Int32).toNatClampNeg) - 32)]) (rest := []) (L' := [some (.ref 239)]) rfl (mz_fe (e := (78, .invokevirtual 296, 193, (203, 3, 18), [])) (by decide +kernel)) rfl (mz_inv_virt (N := 203) (k := 3) (t := 18) (st := [.int ((mz_rd m1 242 ((mz_rd m1 239 11) : Int32).toNatClampNeg) - 32), .int 1, .ref 239]) (rest := []) (b := 239) (vs := [.int 1, .int ((mz_rd m1 242 ((mz_rd m1 239 11) : Int32).toNatClampNeg) - 32)]) (h := (mz_S0, m1)) rfl rfl (Nat.le_of_ble_eq_true rfl) (Nat.le_of_ble_eq_true rfl) tg_239 (by decide)) (mz_dc_lt (n := 3) rfl (by decide +kernel) (by decide +kernel)) (by decide +kernel) (by decide +kernel) (fun m20 => ?_)
          refine q_o (mz_fe (e := (81, .aload_n 0, 1, (0, 0, 0), [])) (by decide +kernel)) (pc2 := 82) rfl ?_
          refine q_callV (N := 188) (vs := [.ref 239]) (rest := []) (L' := [some (.ref 239)]) rfl (mz_fe (e := (82, .invokevirtual 224, 178, (188, 1, 18), [])) (by decide +kernel)) rfl (mz_inv_virt (N := 188) (k := 1) (t := 18) (st := [.ref 239]) (rest := []) (b := 239) (vs := []) (h := (mz_S0, m20)) rfl rfl (Nat.le_of_ble_eq_true rfl) (Nat.le_of_ble_eq_true rfl) tg_239 (by decide)) (mz_dc_lt (n := 1) rfl (by decide +kernel) (by decide +kernel)) (by decide +kernel) (by decide +kernel) (fun m23 => ?_)
          refine q_o (mz_fe (e := (85, .goto 8, 3, (0, 0, 0), [])) (by decide +kernel)) (pc2 := 93) rfl ?_
          exact q_retV (mz_fe (e := (93, .return_, 1, (0, 0, 0), [])) (by decide +kernel)) (by decide +kernel)
  · refine q_o (mz_fe (e := (8, .aload_n 0, 1, (0, 0, 0), [])) (by decide +kernel)) (pc2 := 9) rfl ?_
    refine q_ic (v := 0) (mz_fe (e := (9, .iconst 0, 1, (0, 0, 0), [])) (by decide +kernel)) (by decide) ?_
    refine q_o (mz_fe (e := (10, .aload_n 0, 1, (0, 0, 0), [])) (by decide +kernel)) (pc2 := 11) rfl ?_
    refine q_getR (b := 244) (mz_fe (e := (11, .getfield 27, 121, (12, 7, 2), [])) (by decide +kernel)) rfl tg_239 (by rw [ln_239]; decide) (mz_rfS (by decide +kernel)) ?_
    refine q_o (mz_fe (e := (14, .aload_n 0, 1, (0, 0, 0), [])) (by decide +kernel)) (pc2 := 15) rfl ?_
    refine q_getI (mz_fe (e := (15, .getfield 206, 166, (12, 11, 0), [])) (by decide +kernel)) rfl (by decide) tg_239 (by rw [ln_239]; decide) ?_
    refine q_ialdg rfl (mz_fe (e := (18, .iaload, 1, (0, 0, 0), [])) (by decide +kernel)) rfl (by decide) tg_244 ln_244 (fun g26 => ?_)
    refine q_callV (N := 203) (vs := [.ref 239, .int 0, .int (mz_rd m1 244 ((mz_rd m1 239 11) : Int32).toNatClampNeg)]) (rest := []) (L' := [some (.ref 239)]) rfl (mz_fe (e := (19, .invokevirtual 296, 193, (203, 3, 18), [])) (by decide +kernel)) rfl (mz_inv_virt (N := 203) (k := 3) (t := 18) (st := [.int (mz_rd m1 244 ((mz_rd m1 239 11) : Int32).toNatClampNeg), .int 0, .ref 239]) (rest := []) (b := 239) (vs := [.int 0, .int (mz_rd m1 244 ((mz_rd m1 239 11) : Int32).toNatClampNeg)]) (h := (mz_S0, m1)) rfl rfl (Nat.le_of_ble_eq_true rfl) (Nat.le_of_ble_eq_true rfl) tg_239 (by decide)) (mz_dc_lt (n := 3) rfl (by decide +kernel) (by decide +kernel)) (by decide +kernel) (by decide +kernel) (fun m27 => ?_)
    refine q_o (mz_fe (e := (22, .aload_n 0, 1, (0, 0, 0), [])) (by decide +kernel)) (pc2 := 23) rfl ?_
    refine q_callV (N := 188) (vs := [.ref 239]) (rest := []) (L' := [some (.ref 239)]) rfl (mz_fe (e := (23, .invokevirtual 224, 178, (188, 1, 18), [])) (by decide +kernel)) rfl (mz_inv_virt (N := 188) (k := 1) (t := 18) (st := [.ref 239]) (rest := []) (b := 239) (vs := []) (h := (mz_S0, m27)) rfl rfl (Nat.le_of_ble_eq_true rfl) (Nat.le_of_ble_eq_true rfl) tg_239 (by decide)) (mz_dc_lt (n := 1) rfl (by decide +kernel) (by decide +kernel)) (by decide +kernel) (by decide +kernel) (fun m30 => ?_)
    refine q_o (mz_fe (e := (26, .goto 67, 3, (0, 0, 0), [])) (by decide +kernel)) (pc2 := 93) rfl ?_
    exact q_retV (mz_fe (e := (93, .return_, 1, (0, 0, 0), [])) (by decide +kernel)) (by decide +kernel)
set_option maxRecDepth 10000 in
theorem R_X12_in_eq (d : Nat) (x0 : Int32) (x1 : Int32) (x2 : Int32) (m : MzM)  : R_X12_in d x0 x1 x2 m = if x0 < x1 then (some (0, m)) else (if x2 < x0 then (some (0, m)) else (some (1, m))) := by
  show mz_cI (mz_T d 208 0 (mz_en (mz_xl 208) [.int x0, .int x1, .int x2]) [] m) = _
  rw [show mz_en (mz_xl 208) [.int x0, .int x1, .int x2] = [some (.int x0), some (.int x1), some (.int x2)] from by rw [show mz_xl 208 = 3 from by decide +kernel]; rfl]
  refine q_o (mz_fe (e := (0, .iload_n 0, 1, (0, 0, 0), [])) (by decide +kernel)) (pc2 := 1) rfl ?_
  refine q_o (mz_fe (e := (1, .iload_n 1, 1, (0, 0, 0), [])) (by decide +kernel)) (pc2 := 2) rfl ?_
  refine q_if (c := .lt) (off := 12) (t := 14) (x := x0) (y := x1) (st := []) (mz_fe (e := (2, .if_icmp .lt 12, 3, (0, 0, 0), [])) (by decide +kernel)) (fun _ => rfl) rfl rfl rfl (fun c1 => ?_) (fun c1 => ?_)
  · refine q_ic (v := 0) (mz_fe (e := (14, .iconst 0, 1, (0, 0, 0), [])) (by decide +kernel)) (by decide) ?_
    exact q_retZ (mz_fe (e := (15, .ireturn, 1, (0, 0, 0), [])) (by decide +kernel)) (by decide +kernel) (by decide)
  · refine q_o (mz_fe (e := (5, .iload_n 0, 1, (0, 0, 0), [])) (by decide +kernel)) (pc2 := 6) rfl ?_
    refine q_o (mz_fe (e := (6, .iload_n 2, 1, (0, 0, 0), [])) (by decide +kernel)) (pc2 := 7) rfl ?_
    refine q_if (c := .gt) (off := 7) (t := 14) (x := x0) (y := x2) (st := []) (mz_fe (e := (7, .if_icmp .gt 7, 3, (0, 0, 0), [])) (by decide +kernel)) (fun _ => rfl) rfl rfl rfl (fun c2 => ?_) (fun c2 => ?_)
    · refine q_ic (v := 0) (mz_fe (e := (14, .iconst 0, 1, (0, 0, 0), [])) (by decide +kernel)) (by decide) ?_
      exact q_retZ (mz_fe (e := (15, .ireturn, 1, (0, 0, 0), [])) (by decide +kernel)) (by decide +kernel) (by decide)
    · refine q_ic (v := 1) (mz_fe (e := (10, .iconst 1, 1, (0, 0, 0), [])) (by decide +kernel)) (by decide) ?_
      refine q_o (mz_fe (e := (11, .goto 4, 3, (0, 0, 0), [])) (by decide +kernel)) (pc2 := 15) rfl ?_
      exact q_retZ (mz_fe (e := (15, .ireturn, 1, (0, 0, 0), [])) (by decide +kernel)) (by decide +kernel) (by decide)
set_option maxRecDepth 10000 in
theorem R_X12_bits_eq (d : Nat) (x0 : Int32) (m : MzM)  : R_X12_bits d x0 m = H_X12_bits_4 d x0 0 0 m := by
  show mz_cI (mz_T d 210 0 (mz_en (mz_xl 210) [.int x0]) [] m) = _
  rw [show mz_en (mz_xl 210) [.int x0] = [some (.int x0), none, none] from by rw [show mz_xl 210 = 3 from by decide +kernel]; rfl]
  refine q_ic (v := 0) (mz_fe (e := (0, .iconst 0, 1, (0, 0, 0), [])) (by decide +kernel)) (by decide) ?_
  refine q_s (mz_fe (e := (1, .istore_n 1, 1, (0, 0, 0), [])) (by decide +kernel)) (pc' := 2) (L' := [some (.int x0), some (.int 0), none]) (st' := []) rfl ?_
  refine q_ic (v := 0) (mz_fe (e := (2, .iconst 0, 1, (0, 0, 0), [])) (by decide +kernel)) (by decide) ?_
  refine q_s (mz_fe (e := (3, .istore_n 2, 1, (0, 0, 0), [])) (by decide +kernel)) (pc' := 4) (L' := [some (.int x0), some (.int 0), some (.int 0)]) (st' := []) rfl ?_
  exact congrArg mz_cI (mz_At_msk (L := [some (.int x0), some (.int 0), some (.int 0)]) (L2 := [some (.int x0), some (.int 0), some (.int 0)]) (mz_fe (e := (4, .iload_n 2, 1, (0, 0, 0), [true, true, true])) (by decide +kernel)) rfl rfl)
set_option maxRecDepth 10000 in
theorem H_X12_bits_4_eq (d : Nat) (y0 : Int32) (y1 : Int32) (y2 : Int32) (m : MzM)  : H_X12_bits_4 d y0 y1 y2 m = if (6 : Int32) ≤ y2 then (some (y1, m)) else (H_X12_bits_4 d y0 (y1 + ((y0 >>> (y2 &&& 31)) &&& 1)) (y2 + 1) m) := by
  show mz_cI (mz_T d 210 4 [some (.int y0), some (.int y1), some (.int y2)] [] m) = _
  refine q_s (mz_fe (e := (4, .iload_n 2, 1, (0, 0, 0), [true, true, true])) (by decide +kernel)) (pc' := 5) (L' := [some (.int y0), some (.int y1), some (.int y2)]) (st' := [.int y2]) rfl ?_
  refine q_bi (v := 6) (mz_fe (e := (5, .bipush 6, 2, (0, 0, 0), [])) (by decide +kernel)) (by decide) ?_
  refine q_if (c := .ge) (off := 17) (t := 24) (x := y2) (y := 6) (st := []) (mz_fe (e := (7, .if_icmp .ge 17, 3, (0, 0, 0), [])) (by decide +kernel)) (fun _ => rfl) rfl rfl rfl (fun c1 => ?_) (fun c1 => ?_)
  · refine q_o (mz_fe (e := (24, .iload_n 1, 1, (0, 0, 0), [])) (by decide +kernel)) (pc2 := 25) rfl ?_
    exact q_retI (mz_fe (e := (25, .ireturn, 1, (0, 0, 0), [])) (by decide +kernel)) (by decide +kernel)
  · refine q_o (mz_fe (e := (10, .iload_n 1, 1, (0, 0, 0), [])) (by decide +kernel)) (pc2 := 11) rfl ?_
    refine q_o (mz_fe (e := (11, .iload_n 0, 1, (0, 0, 0), [])) (by decide +kernel)) (pc2 := 12) rfl ?_
    refine q_o (mz_fe (e := (12, .iload_n 2, 1, (0, 0, 0), [])) (by decide +kernel)) (pc2 := 13) rfl ?_
    refine q_o (mz_fe (e := (13, .ishr, 1, (0, 0, 0), [])) (by decide +kernel)) (pc2 := 14) rfl ?_
    refine q_ic (v := 1) (mz_fe (e := (14, .iconst 1, 1, (0, 0, 0), [])) (by decide +kernel)) (by decide) ?_
    refine q_o (mz_fe (e := (15, .iand, 1, (0, 0, 0), [])) (by decide +kernel)) (pc2 := 16) rfl ?_
    refine q_o (mz_fe (e := (16, .iadd, 1, (0, 0, 0), [])) (by decide +kernel)) (pc2 := 17) rfl ?_
    refine q_s (mz_fe (e := (17, .istore_n 1, 1, (0, 0, 0), [])) (by decide +kernel)) (pc' := 18) (L' := [some (.int y0), some (.int (y1 + ((y0 >>> (y2 &&& 31)) &&& 1))), some (.int y2)]) (st' := []) rfl ?_
    refine q_iinc (v := y2) (c := 1) (L3 := [some (.int y0), some (.int (y1 + ((y0 >>> (y2 &&& 31)) &&& 1))), some (.int (y2 + 1))]) (mz_fe (e := (18, .iinc 2 1, 3, (0, 0, 0), [])) (by decide +kernel)) rfl rfl (by decide) rfl ?_
    refine q_o (mz_fe (e := (21, .goto (-17), 3, (0, 0, 0), [])) (by decide +kernel)) (pc2 := 4) rfl ?_
    exact congrArg mz_cI (mz_At_msk (L := [some (.int y0), some (.int (y1 + ((y0 >>> (y2 &&& 31)) &&& 1))), some (.int (y2 + 1))]) (L2 := [some (.int y0), some (.int (y1 + ((y0 >>> (y2 &&& 31)) &&& 1))), some (.int (y2 + 1))]) (mz_fe (e := (4, .iload_n 2, 1, (0, 0, 0), [true, true, true])) (by decide +kernel)) rfl rfl)
set_option maxRecDepth 10000 in
theorem R_X12_isPerson_eq (d : Nat) (x0 : Int32) (m : MzM)  : R_X12_isPerson d x0 m = mz_g (mz_ok (mz_rd m 239 18) 2) ((R_X12_in d x0 0 ((mz_rd m 248 ((mz_rd m 239 18) : Int32).toNatClampNeg) - 1) m).bind (fun u4 => mz_g (decide (u4.1 = 0 ∨ u4.1 = 1)) (some (u4.1, u4.2)))) := by
  show mz_cI (mz_T d 212 0 (mz_en (mz_xl 212) [.ref 239, .int x0]) [] m) = _
  rw [show mz_en (mz_xl 212) [.ref 239, .int x0] = [some (.ref 239), some (.int x0)] from by rw [show mz_xl 212 = 2 from by decide +kernel]; rfl]
  refine q_o (mz_fe (e := (0, .iload_n 1, 1, (0, 0, 0), [])) (by decide +kernel)) (pc2 := 1) rfl ?_
  refine q_ic (v := 0) (mz_fe (e := (1, .iconst 0, 1, (0, 0, 0), [])) (by decide +kernel)) (by decide) ?_
  refine q_o (mz_fe (e := (2, .aload_n 0, 1, (0, 0, 0), [])) (by decide +kernel)) (pc2 := 3) rfl ?_
  refine q_getR (b := 248) (mz_fe (e := (3, .getfield 43, 126, (12, 21, 2), [])) (by decide +kernel)) rfl tg_239 (by rw [ln_239]; decide) (mz_rfS (by decide +kernel)) ?_
  refine q_o (mz_fe (e := (6, .aload_n 0, 1, (0, 0, 0), [])) (by decide +kernel)) (pc2 := 7) rfl ?_
  refine q_getI (mz_fe (e := (7, .getfield 233, 171, (12, 18, 0), [])) (by decide +kernel)) rfl (by decide) tg_239 (by rw [ln_239]; decide) ?_
  refine q_ialdg rfl (mz_fe (e := (10, .iaload, 1, (0, 0, 0), [])) (by decide +kernel)) rfl (by decide) tg_248 ln_248 (fun g1 => ?_)
  refine q_ic (v := 1) (mz_fe (e := (11, .iconst 1, 1, (0, 0, 0), [])) (by decide +kernel)) (by decide) ?_
  refine q_o (mz_fe (e := (12, .isub, 1, (0, 0, 0), [])) (by decide +kernel)) (pc2 := 13) rfl ?_
  refine q_callI (N := 208) (vs := [.int x0, .int 0, .int ((mz_rd m 248 ((mz_rd m 239 18) : Int32).toNatClampNeg) - 1)]) (rest := []) (L' := [some (.ref 239), some (.int x0)]) (f := fun v3 m2 => mz_g (decide (v3 = 0 ∨ v3 = 1)) (some (v3, m2))) rfl (mz_fe (e := (13, .invokestatic 310, 196, (208, 3, 1000), [])) (by decide +kernel)) rfl (mz_inv_stat (N := 208) (k := 3) (st := [.int ((mz_rd m 248 ((mz_rd m 239 18) : Int32).toNatClampNeg) - 1), .int 0, .int x0]) (rest := []) (vs := [.int x0, .int 0, .int ((mz_rd m 248 ((mz_rd m 239 18) : Int32).toNatClampNeg) - 1)]) (h := (mz_S0, m)) rfl rfl (Nat.le_of_ble_eq_true rfl) (Nat.le_of_ble_eq_true rfl)) (mz_dc_lt (n := 3) rfl (by decide +kernel) (by decide +kernel)) (by decide +kernel) (Or.inr (by decide +kernel)) (fun v3 m2 => ?_)
  exact q_retZg (mz_fe (e := (16, .ireturn, 1, (0, 0, 0), [])) (by decide +kernel)) (by decide +kernel)
set_option maxRecDepth 10000 in
theorem R_X12_isStuff_eq (d : Nat) (x0 : Int32) (m : MzM)  : R_X12_isStuff d x0 m = (R_X12_in d x0 0 3 m).bind (fun u3 => mz_g (decide (u3.1 = 0 ∨ u3.1 = 1)) (some (u3.1, u3.2))) := by
  show mz_cI (mz_T d 214 0 (mz_en (mz_xl 214) [.int x0]) [] m) = _
  rw [show mz_en (mz_xl 214) [.int x0] = [some (.int x0)] from by rw [show mz_xl 214 = 1 from by decide +kernel]; rfl]
  refine q_o (mz_fe (e := (0, .iload_n 0, 1, (0, 0, 0), [])) (by decide +kernel)) (pc2 := 1) rfl ?_
  refine q_ic (v := 0) (mz_fe (e := (1, .iconst 0, 1, (0, 0, 0), [])) (by decide +kernel)) (by decide) ?_
  refine q_ic (v := 3) (mz_fe (e := (2, .iconst 3, 1, (0, 0, 0), [])) (by decide +kernel)) (by decide) ?_
  refine q_callI (N := 208) (vs := [.int x0, .int 0, .int 3]) (rest := []) (L' := [some (.int x0)]) (f := fun v2 m1 => mz_g (decide (v2 = 0 ∨ v2 = 1)) (some (v2, m1))) rfl (mz_fe (e := (3, .invokestatic 310, 196, (208, 3, 1000), [])) (by decide +kernel)) rfl (mz_inv_stat (N := 208) (k := 3) (st := [.int 3, .int 0, .int x0]) (rest := []) (vs := [.int x0, .int 0, .int 3]) (h := (mz_S0, m)) rfl rfl (Nat.le_of_ble_eq_true rfl) (Nat.le_of_ble_eq_true rfl)) (mz_dc_lt (n := 3) rfl (by decide +kernel) (by decide +kernel)) (by decide +kernel) (Or.inr (by decide +kernel)) (fun v2 m1 => ?_)
  exact q_retZg (mz_fe (e := (6, .ireturn, 1, (0, 0, 0), [])) (by decide +kernel)) (by decide +kernel)
set_option maxRecDepth 10000 in
theorem R_X12_keepsRow_eq (d : Nat)  (m : MzM)  : R_X12_keepsRow d  m = H_X12_keepsRow_2 d 0 m := by
  show mz_cV (mz_T d 216 0 (mz_en (mz_xl 216) [.ref 239]) [] m) = _
  rw [show mz_en (mz_xl 216) [.ref 239] = [some (.ref 239), none] from by rw [show mz_xl 216 = 2 from by decide +kernel]; rfl]
  refine q_ic (v := 0) (mz_fe (e := (0, .iconst 0, 1, (0, 0, 0), [])) (by decide +kernel)) (by decide) ?_
  refine q_s (mz_fe (e := (1, .istore_n 1, 1, (0, 0, 0), [])) (by decide +kernel)) (pc' := 2) (L' := [some (.ref 239), some (.int 0)]) (st' := []) rfl ?_
  exact congrArg mz_cV (mz_At_msk (L := [some (.ref 239), some (.int 0)]) (L2 := [some (.ref 239), some (.int 0)]) (mz_fe (e := (2, .iload_n 1, 1, (0, 0, 0), [true, true])) (by decide +kernel)) rfl rfl)
set_option maxRecDepth 10000 in
theorem H_X12_keepsRow_2_eq (d : Nat) (y1 : Int32) (m : MzM)  : H_X12_keepsRow_2 d y1 m = if (39 : Int32) ≤ y1 then some m else (mz_g (mz_ok y1 39) (mz_g (mz_ok y1 39) (H_X12_keepsRow_2 d (y1 + 1) (mz_wr m 270 (y1 : Int32).toNatClampNeg (mz_rd m 271 (y1 : Int32).toNatClampNeg))))) := by
  show mz_cV (mz_T d 216 2 [some (.ref 239), some (.int y1)] [] m) = _
  refine q_s (mz_fe (e := (2, .iload_n 1, 1, (0, 0, 0), [true, true])) (by decide +kernel)) (pc' := 3) (L' := [some (.ref 239), some (.int y1)]) (st' := [.int y1]) rfl ?_
  refine q_bi (v := 39) (mz_fe (e := (3, .bipush 39, 2, (0, 0, 0), [])) (by decide +kernel)) (by decide) ?_
  refine q_if (c := .ge) (off := 21) (t := 26) (x := y1) (y := 39) (st := []) (mz_fe (e := (5, .if_icmp .ge 21, 3, (0, 0, 0), [])) (by decide +kernel)) (fun _ => rfl) rfl rfl rfl (fun c1 => ?_) (fun c1 => ?_)
  · exact q_retV (mz_fe (e := (26, .return_, 1, (0, 0, 0), [])) (by decide +kernel)) (by decide +kernel)
  · refine q_o (mz_fe (e := (8, .aload_n 0, 1, (0, 0, 0), [])) (by decide +kernel)) (pc2 := 9) rfl ?_
    refine q_getR (b := 270) (mz_fe (e := (9, .getfield 110, 148, (12, 47, 2), [])) (by decide +kernel)) rfl tg_239 (by rw [ln_239]; decide) (mz_rfS (by decide +kernel)) ?_
    refine q_o (mz_fe (e := (12, .iload_n 1, 1, (0, 0, 0), [])) (by decide +kernel)) (pc2 := 13) rfl ?_
    refine q_o (mz_fe (e := (13, .aload_n 0, 1, (0, 0, 0), [])) (by decide +kernel)) (pc2 := 14) rfl ?_
    refine q_getR (b := 271) (mz_fe (e := (14, .getfield 113, 149, (12, 48, 2), [])) (by decide +kernel)) rfl tg_239 (by rw [ln_239]; decide) (mz_rfS (by decide +kernel)) ?_
    refine q_o (mz_fe (e := (17, .iload_n 1, 1, (0, 0, 0), [])) (by decide +kernel)) (pc2 := 18) rfl ?_
    refine q_ialdg rfl (mz_fe (e := (18, .iaload, 1, (0, 0, 0), [])) (by decide +kernel)) rfl (by decide) tg_271 ln_271 (fun g2 => ?_)
    refine q_stAg (f := (fun x => x)) rfl (mz_fe (e := (19, .iastore, 1, (0, 0, 0), [])) (by decide +kernel)) (fun _ => rfl) rfl tg_270 ln_270 (fun g3 => ?_)
    refine q_iinc (v := y1) (c := 1) (L3 := [some (.ref 239), some (.int (y1 + 1))]) (mz_fe (e := (20, .iinc 1 1, 3, (0, 0, 0), [])) (by decide +kernel)) rfl rfl (by decide) rfl ?_
    refine q_o (mz_fe (e := (23, .goto (-21), 3, (0, 0, 0), [])) (by decide +kernel)) (pc2 := 2) rfl ?_
    exact congrArg mz_cV (mz_At_msk (L := [some (.ref 239), some (.int (y1 + 1))]) (L2 := [some (.ref 239), some (.int (y1 + 1))]) (mz_fe (e := (2, .iload_n 1, 1, (0, 0, 0), [true, true])) (by decide +kernel)) rfl rfl)
set_option maxRecDepth 10000 in
theorem R_X12_copiesStill_eq (d : Nat)  (m : MzM)  : R_X12_copiesStill d  m = (R_X12_copies d  m).bind (fun m1 => some (mz_wr m1 239 50 1)) := by
  show mz_cV (mz_T d 218 0 (mz_en (mz_xl 218) [.ref 239]) [] m) = _
  rw [show mz_en (mz_xl 218) [.ref 239] = [some (.ref 239)] from by rw [show mz_xl 218 = 1 from by decide +kernel]; rfl]
  refine q_o (mz_fe (e := (0, .aload_n 0, 1, (0, 0, 0), [])) (by decide +kernel)) (pc2 := 1) rfl ?_
  refine q_callV (N := 217) (vs := [.ref 239]) (rest := []) (L' := [some (.ref 239)]) rfl (mz_fe (e := (1, .invokevirtual 323, 198, (217, 1, 18), [])) (by decide +kernel)) rfl (mz_inv_virt (N := 217) (k := 1) (t := 18) (st := [.ref 239]) (rest := []) (b := 239) (vs := []) (h := (mz_S0, m)) rfl rfl (Nat.le_of_ble_eq_true rfl) (Nat.le_of_ble_eq_true rfl) tg_239 (by decide)) (mz_dc_lt (n := 1) rfl (by decide +kernel) (by decide +kernel)) (by decide +kernel) (by decide +kernel) (fun m1 => ?_)
  refine q_o (mz_fe (e := (4, .aload_n 0, 1, (0, 0, 0), [])) (by decide +kernel)) (pc2 := 5) rfl ?_
  refine q_ic (v := 1) (mz_fe (e := (5, .iconst 1, 1, (0, 0, 0), [])) (by decide +kernel)) (by decide) ?_
  refine q_putZ (mz_fe (e := (6, .putfield 320, 180, (12, 50, 1), [])) (by decide +kernel)) rfl tg_239 (by rw [ln_239]; decide) (by decide) ?_
  exact q_retV (mz_fe (e := (9, .return_, 1, (0, 0, 0), [])) (by decide +kernel)) (by decide +kernel)
set_option maxRecDepth 10000 in
theorem R_X12_lotOf_eq (d : Nat) (x0 : Int32) (x1 : Int32) (m : MzM)  : R_X12_lotOf d x0 x1 m = (R_X12_mixed d (mz_rd m 239 49) 161 m).bind (fun u3 => (R_X12_mixed d u3.1 x0 u3.2).bind (fun u6 => mz_g (decide (x1 ≠ 0)) (some (((((u6.1 : Int32).toUInt32 >>> ((1 : Int32).toUInt32 &&& Int32.toUInt32 31)).toInt32) - (((u6.1 : Int32).toUInt32 >>> ((1 : Int32).toUInt32 &&& Int32.toUInt32 31)).toInt32) / x1 * x1), u6.2)))) := by
  show mz_cI (mz_T d 220 0 (mz_en (mz_xl 220) [.ref 239, .int x0, .int x1]) [] m) = _
  rw [show mz_en (mz_xl 220) [.ref 239, .int x0, .int x1] = [some (.ref 239), some (.int x0), some (.int x1)] from by rw [show mz_xl 220 = 3 from by decide +kernel]; rfl]
  refine q_o (mz_fe (e := (0, .aload_n 0, 1, (0, 0, 0), [])) (by decide +kernel)) (pc2 := 1) rfl ?_
  refine q_getI (mz_fe (e := (1, .getfield 317, 179, (12, 49, 0), [])) (by decide +kernel)) rfl (by decide) tg_239 (by rw [ln_239]; decide) ?_
  refine q_si (v := 161) (mz_fe (e := (4, .sipush 161, 3, (0, 0, 0), [])) (by decide +kernel)) (by decide) ?_
  refine q_callI (N := 219) (vs := [.int (mz_rd m 239 49), .int 161]) (rest := []) (L' := [some (.ref 239), some (.int x0), some (.int x1)]) (f := fun v2 m1 => (R_X12_mixed d v2 x0 m1).bind (fun u6 => mz_g (decide (x1 ≠ 0)) (some (((((u6.1 : Int32).toUInt32 >>> ((1 : Int32).toUInt32 &&& Int32.toUInt32 31)).toInt32) - (((u6.1 : Int32).toUInt32 >>> ((1 : Int32).toUInt32 &&& Int32.toUInt32 31)).toInt32) / x1 * x1), u6.2)))) rfl (mz_fe (e := (7, .invokestatic 327, 199, (219, 2, 1000), [])) (by decide +kernel)) rfl (mz_inv_stat (N := 219) (k := 2) (st := [.int 161, .int (mz_rd m 239 49)]) (rest := []) (vs := [.int (mz_rd m 239 49), .int 161]) (h := (mz_S0, m)) rfl rfl (Nat.le_of_ble_eq_true rfl) (Nat.le_of_ble_eq_true rfl)) (mz_dc_lt (n := 2) rfl (by decide +kernel) (by decide +kernel)) (by decide +kernel) (Or.inl (by decide +kernel)) (fun v2 m1 => ?_)
  refine q_o (mz_fe (e := (10, .iload_n 1, 1, (0, 0, 0), [])) (by decide +kernel)) (pc2 := 11) rfl ?_
  refine q_callI (N := 219) (vs := [.int v2, .int x0]) (rest := []) (L' := [some (.ref 239), some (.int x0), some (.int x1)]) (f := fun v5 m4 => mz_g (decide (x1 ≠ 0)) (some (((((v5 : Int32).toUInt32 >>> ((1 : Int32).toUInt32 &&& Int32.toUInt32 31)).toInt32) - (((v5 : Int32).toUInt32 >>> ((1 : Int32).toUInt32 &&& Int32.toUInt32 31)).toInt32) / x1 * x1), m4))) rfl (mz_fe (e := (11, .invokestatic 327, 199, (219, 2, 1000), [])) (by decide +kernel)) rfl (mz_inv_stat (N := 219) (k := 2) (st := [.int x0, .int v2]) (rest := []) (vs := [.int v2, .int x0]) (h := (mz_S0, m1)) rfl rfl (Nat.le_of_ble_eq_true rfl) (Nat.le_of_ble_eq_true rfl)) (mz_dc_lt (n := 2) rfl (by decide +kernel) (by decide +kernel)) (by decide +kernel) (Or.inl (by decide +kernel)) (fun v5 m4 => ?_)
  refine q_ic (v := 1) (mz_fe (e := (14, .iconst 1, 1, (0, 0, 0), [])) (by decide +kernel)) (by decide) ?_
  refine q_o (mz_fe (e := (15, .iushr, 1, (0, 0, 0), [])) (by decide +kernel)) (pc2 := 16) rfl ?_
  refine q_o (mz_fe (e := (16, .iload_n 2, 1, (0, 0, 0), [])) (by decide +kernel)) (pc2 := 17) rfl ?_
  refine q_div (z := fun x y => x - x / y * y) rfl (mz_fe (e := (17, .irem, 1, (0, 0, 0), [])) (by decide +kernel)) (fun _ => rfl) rfl (fun g7 => ?_)
  exact q_retI (mz_fe (e := (18, .ireturn, 1, (0, 0, 0), [])) (by decide +kernel)) (by decide +kernel)
set_option maxRecDepth 10000 in
theorem R_X12_fourFrom_eq (d : Nat) (x0 : Int32) (m : MzM)  : R_X12_fourFrom d x0 m = mz_g (mz_ok x0 39) (mz_g (mz_ok (x0 + 1) 39) (mz_g (mz_ok (x0 + 2) 39) (mz_g (mz_ok (x0 + 3) 39) (some (((((mz_rd m 271 (x0 : Int32).toNatClampNeg) + (mz_rd m 271 ((x0 + 1) : Int32).toNatClampNeg)) + (mz_rd m 271 ((x0 + 2) : Int32).toNatClampNeg)) + (mz_rd m 271 ((x0 + 3) : Int32).toNatClampNeg)), m))))) := by
  show mz_cI (mz_T d 222 0 (mz_en (mz_xl 222) [.ref 239, .int x0]) [] m) = _
  rw [show mz_en (mz_xl 222) [.ref 239, .int x0] = [some (.ref 239), some (.int x0)] from by rw [show mz_xl 222 = 2 from by decide +kernel]; rfl]
  refine q_o (mz_fe (e := (0, .aload_n 0, 1, (0, 0, 0), [])) (by decide +kernel)) (pc2 := 1) rfl ?_
  refine q_getR (b := 271) (mz_fe (e := (1, .getfield 113, 149, (12, 48, 2), [])) (by decide +kernel)) rfl tg_239 (by rw [ln_239]; decide) (mz_rfS (by decide +kernel)) ?_
  refine q_o (mz_fe (e := (4, .iload_n 1, 1, (0, 0, 0), [])) (by decide +kernel)) (pc2 := 5) rfl ?_
  refine q_ialdg rfl (mz_fe (e := (5, .iaload, 1, (0, 0, 0), [])) (by decide +kernel)) rfl (by decide) tg_271 ln_271 (fun g1 => ?_)
  refine q_o (mz_fe (e := (6, .aload_n 0, 1, (0, 0, 0), [])) (by decide +kernel)) (pc2 := 7) rfl ?_
  refine q_getR (b := 271) (mz_fe (e := (7, .getfield 113, 149, (12, 48, 2), [])) (by decide +kernel)) rfl tg_239 (by rw [ln_239]; decide) (mz_rfS (by decide +kernel)) ?_
  refine q_o (mz_fe (e := (10, .iload_n 1, 1, (0, 0, 0), [])) (by decide +kernel)) (pc2 := 11) rfl ?_
  refine q_ic (v := 1) (mz_fe (e := (11, .iconst 1, 1, (0, 0, 0), [])) (by decide +kernel)) (by decide) ?_
  refine q_o (mz_fe (e := (12, .iadd, 1, (0, 0, 0), [])) (by decide +kernel)) (pc2 := 13) rfl ?_
  refine q_ialdg rfl (mz_fe (e := (13, .iaload, 1, (0, 0, 0), [])) (by decide +kernel)) rfl (by decide) tg_271 ln_271 (fun g2 => ?_)
  refine q_o (mz_fe (e := (14, .iadd, 1, (0, 0, 0), [])) (by decide +kernel)) (pc2 := 15) rfl ?_
  refine q_o (mz_fe (e := (15, .aload_n 0, 1, (0, 0, 0), [])) (by decide +kernel)) (pc2 := 16) rfl ?_
  refine q_getR (b := 271) (mz_fe (e := (16, .getfield 113, 149, (12, 48, 2), [])) (by decide +kernel)) rfl tg_239 (by rw [ln_239]; decide) (mz_rfS (by decide +kernel)) ?_
  refine q_o (mz_fe (e := (19, .iload_n 1, 1, (0, 0, 0), [])) (by decide +kernel)) (pc2 := 20) rfl ?_
  refine q_ic (v := 2) (mz_fe (e := (20, .iconst 2, 1, (0, 0, 0), [])) (by decide +kernel)) (by decide) ?_
  refine q_o (mz_fe (e := (21, .iadd, 1, (0, 0, 0), [])) (by decide +kernel)) (pc2 := 22) rfl ?_
  refine q_ialdg rfl (mz_fe (e := (22, .iaload, 1, (0, 0, 0), [])) (by decide +kernel)) rfl (by decide) tg_271 ln_271 (fun g3 => ?_)
  refine q_o (mz_fe (e := (23, .iadd, 1, (0, 0, 0), [])) (by decide +kernel)) (pc2 := 24) rfl ?_
  refine q_o (mz_fe (e := (24, .aload_n 0, 1, (0, 0, 0), [])) (by decide +kernel)) (pc2 := 25) rfl ?_
  refine q_getR (b := 271) (mz_fe (e := (25, .getfield 113, 149, (12, 48, 2), [])) (by decide +kernel)) rfl tg_239 (by rw [ln_239]; decide) (mz_rfS (by decide +kernel)) ?_
  refine q_o (mz_fe (e := (28, .iload_n 1, 1, (0, 0, 0), [])) (by decide +kernel)) (pc2 := 29) rfl ?_
  refine q_ic (v := 3) (mz_fe (e := (29, .iconst 3, 1, (0, 0, 0), [])) (by decide +kernel)) (by decide) ?_
  refine q_o (mz_fe (e := (30, .iadd, 1, (0, 0, 0), [])) (by decide +kernel)) (pc2 := 31) rfl ?_
  refine q_ialdg rfl (mz_fe (e := (31, .iaload, 1, (0, 0, 0), [])) (by decide +kernel)) rfl (by decide) tg_271 ln_271 (fun g4 => ?_)
  refine q_o (mz_fe (e := (32, .iadd, 1, (0, 0, 0), [])) (by decide +kernel)) (pc2 := 33) rfl ?_
  exact q_retI (mz_fe (e := (33, .ireturn, 1, (0, 0, 0), [])) (by decide +kernel)) (by decide +kernel)
set_option maxRecDepth 10000 in
theorem R_X12_lawTells_eq (d : Nat) (x0 : Int32) (x1 : Int32) (m : MzM)  : R_X12_lawTells d x0 x1 m = mz_g (mz_ok (((4 : Int32) * (mz_rd m 239 18)) + x0) 8) (mz_g (mz_ok (((4 : Int32) * (mz_rd m 239 18)) + x0) 8) (if ¬ (mz_rd m 258 ((((4 : Int32) * (mz_rd m 239 18)) + x0) : Int32).toNatClampNeg) = (mz_rd m 259 ((((4 : Int32) * (mz_rd m 239 18)) + x0) : Int32).toNatClampNeg) then (mz_g (mz_ok (((4 : Int32) * (mz_rd m 239 18)) + x0) 8) (H_X12_lawTells_39 d (((4 : Int32) * (mz_rd m 239 18)) + x0) (mz_rd (mz_wr m 239 46 0) 258 ((((4 : Int32) * (mz_rd m 239 18)) + x0) : Int32).toNatClampNeg) (mz_wr m 239 46 0))) else (some (x1, m)))) := by
  show mz_cI (mz_T d 224 0 (mz_en (mz_xl 224) [.ref 239, .int x0, .int x1]) [] m) = _
  rw [show mz_en (mz_xl 224) [.ref 239, .int x0, .int x1] = [some (.ref 239), some (.int x0), some (.int x1), none, none, none, none] from by rw [show mz_xl 224 = 7 from by decide +kernel]; rfl]
  refine q_ic (v := 4) (mz_fe (e := (0, .iconst 4, 1, (0, 0, 0), [])) (by decide +kernel)) (by decide) ?_
  refine q_o (mz_fe (e := (1, .aload_n 0, 1, (0, 0, 0), [])) (by decide +kernel)) (pc2 := 2) rfl ?_
  refine q_getI (mz_fe (e := (2, .getfield 233, 171, (12, 18, 0), [])) (by decide +kernel)) rfl (by decide) tg_239 (by rw [ln_239]; decide) ?_
  refine q_o (mz_fe (e := (5, .imul, 1, (0, 0, 0), [])) (by decide +kernel)) (pc2 := 6) rfl ?_
  refine q_o (mz_fe (e := (6, .iload_n 1, 1, (0, 0, 0), [])) (by decide +kernel)) (pc2 := 7) rfl ?_
  refine q_o (mz_fe (e := (7, .iadd, 1, (0, 0, 0), [])) (by decide +kernel)) (pc2 := 8) rfl ?_
  refine q_s (mz_fe (e := (8, .istore_n 3, 1, (0, 0, 0), [])) (by decide +kernel)) (pc' := 9) (L' := [some (.ref 239), some (.int x0), some (.int x1), some (.int (((4 : Int32) * (mz_rd m 239 18)) + x0)), none, none, none]) (st' := []) rfl ?_
  refine q_o (mz_fe (e := (9, .aload_n 0, 1, (0, 0, 0), [])) (by decide +kernel)) (pc2 := 10) rfl ?_
  refine q_getR (b := 258) (mz_fe (e := (10, .getfield 73, 136, (12, 31, 2), [])) (by decide +kernel)) rfl tg_239 (by rw [ln_239]; decide) (mz_rfS (by decide +kernel)) ?_
  refine q_o (mz_fe (e := (13, .iload_n 3, 1, (0, 0, 0), [])) (by decide +kernel)) (pc2 := 14) rfl ?_
  refine q_ialdg rfl (mz_fe (e := (14, .iaload, 1, (0, 0, 0), [])) (by decide +kernel)) rfl (by decide) tg_258 ln_258 (fun g1 => ?_)
  refine q_o (mz_fe (e := (15, .aload_n 0, 1, (0, 0, 0), [])) (by decide +kernel)) (pc2 := 16) rfl ?_
  refine q_getR (b := 259) (mz_fe (e := (16, .getfield 76, 137, (12, 32, 2), [])) (by decide +kernel)) rfl tg_239 (by rw [ln_239]; decide) (mz_rfS (by decide +kernel)) ?_
  refine q_o (mz_fe (e := (19, .iload_n 3, 1, (0, 0, 0), [])) (by decide +kernel)) (pc2 := 20) rfl ?_
  refine q_ialdg rfl (mz_fe (e := (20, .iaload, 1, (0, 0, 0), [])) (by decide +kernel)) rfl (by decide) tg_259 ln_259 (fun g2 => ?_)
  refine q_if (c := .ne) (off := 5) (t := 26) (x := (mz_rd m 258 ((((4 : Int32) * (mz_rd m 239 18)) + x0) : Int32).toNatClampNeg)) (y := (mz_rd m 259 ((((4 : Int32) * (mz_rd m 239 18)) + x0) : Int32).toNatClampNeg)) (st := []) (mz_fe (e := (21, .if_icmp .ne 5, 3, (0, 0, 0), [])) (by decide +kernel)) (fun _ => rfl) rfl rfl rfl (fun c3 => ?_) (fun c3 => ?_)
  · refine q_o (mz_fe (e := (26, .aload_n 0, 1, (0, 0, 0), [])) (by decide +kernel)) (pc2 := 27) rfl ?_
    refine q_ic (v := 0) (mz_fe (e := (27, .iconst 0, 1, (0, 0, 0), [])) (by decide +kernel)) (by decide) ?_
    refine q_putZ (mz_fe (e := (28, .putfield 306, 178, (12, 46, 1), [])) (by decide +kernel)) rfl tg_239 (by rw [ln_239]; decide) (by decide) ?_
    refine q_o (mz_fe (e := (31, .aload_n 0, 1, (0, 0, 0), [])) (by decide +kernel)) (pc2 := 32) rfl ?_
    refine q_getR (b := 258) (mz_fe (e := (32, .getfield 73, 136, (12, 31, 2), [])) (by decide +kernel)) rfl tg_239 (by rw [ln_239]; decide) (mz_rfS (by decide +kernel)) ?_
    refine q_o (mz_fe (e := (35, .iload_n 3, 1, (0, 0, 0), [])) (by decide +kernel)) (pc2 := 36) rfl ?_
    refine q_ialdg rfl (mz_fe (e := (36, .iaload, 1, (0, 0, 0), [])) (by decide +kernel)) rfl (by decide) tg_258 ln_258 (fun g4 => ?_)
    refine q_s (mz_fe (e := (37, .istore 4, 2, (0, 0, 0), [])) (by decide +kernel)) (pc' := 39) (L' := [some (.ref 239), some (.int x0), some (.int x1), some (.int (((4 : Int32) * (mz_rd m 239 18)) + x0)), some (.int (mz_rd (mz_wr m 239 46 0) 258 ((((4 : Int32) * (mz_rd m 239 18)) + x0) : Int32).toNatClampNeg)), none, none]) (st' := []) rfl ?_
    exact congrArg mz_cI (mz_At_msk (L := [some (.ref 239), some (.int x0), some (.int x1), some (.int (((4 : Int32) * (mz_rd m 239 18)) + x0)), some (.int (mz_rd (mz_wr m 239 46 0) 258 ((((4 : Int32) * (mz_rd m 239 18)) + x0) : Int32).toNatClampNeg)), none, none]) (L2 := [some (.ref 239), none, none, some (.int (((4 : Int32) * (mz_rd m 239 18)) + x0)), some (.int (mz_rd (mz_wr m 239 46 0) 258 ((((4 : Int32) * (mz_rd m 239 18)) + x0) : Int32).toNatClampNeg)), none, none]) (mz_fe (e := (39, .iload 4, 2, (0, 0, 0), [true, false, false, true, true, false, false])) (by decide +kernel)) rfl rfl)
  · refine q_o (mz_fe (e := (24, .iload_n 2, 1, (0, 0, 0), [])) (by decide +kernel)) (pc2 := 25) rfl ?_
    exact q_retI (mz_fe (e := (25, .ireturn, 1, (0, 0, 0), [])) (by decide +kernel)) (by decide +kernel)
set_option maxRecDepth 10000 in
theorem H_X12_lawTells_39_eq (d : Nat) (y3 : Int32) (y4 : Int32) (m : MzM)  : H_X12_lawTells_39 d y3 y4 m = mz_g (mz_ok y3 8) (if (mz_rd m 259 (y3 : Int32).toNatClampNeg) ≤ y4 then (some (0, m)) else (mz_g (mz_ok y4 260) (if (mz_rd m 260 (y4 : Int32).toNatClampNeg) = 0 then (mz_g (mz_ok y4 260) (mz_g (mz_ok y4 260) ((R_X12_termOf d (mz_rd m 263 (y4 : Int32).toNatClampNeg) (mz_rd m 264 (y4 : Int32).toNatClampNeg) m).bind (fun u13 => if (mz_rd u13.2 239 46) = 0 then (some (u13.1, u13.2)) else (some (0, u13.2)))))) else (mz_g (mz_ok y4 260) (mz_g (mz_ok y4 260) ((R_X12_termOf d (mz_rd m 261 (y4 : Int32).toNatClampNeg) (mz_rd m 262 (y4 : Int32).toNatClampNeg) m).bind (fun u19 => mz_g (mz_ok y4 260) (mz_g (mz_ok y4 260) ((R_X12_termOf d (mz_rd u19.2 262 (y4 : Int32).toNatClampNeg) (mz_rd u19.2 263 (y4 : Int32).toNatClampNeg) u19.2).bind (fun u24 => if (mz_rd u24.2 239 46) = 0 then (if u19.1 < u24.1 then (mz_g (mz_ok y4 260) (mz_g (mz_ok y4 260) ((R_X12_termOf d (mz_rd u24.2 263 (y4 : Int32).toNatClampNeg) (mz_rd u24.2 264 (y4 : Int32).toNatClampNeg) u24.2).bind (fun u31 => if (mz_rd u31.2 239 46) = 0 then (some (u31.1, u31.2)) else (some (0, u31.2)))))) else (H_X12_lawTells_39 d y3 (y4 + 1) u24.2)) else (some (0, u24.2)))))))))))) := by
  show mz_cI (mz_T d 224 39 [some (.ref 239), none, none, some (.int y3), some (.int y4), none, none] [] m) = _
  refine q_s (mz_fe (e := (39, .iload 4, 2, (0, 0, 0), [true, false, false, true, true, false, false])) (by decide +kernel)) (pc' := 41) (L' := [some (.ref 239), none, none, some (.int y3), some (.int y4), none, none]) (st' := [.int y4]) rfl ?_
  refine q_o (mz_fe (e := (41, .aload_n 0, 1, (0, 0, 0), [])) (by decide +kernel)) (pc2 := 42) rfl ?_
  refine q_getR (b := 259) (mz_fe (e := (42, .getfield 76, 137, (12, 32, 2), [])) (by decide +kernel)) rfl tg_239 (by rw [ln_239]; decide) (mz_rfS (by decide +kernel)) ?_
  refine q_o (mz_fe (e := (45, .iload_n 3, 1, (0, 0, 0), [])) (by decide +kernel)) (pc2 := 46) rfl ?_
  refine q_ialdg rfl (mz_fe (e := (46, .iaload, 1, (0, 0, 0), [])) (by decide +kernel)) rfl (by decide) tg_259 ln_259 (fun g5 => ?_)
  refine q_if (c := .ge) (off := 112) (t := 159) (x := y4) (y := (mz_rd m 259 (y3 : Int32).toNatClampNeg)) (st := []) (mz_fe (e := (47, .if_icmp .ge 112, 3, (0, 0, 0), [])) (by decide +kernel)) (fun _ => rfl) rfl rfl rfl (fun c6 => ?_) (fun c6 => ?_)
  · refine q_ic (v := 0) (mz_fe (e := (159, .iconst 0, 1, (0, 0, 0), [])) (by decide +kernel)) (by decide) ?_
    exact q_retI (mz_fe (e := (160, .ireturn, 1, (0, 0, 0), [])) (by decide +kernel)) (by decide +kernel)
  · refine q_o (mz_fe (e := (50, .aload_n 0, 1, (0, 0, 0), [])) (by decide +kernel)) (pc2 := 51) rfl ?_
    refine q_getR (b := 260) (mz_fe (e := (51, .getfield 79, 138, (12, 34, 2), [])) (by decide +kernel)) rfl tg_239 (by rw [ln_239]; decide) (mz_rfS (by decide +kernel)) ?_
    refine q_o (mz_fe (e := (54, .iload 4, 2, (0, 0, 0), [])) (by decide +kernel)) (pc2 := 56) rfl ?_
    refine q_baldg rfl (mz_fe (e := (56, .baload, 1, (0, 0, 0), [])) (by decide +kernel)) rfl (Or.inl tg_260) ln_260 (fun g7 => ?_)
    refine q_if (c := .eq) (off := 62) (t := 119) (x := (mz_rd m 260 (y4 : Int32).toNatClampNeg)) (y := 0) (st := []) (mz_fe (e := (57, .ifCond .eq 62, 3, (0, 0, 0), [])) (by decide +kernel)) (fun _ => rfl) rfl rfl rfl (fun c8 => ?_) (fun c8 => ?_)
    · refine q_o (mz_fe (e := (119, .aload_n 0, 1, (0, 0, 0), [])) (by decide +kernel)) (pc2 := 120) rfl ?_
      refine q_o (mz_fe (e := (120, .aload_n 0, 1, (0, 0, 0), [])) (by decide +kernel)) (pc2 := 121) rfl ?_
      refine q_getR (b := 263) (mz_fe (e := (121, .getfield 89, 141, (12, 37, 2), [])) (by decide +kernel)) rfl tg_239 (by rw [ln_239]; decide) (mz_rfS (by decide +kernel)) ?_
      refine q_o (mz_fe (e := (124, .iload 4, 2, (0, 0, 0), [])) (by decide +kernel)) (pc2 := 126) rfl ?_
      refine q_ialdg rfl (mz_fe (e := (126, .iaload, 1, (0, 0, 0), [])) (by decide +kernel)) rfl (by decide) tg_263 ln_263 (fun g9 => ?_)
      refine q_o (mz_fe (e := (127, .aload_n 0, 1, (0, 0, 0), [])) (by decide +kernel)) (pc2 := 128) rfl ?_
      refine q_getR (b := 264) (mz_fe (e := (128, .getfield 92, 142, (12, 38, 2), [])) (by decide +kernel)) rfl tg_239 (by rw [ln_239]; decide) (mz_rfS (by decide +kernel)) ?_
      refine q_o (mz_fe (e := (131, .iload 4, 2, (0, 0, 0), [])) (by decide +kernel)) (pc2 := 133) rfl ?_
      refine q_ialdg rfl (mz_fe (e := (133, .iaload, 1, (0, 0, 0), [])) (by decide +kernel)) rfl (by decide) tg_264 ln_264 (fun g10 => ?_)
      refine q_callI (N := 207) (vs := [.ref 239, .int (mz_rd m 263 (y4 : Int32).toNatClampNeg), .int (mz_rd m 264 (y4 : Int32).toNatClampNeg)]) (rest := []) (L' := [some (.ref 239), none, none, some (.int y3), some (.int y4), none, none]) (f := fun v12 m11 => if (mz_rd m11 239 46) = 0 then (some (v12, m11)) else (some (0, m11))) rfl (mz_fe (e := (134, .invokevirtual 336, 202, (207, 3, 18), [])) (by decide +kernel)) rfl (mz_inv_virt (N := 207) (k := 3) (t := 18) (st := [.int (mz_rd m 264 (y4 : Int32).toNatClampNeg), .int (mz_rd m 263 (y4 : Int32).toNatClampNeg), .ref 239]) (rest := []) (b := 239) (vs := [.int (mz_rd m 263 (y4 : Int32).toNatClampNeg), .int (mz_rd m 264 (y4 : Int32).toNatClampNeg)]) (h := (mz_S0, m)) rfl rfl (Nat.le_of_ble_eq_true rfl) (Nat.le_of_ble_eq_true rfl) tg_239 (by decide)) (mz_dc_lt (n := 3) rfl (by decide +kernel) (by decide +kernel)) (by decide +kernel) (Or.inl (by decide +kernel)) (fun v12 m11 => ?_)
      refine q_s (mz_fe (e := (137, .istore 5, 2, (0, 0, 0), [])) (by decide +kernel)) (pc' := 139) (L' := [some (.ref 239), none, none, some (.int y3), some (.int y4), some (.int v12), none]) (st' := []) rfl ?_
      refine q_o (mz_fe (e := (139, .aload_n 0, 1, (0, 0, 0), [])) (by decide +kernel)) (pc2 := 140) rfl ?_
      refine q_getI (mz_fe (e := (140, .getfield 306, 178, (12, 46, 1), [])) (by decide +kernel)) rfl (by decide) tg_239 (by rw [ln_239]; decide) ?_
      refine q_if (c := .eq) (off := 7) (t := 150) (x := (mz_rd m11 239 46)) (y := 0) (st := []) (mz_fe (e := (143, .ifCond .eq 7, 3, (0, 0, 0), [])) (by decide +kernel)) (fun _ => rfl) rfl rfl rfl (fun c14 => ?_) (fun c14 => ?_)
      · refine q_o (mz_fe (e := (150, .iload 5, 2, (0, 0, 0), [])) (by decide +kernel)) (pc2 := 152) rfl ?_
        exact q_retI (mz_fe (e := (152, .ireturn, 1, (0, 0, 0), [])) (by decide +kernel)) (by decide +kernel)
      · refine q_ic (v := 0) (mz_fe (e := (146, .iconst 0, 1, (0, 0, 0), [])) (by decide +kernel)) (by decide) ?_
        refine q_o (mz_fe (e := (147, .goto 5, 3, (0, 0, 0), [])) (by decide +kernel)) (pc2 := 152) rfl ?_
        exact q_retI (mz_fe (e := (152, .ireturn, 1, (0, 0, 0), [])) (by decide +kernel)) (by decide +kernel)
    · refine q_o (mz_fe (e := (60, .aload_n 0, 1, (0, 0, 0), [])) (by decide +kernel)) (pc2 := 61) rfl ?_
      refine q_o (mz_fe (e := (61, .aload_n 0, 1, (0, 0, 0), [])) (by decide +kernel)) (pc2 := 62) rfl ?_
      refine q_getR (b := 261) (mz_fe (e := (62, .getfield 83, 139, (12, 35, 2), [])) (by decide +kernel)) rfl tg_239 (by rw [ln_239]; decide) (mz_rfS (by decide +kernel)) ?_
      refine q_o (mz_fe (e := (65, .iload 4, 2, (0, 0, 0), [])) (by decide +kernel)) (pc2 := 67) rfl ?_
      refine q_ialdg rfl (mz_fe (e := (67, .iaload, 1, (0, 0, 0), [])) (by decide +kernel)) rfl (by decide) tg_261 ln_261 (fun g15 => ?_)
      refine q_o (mz_fe (e := (68, .aload_n 0, 1, (0, 0, 0), [])) (by decide +kernel)) (pc2 := 69) rfl ?_
      refine q_getR (b := 262) (mz_fe (e := (69, .getfield 86, 140, (12, 36, 2), [])) (by decide +kernel)) rfl tg_239 (by rw [ln_239]; decide) (mz_rfS (by decide +kernel)) ?_
      refine q_o (mz_fe (e := (72, .iload 4, 2, (0, 0, 0), [])) (by decide +kernel)) (pc2 := 74) rfl ?_
      refine q_ialdg rfl (mz_fe (e := (74, .iaload, 1, (0, 0, 0), [])) (by decide +kernel)) rfl (by decide) tg_262 ln_262 (fun g16 => ?_)
      refine q_callI (N := 207) (vs := [.ref 239, .int (mz_rd m 261 (y4 : Int32).toNatClampNeg), .int (mz_rd m 262 (y4 : Int32).toNatClampNeg)]) (rest := []) (L' := [some (.ref 239), none, none, some (.int y3), some (.int y4), none, none]) (f := fun v18 m17 => mz_g (mz_ok y4 260) (mz_g (mz_ok y4 260) ((R_X12_termOf d (mz_rd m17 262 (y4 : Int32).toNatClampNeg) (mz_rd m17 263 (y4 : Int32).toNatClampNeg) m17).bind (fun u24 => if (mz_rd u24.2 239 46) = 0 then (if v18 < u24.1 then (mz_g (mz_ok y4 260) (mz_g (mz_ok y4 260) ((R_X12_termOf d (mz_rd u24.2 263 (y4 : Int32).toNatClampNeg) (mz_rd u24.2 264 (y4 : Int32).toNatClampNeg) u24.2).bind (fun u31 => if (mz_rd u31.2 239 46) = 0 then (some (u31.1, u31.2)) else (some (0, u31.2)))))) else (H_X12_lawTells_39 d y3 (y4 + 1) u24.2)) else (some (0, u24.2)))))) rfl (mz_fe (e := (75, .invokevirtual 336, 202, (207, 3, 18), [])) (by decide +kernel)) rfl (mz_inv_virt (N := 207) (k := 3) (t := 18) (st := [.int (mz_rd m 262 (y4 : Int32).toNatClampNeg), .int (mz_rd m 261 (y4 : Int32).toNatClampNeg), .ref 239]) (rest := []) (b := 239) (vs := [.int (mz_rd m 261 (y4 : Int32).toNatClampNeg), .int (mz_rd m 262 (y4 : Int32).toNatClampNeg)]) (h := (mz_S0, m)) rfl rfl (Nat.le_of_ble_eq_true rfl) (Nat.le_of_ble_eq_true rfl) tg_239 (by decide)) (mz_dc_lt (n := 3) rfl (by decide +kernel) (by decide +kernel)) (by decide +kernel) (Or.inl (by decide +kernel)) (fun v18 m17 => ?_)
      refine q_s (mz_fe (e := (78, .istore 5, 2, (0, 0, 0), [])) (by decide +kernel)) (pc' := 80) (L' := [some (.ref 239), none, none, some (.int y3), some (.int y4), some (.int v18), none]) (st' := []) rfl ?_
      refine q_o (mz_fe (e := (80, .aload_n 0, 1, (0, 0, 0), [])) (by decide +kernel)) (pc2 := 81) rfl ?_
      refine q_o (mz_fe (e := (81, .aload_n 0, 1, (0, 0, 0), [])) (by decide +kernel)) (pc2 := 82) rfl ?_
      refine q_getR (b := 262) (mz_fe (e := (82, .getfield 86, 140, (12, 36, 2), [])) (by decide +kernel)) rfl tg_239 (by rw [ln_239]; decide) (mz_rfS (by decide +kernel)) ?_
      refine q_o (mz_fe (e := (85, .iload 4, 2, (0, 0, 0), [])) (by decide +kernel)) (pc2 := 87) rfl ?_
      refine q_ialdg rfl (mz_fe (e := (87, .iaload, 1, (0, 0, 0), [])) (by decide +kernel)) rfl (by decide) tg_262 ln_262 (fun g20 => ?_)
      refine q_o (mz_fe (e := (88, .aload_n 0, 1, (0, 0, 0), [])) (by decide +kernel)) (pc2 := 89) rfl ?_
      refine q_getR (b := 263) (mz_fe (e := (89, .getfield 89, 141, (12, 37, 2), [])) (by decide +kernel)) rfl tg_239 (by rw [ln_239]; decide) (mz_rfS (by decide +kernel)) ?_
      refine q_o (mz_fe (e := (92, .iload 4, 2, (0, 0, 0), [])) (by decide +kernel)) (pc2 := 94) rfl ?_
      refine q_ialdg rfl (mz_fe (e := (94, .iaload, 1, (0, 0, 0), [])) (by decide +kernel)) rfl (by decide) tg_263 ln_263 (fun g21 => ?_)
      refine q_callI (N := 207) (vs := [.ref 239, .int (mz_rd m17 262 (y4 : Int32).toNatClampNeg), .int (mz_rd m17 263 (y4 : Int32).toNatClampNeg)]) (rest := []) (L' := [some (.ref 239), none, none, some (.int y3), some (.int y4), some (.int v18), none]) (f := fun v23 m22 => if (mz_rd m22 239 46) = 0 then (if v18 < v23 then (mz_g (mz_ok y4 260) (mz_g (mz_ok y4 260) ((R_X12_termOf d (mz_rd m22 263 (y4 : Int32).toNatClampNeg) (mz_rd m22 264 (y4 : Int32).toNatClampNeg) m22).bind (fun u31 => if (mz_rd u31.2 239 46) = 0 then (some (u31.1, u31.2)) else (some (0, u31.2)))))) else (H_X12_lawTells_39 d y3 (y4 + 1) m22)) else (some (0, m22))) rfl (mz_fe (e := (95, .invokevirtual 336, 202, (207, 3, 18), [])) (by decide +kernel)) rfl (mz_inv_virt (N := 207) (k := 3) (t := 18) (st := [.int (mz_rd m17 263 (y4 : Int32).toNatClampNeg), .int (mz_rd m17 262 (y4 : Int32).toNatClampNeg), .ref 239]) (rest := []) (b := 239) (vs := [.int (mz_rd m17 262 (y4 : Int32).toNatClampNeg), .int (mz_rd m17 263 (y4 : Int32).toNatClampNeg)]) (h := (mz_S0, m17)) rfl rfl (Nat.le_of_ble_eq_true rfl) (Nat.le_of_ble_eq_true rfl) tg_239 (by decide)) (mz_dc_lt (n := 3) rfl (by decide +kernel) (by decide +kernel)) (by decide +kernel) (Or.inl (by decide +kernel)) (fun v23 m22 => ?_)
      refine q_s (mz_fe (e := (98, .istore 6, 2, (0, 0, 0), [])) (by decide +kernel)) (pc' := 100) (L' := [some (.ref 239), none, none, some (.int y3), some (.int y4), some (.int v18), some (.int v23)]) (st' := []) rfl ?_
      refine q_o (mz_fe (e := (100, .aload_n 0, 1, (0, 0, 0), [])) (by decide +kernel)) (pc2 := 101) rfl ?_
      refine q_getI (mz_fe (e := (101, .getfield 306, 178, (12, 46, 1), [])) (by decide +kernel)) rfl (by decide) tg_239 (by rw [ln_239]; decide) ?_
      refine q_if (c := .eq) (off := 5) (t := 109) (x := (mz_rd m22 239 46)) (y := 0) (st := []) (mz_fe (e := (104, .ifCond .eq 5, 3, (0, 0, 0), [])) (by decide +kernel)) (fun _ => rfl) rfl rfl rfl (fun c25 => ?_) (fun c25 => ?_)
      · refine q_o (mz_fe (e := (109, .iload 5, 2, (0, 0, 0), [])) (by decide +kernel)) (pc2 := 111) rfl ?_
        refine q_o (mz_fe (e := (111, .iload 6, 2, (0, 0, 0), [])) (by decide +kernel)) (pc2 := 113) rfl ?_
        refine q_if (c := .lt) (off := 6) (t := 119) (x := v18) (y := v23) (st := []) (mz_fe (e := (113, .if_icmp .lt 6, 3, (0, 0, 0), [])) (by decide +kernel)) (fun _ => rfl) rfl rfl rfl (fun c26 => ?_) (fun c26 => ?_)
        · refine q_o (mz_fe (e := (119, .aload_n 0, 1, (0, 0, 0), [])) (by decide +kernel)) (pc2 := 120) rfl ?_
          refine q_o (mz_fe (e := (120, .aload_n 0, 1, (0, 0, 0), [])) (by decide +kernel)) (pc2 := 121) rfl ?_
          refine q_getR (b := 263) (mz_fe (e := (121, .getfield 89, 141, (12, 37, 2), [])) (by decide +kernel)) rfl tg_239 (by rw [ln_239]; decide) (mz_rfS (by decide +kernel)) ?_
          refine q_o (mz_fe (e := (124, .iload 4, 2, (0, 0, 0), [])) (by decide +kernel)) (pc2 := 126) rfl ?_
          refine q_ialdg rfl (mz_fe (e := (126, .iaload, 1, (0, 0, 0), [])) (by decide +kernel)) rfl (by decide) tg_263 ln_263 (fun g27 => ?_)
          refine q_o (mz_fe (e := (127, .aload_n 0, 1, (0, 0, 0), [])) (by decide +kernel)) (pc2 := 128) rfl ?_
          refine q_getR (b := 264) (mz_fe (e := (128, .getfield 92, 142, (12, 38, 2), [])) (by decide +kernel)) rfl tg_239 (by rw [ln_239]; decide) (mz_rfS (by decide +kernel)) ?_
          refine q_o (mz_fe (e := (131, .iload 4, 2, (0, 0, 0), [])) (by decide +kernel)) (pc2 := 133) rfl ?_
          refine q_ialdg rfl (mz_fe (e := (133, .iaload, 1, (0, 0, 0), [])) (by decide +kernel)) rfl (by decide) tg_264 ln_264 (fun g28 => ?_)
          refine q_callI (N := 207) (vs := [.ref 239, .int (mz_rd m22 263 (y4 : Int32).toNatClampNeg), .int (mz_rd m22 264 (y4 : Int32).toNatClampNeg)]) (rest := []) (L' := [some (.ref 239), none, none, some (.int y3), some (.int y4), some (.int v18), some (.int v23)]) (f := fun v30 m29 => if (mz_rd m29 239 46) = 0 then (some (v30, m29)) else (some (0, m29))) rfl (mz_fe (e := (134, .invokevirtual 336, 202, (207, 3, 18), [])) (by decide +kernel)) rfl (mz_inv_virt (N := 207) (k := 3) (t := 18) (st := [.int (mz_rd m22 264 (y4 : Int32).toNatClampNeg), .int (mz_rd m22 263 (y4 : Int32).toNatClampNeg), .ref 239]) (rest := []) (b := 239) (vs := [.int (mz_rd m22 263 (y4 : Int32).toNatClampNeg), .int (mz_rd m22 264 (y4 : Int32).toNatClampNeg)]) (h := (mz_S0, m22)) rfl rfl (Nat.le_of_ble_eq_true rfl) (Nat.le_of_ble_eq_true rfl) tg_239 (by decide)) (mz_dc_lt (n := 3) rfl (by decide +kernel) (by decide +kernel)) (by decide +kernel) (Or.inl (by decide +kernel)) (fun v30 m29 => ?_)
          refine q_s (mz_fe (e := (137, .istore 5, 2, (0, 0, 0), [])) (by decide +kernel)) (pc' := 139) (L' := [some (.ref 239), none, none, some (.int y3), some (.int y4), some (.int v30), some (.int v23)]) (st' := []) rfl ?_
          refine q_o (mz_fe (e := (139, .aload_n 0, 1, (0, 0, 0), [])) (by decide +kernel)) (pc2 := 140) rfl ?_
          refine q_getI (mz_fe (e := (140, .getfield 306, 178, (12, 46, 1), [])) (by decide +kernel)) rfl (by decide) tg_239 (by rw [ln_239]; decide) ?_
          refine q_if (c := .eq) (off := 7) (t := 150) (x := (mz_rd m29 239 46)) (y := 0) (st := []) (mz_fe (e := (143, .ifCond .eq 7, 3, (0, 0, 0), [])) (by decide +kernel)) (fun _ => rfl) rfl rfl rfl (fun c32 => ?_) (fun c32 => ?_)
          · refine q_o (mz_fe (e := (150, .iload 5, 2, (0, 0, 0), [])) (by decide +kernel)) (pc2 := 152) rfl ?_
            exact q_retI (mz_fe (e := (152, .ireturn, 1, (0, 0, 0), [])) (by decide +kernel)) (by decide +kernel)
          · refine q_ic (v := 0) (mz_fe (e := (146, .iconst 0, 1, (0, 0, 0), [])) (by decide +kernel)) (by decide) ?_
            refine q_o (mz_fe (e := (147, .goto 5, 3, (0, 0, 0), [])) (by decide +kernel)) (pc2 := 152) rfl ?_
            exact q_retI (mz_fe (e := (152, .ireturn, 1, (0, 0, 0), [])) (by decide +kernel)) (by decide +kernel)
        · refine q_o (mz_fe (e := (116, .goto 37, 3, (0, 0, 0), [])) (by decide +kernel)) (pc2 := 153) rfl ?_
          refine q_iinc (v := y4) (c := 1) (L3 := [some (.ref 239), none, none, some (.int y3), some (.int (y4 + 1)), some (.int v18), some (.int v23)]) (mz_fe (e := (153, .iinc 4 1, 3, (0, 0, 0), [])) (by decide +kernel)) rfl rfl (by decide) rfl ?_
          refine q_o (mz_fe (e := (156, .goto (-117), 3, (0, 0, 0), [])) (by decide +kernel)) (pc2 := 39) rfl ?_
          exact congrArg mz_cI (mz_At_msk (L := [some (.ref 239), none, none, some (.int y3), some (.int (y4 + 1)), some (.int v18), some (.int v23)]) (L2 := [some (.ref 239), none, none, some (.int y3), some (.int (y4 + 1)), none, none]) (mz_fe (e := (39, .iload 4, 2, (0, 0, 0), [true, false, false, true, true, false, false])) (by decide +kernel)) rfl rfl)
      · refine q_ic (v := 0) (mz_fe (e := (107, .iconst 0, 1, (0, 0, 0), [])) (by decide +kernel)) (by decide) ?_
        exact q_retI (mz_fe (e := (108, .ireturn, 1, (0, 0, 0), [])) (by decide +kernel)) (by decide +kernel)
set_option maxRecDepth 10000 in
theorem R_X12_looksBoth_eq (d : Nat) (x0 : Int32) (x1 : Int32) (m : MzM)  : R_X12_looksBoth d x0 x1 m = (R_X12_looks d x0 x1 m).bind (fun m1 => mz_g (mz_ok ((4 : Int32) * x0) 39) (mz_g (mz_ok ((4 : Int32) * x1) 39) ((R_X12_off d (mz_rd (mz_wr (mz_wr (mz_wr m1 268 0 0) 268 3 0) 268 4 0) 271 (((4 : Int32) * x0) : Int32).toNatClampNeg) (mz_rd (mz_wr (mz_wr (mz_wr m1 268 0 0) 268 3 0) 268 4 0) 271 (((4 : Int32) * x1) : Int32).toNatClampNeg) (mz_wr (mz_wr (mz_wr m1 268 0 0) 268 3 0) 268 4 0)).bind (fun u8 => H_X12_looksBoth_55 d x0 x1 1 (mz_wr u8.2 268 8 u8.1))))) := by
  show mz_cV (mz_T d 226 0 (mz_en (mz_xl 226) [.ref 239, .int x0, .int x1]) [] m) = _
  rw [show mz_en (mz_xl 226) [.ref 239, .int x0, .int x1] = [some (.ref 239), some (.int x0), some (.int x1), none] from by rw [show mz_xl 226 = 4 from by decide +kernel]; rfl]
  refine q_o (mz_fe (e := (0, .aload_n 0, 1, (0, 0, 0), [])) (by decide +kernel)) (pc2 := 1) rfl ?_
  refine q_o (mz_fe (e := (1, .iload_n 1, 1, (0, 0, 0), [])) (by decide +kernel)) (pc2 := 2) rfl ?_
  refine q_o (mz_fe (e := (2, .iload_n 2, 1, (0, 0, 0), [])) (by decide +kernel)) (pc2 := 3) rfl ?_
  refine q_callV (N := 225) (vs := [.ref 239, .int x0, .int x1]) (rest := []) (L' := [some (.ref 239), some (.int x0), some (.int x1), none]) rfl (mz_fe (e := (3, .invokevirtual 342, 204, (225, 3, 18), [])) (by decide +kernel)) rfl (mz_inv_virt (N := 225) (k := 3) (t := 18) (st := [.int x1, .int x0, .ref 239]) (rest := []) (b := 239) (vs := [.int x0, .int x1]) (h := (mz_S0, m)) rfl rfl (Nat.le_of_ble_eq_true rfl) (Nat.le_of_ble_eq_true rfl) tg_239 (by decide)) (mz_dc_lt (n := 3) rfl (by decide +kernel) (by decide +kernel)) (by decide +kernel) (by decide +kernel) (fun m1 => ?_)
  refine q_o (mz_fe (e := (6, .aload_n 0, 1, (0, 0, 0), [])) (by decide +kernel)) (pc2 := 7) rfl ?_
  refine q_getR (b := 268) (mz_fe (e := (7, .getfield 104, 146, (12, 44, 2), [])) (by decide +kernel)) rfl tg_239 (by rw [ln_239]; decide) (mz_rfS (by decide +kernel)) ?_
  refine q_ic (v := 0) (mz_fe (e := (10, .iconst 0, 1, (0, 0, 0), [])) (by decide +kernel)) (by decide) ?_
  refine q_ic (v := 0) (mz_fe (e := (11, .iconst 0, 1, (0, 0, 0), [])) (by decide +kernel)) (by decide) ?_
  refine q_stA (f := (fun x => x)) (mz_fe (e := (12, .iastore, 1, (0, 0, 0), [])) (by decide +kernel)) (fun _ => rfl) rfl tg_268 ln_268 (by decide) (j := 0) (by decide) ?_
  refine q_o (mz_fe (e := (13, .aload_n 0, 1, (0, 0, 0), [])) (by decide +kernel)) (pc2 := 14) rfl ?_
  refine q_getR (b := 268) (mz_fe (e := (14, .getfield 104, 146, (12, 44, 2), [])) (by decide +kernel)) rfl tg_239 (by rw [ln_239]; decide) (mz_rfS (by decide +kernel)) ?_
  refine q_ic (v := 3) (mz_fe (e := (17, .iconst 3, 1, (0, 0, 0), [])) (by decide +kernel)) (by decide) ?_
  refine q_ic (v := 0) (mz_fe (e := (18, .iconst 0, 1, (0, 0, 0), [])) (by decide +kernel)) (by decide) ?_
  refine q_stA (f := (fun x => x)) (mz_fe (e := (19, .iastore, 1, (0, 0, 0), [])) (by decide +kernel)) (fun _ => rfl) rfl tg_268 ln_268 (by decide) (j := 3) (by decide) ?_
  refine q_o (mz_fe (e := (20, .aload_n 0, 1, (0, 0, 0), [])) (by decide +kernel)) (pc2 := 21) rfl ?_
  refine q_getR (b := 268) (mz_fe (e := (21, .getfield 104, 146, (12, 44, 2), [])) (by decide +kernel)) rfl tg_239 (by rw [ln_239]; decide) (mz_rfS (by decide +kernel)) ?_
  refine q_ic (v := 4) (mz_fe (e := (24, .iconst 4, 1, (0, 0, 0), [])) (by decide +kernel)) (by decide) ?_
  refine q_ic (v := 0) (mz_fe (e := (25, .iconst 0, 1, (0, 0, 0), [])) (by decide +kernel)) (by decide) ?_
  refine q_stA (f := (fun x => x)) (mz_fe (e := (26, .iastore, 1, (0, 0, 0), [])) (by decide +kernel)) (fun _ => rfl) rfl tg_268 ln_268 (by decide) (j := 4) (by decide) ?_
  refine q_o (mz_fe (e := (27, .aload_n 0, 1, (0, 0, 0), [])) (by decide +kernel)) (pc2 := 28) rfl ?_
  refine q_getR (b := 268) (mz_fe (e := (28, .getfield 104, 146, (12, 44, 2), [])) (by decide +kernel)) rfl tg_239 (by rw [ln_239]; decide) (mz_rfS (by decide +kernel)) ?_
  refine q_bi (v := 8) (mz_fe (e := (31, .bipush 8, 2, (0, 0, 0), [])) (by decide +kernel)) (by decide) ?_
  refine q_o (mz_fe (e := (33, .aload_n 0, 1, (0, 0, 0), [])) (by decide +kernel)) (pc2 := 34) rfl ?_
  refine q_getR (b := 271) (mz_fe (e := (34, .getfield 113, 149, (12, 48, 2), [])) (by decide +kernel)) rfl tg_239 (by rw [ln_239]; decide) (mz_rfS (by decide +kernel)) ?_
  refine q_ic (v := 4) (mz_fe (e := (37, .iconst 4, 1, (0, 0, 0), [])) (by decide +kernel)) (by decide) ?_
  refine q_o (mz_fe (e := (38, .iload_n 1, 1, (0, 0, 0), [])) (by decide +kernel)) (pc2 := 39) rfl ?_
  refine q_o (mz_fe (e := (39, .imul, 1, (0, 0, 0), [])) (by decide +kernel)) (pc2 := 40) rfl ?_
  refine q_ialdg rfl (mz_fe (e := (40, .iaload, 1, (0, 0, 0), [])) (by decide +kernel)) rfl (by decide) tg_271 ln_271 (fun g4 => ?_)
  refine q_o (mz_fe (e := (41, .aload_n 0, 1, (0, 0, 0), [])) (by decide +kernel)) (pc2 := 42) rfl ?_
  refine q_getR (b := 271) (mz_fe (e := (42, .getfield 113, 149, (12, 48, 2), [])) (by decide +kernel)) rfl tg_239 (by rw [ln_239]; decide) (mz_rfS (by decide +kernel)) ?_
  refine q_ic (v := 4) (mz_fe (e := (45, .iconst 4, 1, (0, 0, 0), [])) (by decide +kernel)) (by decide) ?_
  refine q_o (mz_fe (e := (46, .iload_n 2, 1, (0, 0, 0), [])) (by decide +kernel)) (pc2 := 47) rfl ?_
  refine q_o (mz_fe (e := (47, .imul, 1, (0, 0, 0), [])) (by decide +kernel)) (pc2 := 48) rfl ?_
  refine q_ialdg rfl (mz_fe (e := (48, .iaload, 1, (0, 0, 0), [])) (by decide +kernel)) rfl (by decide) tg_271 ln_271 (fun g5 => ?_)
  refine q_callI (N := 211) (vs := [.int (mz_rd (mz_wr (mz_wr (mz_wr m1 268 0 0) 268 3 0) 268 4 0) 271 (((4 : Int32) * x0) : Int32).toNatClampNeg), .int (mz_rd (mz_wr (mz_wr (mz_wr m1 268 0 0) 268 3 0) 268 4 0) 271 (((4 : Int32) * x1) : Int32).toNatClampNeg)]) (rest := [.int 8, .ref 268]) (L' := [some (.ref 239), some (.int x0), some (.int x1), none]) (f := fun v7 m6 => H_X12_looksBoth_55 d x0 x1 1 (mz_wr m6 268 8 v7)) rfl (mz_fe (e := (49, .invokestatic 333, 201, (211, 2, 1000), [])) (by decide +kernel)) rfl (mz_inv_stat (N := 211) (k := 2) (st := [.int (mz_rd (mz_wr (mz_wr (mz_wr m1 268 0 0) 268 3 0) 268 4 0) 271 (((4 : Int32) * x1) : Int32).toNatClampNeg), .int (mz_rd (mz_wr (mz_wr (mz_wr m1 268 0 0) 268 3 0) 268 4 0) 271 (((4 : Int32) * x0) : Int32).toNatClampNeg), .int 8, .ref 268]) (rest := [.int 8, .ref 268]) (vs := [.int (mz_rd (mz_wr (mz_wr (mz_wr m1 268 0 0) 268 3 0) 268 4 0) 271 (((4 : Int32) * x0) : Int32).toNatClampNeg), .int (mz_rd (mz_wr (mz_wr (mz_wr m1 268 0 0) 268 3 0) 268 4 0) 271 (((4 : Int32) * x1) : Int32).toNatClampNeg)]) (h := (mz_S0, (mz_wr (mz_wr (mz_wr m1 268 0 0) 268 3 0) 268 4 0))) rfl rfl (Nat.le_of_ble_eq_true rfl) (Nat.le_of_ble_eq_true rfl)) (mz_dc_lt (n := 2) rfl (by decide +kernel) (by decide +kernel)) (by decide +kernel) (Or.inl (by decide +kernel)) (fun v7 m6 => ?_)
  refine q_stA (f := (fun x => x)) (mz_fe (e := (52, .iastore, 1, (0, 0, 0), [])) (by decide +kernel)) (fun _ => rfl) rfl tg_268 ln_268 (by decide) (j := 8) (by decide) ?_
  refine q_ic (v := 1) (mz_fe (e := (53, .iconst 1, 1, (0, 0, 0), [])) (by decide +kernel)) (by decide) ?_
  refine q_s (mz_fe (e := (54, .istore_n 3, 1, (0, 0, 0), [])) (by decide +kernel)) (pc' := 55) (L' := [some (.ref 239), some (.int x0), some (.int x1), some (.int 1)]) (st' := []) rfl ?_
  exact congrArg mz_cV (mz_At_msk (L := [some (.ref 239), some (.int x0), some (.int x1), some (.int 1)]) (L2 := [some (.ref 239), some (.int x0), some (.int x1), some (.int 1)]) (mz_fe (e := (55, .iload_n 3, 1, (0, 0, 0), [true, true, true, true])) (by decide +kernel)) rfl rfl)
set_option maxRecDepth 10000 in
theorem H_X12_looksBoth_55_eq (d : Nat) (y1 : Int32) (y2 : Int32) (y3 : Int32) (m : MzM)  : H_X12_looksBoth_55 d y1 y2 y3 m = if (4 : Int32) ≤ y3 then some m else (mz_g (mz_ok (((4 : Int32) * y1) + y3) 39) (mz_g (mz_ok (((4 : Int32) * y2) + y3) 39) ((R_X12_off d (mz_rd m 271 ((((4 : Int32) * y1) + y3) : Int32).toNatClampNeg) (mz_rd m 271 ((((4 : Int32) * y2) + y3) : Int32).toNatClampNeg) m).bind (fun u14 => if (mz_rd u14.2 268 8) < u14.1 then (mz_g (mz_ok (((4 : Int32) * y1) + y3) 39) (mz_g (mz_ok (((4 : Int32) * y2) + y3) 39) ((R_X12_off d (mz_rd (mz_wr u14.2 268 0 y3) 271 ((((4 : Int32) * y1) + y3) : Int32).toNatClampNeg) (mz_rd (mz_wr u14.2 268 0 y3) 271 ((((4 : Int32) * y2) + y3) : Int32).toNatClampNeg) (mz_wr u14.2 268 0 y3)).bind (fun u20 => H_X12_looksBoth_55 d y1 y2 (y3 + 1) (mz_wr u20.2 268 8 u20.1))))) else (H_X12_looksBoth_55 d y1 y2 (y3 + 1) u14.2))))) := by
  show mz_cV (mz_T d 226 55 [some (.ref 239), some (.int y1), some (.int y2), some (.int y3)] [] m) = _
  refine q_s (mz_fe (e := (55, .iload_n 3, 1, (0, 0, 0), [true, true, true, true])) (by decide +kernel)) (pc' := 56) (L' := [some (.ref 239), some (.int y1), some (.int y2), some (.int y3)]) (st' := [.int y3]) rfl ?_
  refine q_ic (v := 4) (mz_fe (e := (56, .iconst 4, 1, (0, 0, 0), [])) (by decide +kernel)) (by decide) ?_
  refine q_if (c := .ge) (off := 82) (t := 139) (x := y3) (y := 4) (st := []) (mz_fe (e := (57, .if_icmp .ge 82, 3, (0, 0, 0), [])) (by decide +kernel)) (fun _ => rfl) rfl rfl rfl (fun c9 => ?_) (fun c9 => ?_)
  · exact q_retV (mz_fe (e := (139, .return_, 1, (0, 0, 0), [])) (by decide +kernel)) (by decide +kernel)
  · refine q_o (mz_fe (e := (60, .aload_n 0, 1, (0, 0, 0), [])) (by decide +kernel)) (pc2 := 61) rfl ?_
    refine q_getR (b := 271) (mz_fe (e := (61, .getfield 113, 149, (12, 48, 2), [])) (by decide +kernel)) rfl tg_239 (by rw [ln_239]; decide) (mz_rfS (by decide +kernel)) ?_
    refine q_ic (v := 4) (mz_fe (e := (64, .iconst 4, 1, (0, 0, 0), [])) (by decide +kernel)) (by decide) ?_
    refine q_o (mz_fe (e := (65, .iload_n 1, 1, (0, 0, 0), [])) (by decide +kernel)) (pc2 := 66) rfl ?_
    refine q_o (mz_fe (e := (66, .imul, 1, (0, 0, 0), [])) (by decide +kernel)) (pc2 := 67) rfl ?_
    refine q_o (mz_fe (e := (67, .iload_n 3, 1, (0, 0, 0), [])) (by decide +kernel)) (pc2 := 68) rfl ?_
    refine q_o (mz_fe (e := (68, .iadd, 1, (0, 0, 0), [])) (by decide +kernel)) (pc2 := 69) rfl ?_
    refine q_ialdg rfl (mz_fe (e := (69, .iaload, 1, (0, 0, 0), [])) (by decide +kernel)) rfl (by decide) tg_271 ln_271 (fun g10 => ?_)
    refine q_o (mz_fe (e := (70, .aload_n 0, 1, (0, 0, 0), [])) (by decide +kernel)) (pc2 := 71) rfl ?_
    refine q_getR (b := 271) (mz_fe (e := (71, .getfield 113, 149, (12, 48, 2), [])) (by decide +kernel)) rfl tg_239 (by rw [ln_239]; decide) (mz_rfS (by decide +kernel)) ?_
    refine q_ic (v := 4) (mz_fe (e := (74, .iconst 4, 1, (0, 0, 0), [])) (by decide +kernel)) (by decide) ?_
    refine q_o (mz_fe (e := (75, .iload_n 2, 1, (0, 0, 0), [])) (by decide +kernel)) (pc2 := 76) rfl ?_
    refine q_o (mz_fe (e := (76, .imul, 1, (0, 0, 0), [])) (by decide +kernel)) (pc2 := 77) rfl ?_
    refine q_o (mz_fe (e := (77, .iload_n 3, 1, (0, 0, 0), [])) (by decide +kernel)) (pc2 := 78) rfl ?_
    refine q_o (mz_fe (e := (78, .iadd, 1, (0, 0, 0), [])) (by decide +kernel)) (pc2 := 79) rfl ?_
    refine q_ialdg rfl (mz_fe (e := (79, .iaload, 1, (0, 0, 0), [])) (by decide +kernel)) rfl (by decide) tg_271 ln_271 (fun g11 => ?_)
    refine q_callI (N := 211) (vs := [.int (mz_rd m 271 ((((4 : Int32) * y1) + y3) : Int32).toNatClampNeg), .int (mz_rd m 271 ((((4 : Int32) * y2) + y3) : Int32).toNatClampNeg)]) (rest := []) (L' := [some (.ref 239), some (.int y1), some (.int y2), some (.int y3)]) (f := fun v13 m12 => if (mz_rd m12 268 8) < v13 then (mz_g (mz_ok (((4 : Int32) * y1) + y3) 39) (mz_g (mz_ok (((4 : Int32) * y2) + y3) 39) ((R_X12_off d (mz_rd (mz_wr m12 268 0 y3) 271 ((((4 : Int32) * y1) + y3) : Int32).toNatClampNeg) (mz_rd (mz_wr m12 268 0 y3) 271 ((((4 : Int32) * y2) + y3) : Int32).toNatClampNeg) (mz_wr m12 268 0 y3)).bind (fun u20 => H_X12_looksBoth_55 d y1 y2 (y3 + 1) (mz_wr u20.2 268 8 u20.1))))) else (H_X12_looksBoth_55 d y1 y2 (y3 + 1) m12)) rfl (mz_fe (e := (80, .invokestatic 333, 201, (211, 2, 1000), [])) (by decide +kernel)) rfl (mz_inv_stat (N := 211) (k := 2) (st := [.int (mz_rd m 271 ((((4 : Int32) * y2) + y3) : Int32).toNatClampNeg), .int (mz_rd m 271 ((((4 : Int32) * y1) + y3) : Int32).toNatClampNeg)]) (rest := []) (vs := [.int (mz_rd m 271 ((((4 : Int32) * y1) + y3) : Int32).toNatClampNeg), .int (mz_rd m 271 ((((4 : Int32) * y2) + y3) : Int32).toNatClampNeg)]) (h := (mz_S0, m)) rfl rfl (Nat.le_of_ble_eq_true rfl) (Nat.le_of_ble_eq_true rfl)) (mz_dc_lt (n := 2) rfl (by decide +kernel) (by decide +kernel)) (by decide +kernel) (Or.inl (by decide +kernel)) (fun v13 m12 => ?_)
    refine q_o (mz_fe (e := (83, .aload_n 0, 1, (0, 0, 0), [])) (by decide +kernel)) (pc2 := 84) rfl ?_
    refine q_getR (b := 268) (mz_fe (e := (84, .getfield 104, 146, (12, 44, 2), [])) (by decide +kernel)) rfl tg_239 (by rw [ln_239]; decide) (mz_rfS (by decide +kernel)) ?_
    refine q_bi (v := 8) (mz_fe (e := (87, .bipush 8, 2, (0, 0, 0), [])) (by decide +kernel)) (by decide) ?_
    refine q_iald (j := 8) (mz_fe (e := (89, .iaload, 1, (0, 0, 0), [])) (by decide +kernel)) rfl (by decide) tg_268 ln_268 (by decide) (by decide) ?_
    refine q_if (c := .gt) (off := 6) (t := 96) (x := v13) (y := (mz_rd m12 268 8)) (st := []) (mz_fe (e := (90, .if_icmp .gt 6, 3, (0, 0, 0), [])) (by decide +kernel)) (fun _ => rfl) rfl rfl rfl (fun c15 => ?_) (fun c15 => ?_)
    · refine q_o (mz_fe (e := (96, .aload_n 0, 1, (0, 0, 0), [])) (by decide +kernel)) (pc2 := 97) rfl ?_
      refine q_getR (b := 268) (mz_fe (e := (97, .getfield 104, 146, (12, 44, 2), [])) (by decide +kernel)) rfl tg_239 (by rw [ln_239]; decide) (mz_rfS (by decide +kernel)) ?_
      refine q_ic (v := 0) (mz_fe (e := (100, .iconst 0, 1, (0, 0, 0), [])) (by decide +kernel)) (by decide) ?_
      refine q_o (mz_fe (e := (101, .iload_n 3, 1, (0, 0, 0), [])) (by decide +kernel)) (pc2 := 102) rfl ?_
      refine q_stA (f := (fun x => x)) (mz_fe (e := (102, .iastore, 1, (0, 0, 0), [])) (by decide +kernel)) (fun _ => rfl) rfl tg_268 ln_268 (by decide) (j := 0) (by decide) ?_
      refine q_o (mz_fe (e := (103, .aload_n 0, 1, (0, 0, 0), [])) (by decide +kernel)) (pc2 := 104) rfl ?_
      refine q_getR (b := 268) (mz_fe (e := (104, .getfield 104, 146, (12, 44, 2), [])) (by decide +kernel)) rfl tg_239 (by rw [ln_239]; decide) (mz_rfS (by decide +kernel)) ?_
      refine q_bi (v := 8) (mz_fe (e := (107, .bipush 8, 2, (0, 0, 0), [])) (by decide +kernel)) (by decide) ?_
      refine q_o (mz_fe (e := (109, .aload_n 0, 1, (0, 0, 0), [])) (by decide +kernel)) (pc2 := 110) rfl ?_
      refine q_getR (b := 271) (mz_fe (e := (110, .getfield 113, 149, (12, 48, 2), [])) (by decide +kernel)) rfl tg_239 (by rw [ln_239]; decide) (mz_rfS (by decide +kernel)) ?_
      refine q_ic (v := 4) (mz_fe (e := (113, .iconst 4, 1, (0, 0, 0), [])) (by decide +kernel)) (by decide) ?_
      refine q_o (mz_fe (e := (114, .iload_n 1, 1, (0, 0, 0), [])) (by decide +kernel)) (pc2 := 115) rfl ?_
      refine q_o (mz_fe (e := (115, .imul, 1, (0, 0, 0), [])) (by decide +kernel)) (pc2 := 116) rfl ?_
      refine q_o (mz_fe (e := (116, .iload_n 3, 1, (0, 0, 0), [])) (by decide +kernel)) (pc2 := 117) rfl ?_
      refine q_o (mz_fe (e := (117, .iadd, 1, (0, 0, 0), [])) (by decide +kernel)) (pc2 := 118) rfl ?_
      refine q_ialdg rfl (mz_fe (e := (118, .iaload, 1, (0, 0, 0), [])) (by decide +kernel)) rfl (by decide) tg_271 ln_271 (fun g16 => ?_)
      refine q_o (mz_fe (e := (119, .aload_n 0, 1, (0, 0, 0), [])) (by decide +kernel)) (pc2 := 120) rfl ?_
      refine q_getR (b := 271) (mz_fe (e := (120, .getfield 113, 149, (12, 48, 2), [])) (by decide +kernel)) rfl tg_239 (by rw [ln_239]; decide) (mz_rfS (by decide +kernel)) ?_
      refine q_ic (v := 4) (mz_fe (e := (123, .iconst 4, 1, (0, 0, 0), [])) (by decide +kernel)) (by decide) ?_
      refine q_o (mz_fe (e := (124, .iload_n 2, 1, (0, 0, 0), [])) (by decide +kernel)) (pc2 := 125) rfl ?_
      refine q_o (mz_fe (e := (125, .imul, 1, (0, 0, 0), [])) (by decide +kernel)) (pc2 := 126) rfl ?_
      refine q_o (mz_fe (e := (126, .iload_n 3, 1, (0, 0, 0), [])) (by decide +kernel)) (pc2 := 127) rfl ?_
      refine q_o (mz_fe (e := (127, .iadd, 1, (0, 0, 0), [])) (by decide +kernel)) (pc2 := 128) rfl ?_
      refine q_ialdg rfl (mz_fe (e := (128, .iaload, 1, (0, 0, 0), [])) (by decide +kernel)) rfl (by decide) tg_271 ln_271 (fun g17 => ?_)
      refine q_callI (N := 211) (vs := [.int (mz_rd (mz_wr m12 268 0 y3) 271 ((((4 : Int32) * y1) + y3) : Int32).toNatClampNeg), .int (mz_rd (mz_wr m12 268 0 y3) 271 ((((4 : Int32) * y2) + y3) : Int32).toNatClampNeg)]) (rest := [.int 8, .ref 268]) (L' := [some (.ref 239), some (.int y1), some (.int y2), some (.int y3)]) (f := fun v19 m18 => H_X12_looksBoth_55 d y1 y2 (y3 + 1) (mz_wr m18 268 8 v19)) rfl (mz_fe (e := (129, .invokestatic 333, 201, (211, 2, 1000), [])) (by decide +kernel)) rfl (mz_inv_stat (N := 211) (k := 2) (st := [.int (mz_rd (mz_wr m12 268 0 y3) 271 ((((4 : Int32) * y2) + y3) : Int32).toNatClampNeg), .int (mz_rd (mz_wr m12 268 0 y3) 271 ((((4 : Int32) * y1) + y3) : Int32).toNatClampNeg), .int 8, .ref 268]) (rest := [.int 8, .ref 268]) (vs := [.int (mz_rd (mz_wr m12 268 0 y3) 271 ((((4 : Int32) * y1) + y3) : Int32).toNatClampNeg), .int (mz_rd (mz_wr m12 268 0 y3) 271 ((((4 : Int32) * y2) + y3) : Int32).toNatClampNeg)]) (h := (mz_S0, (mz_wr m12 268 0 y3))) rfl rfl (Nat.le_of_ble_eq_true rfl) (Nat.le_of_ble_eq_true rfl)) (mz_dc_lt (n := 2) rfl (by decide +kernel) (by decide +kernel)) (by decide +kernel) (Or.inl (by decide +kernel)) (fun v19 m18 => ?_)
      refine q_stA (f := (fun x => x)) (mz_fe (e := (132, .iastore, 1, (0, 0, 0), [])) (by decide +kernel)) (fun _ => rfl) rfl tg_268 ln_268 (by decide) (j := 8) (by decide) ?_
      refine q_iinc (v := y3) (c := 1) (L3 := [some (.ref 239), some (.int y1), some (.int y2), some (.int (y3 + 1))]) (mz_fe (e := (133, .iinc 3 1, 3, (0, 0, 0), [])) (by decide +kernel)) rfl rfl (by decide) rfl ?_
      refine q_o (mz_fe (e := (136, .goto (-81), 3, (0, 0, 0), [])) (by decide +kernel)) (pc2 := 55) rfl ?_
      exact congrArg mz_cV (mz_At_msk (L := [some (.ref 239), some (.int y1), some (.int y2), some (.int (y3 + 1))]) (L2 := [some (.ref 239), some (.int y1), some (.int y2), some (.int (y3 + 1))]) (mz_fe (e := (55, .iload_n 3, 1, (0, 0, 0), [true, true, true, true])) (by decide +kernel)) rfl rfl)
    · refine q_o (mz_fe (e := (93, .goto 40, 3, (0, 0, 0), [])) (by decide +kernel)) (pc2 := 133) rfl ?_
      refine q_iinc (v := y3) (c := 1) (L3 := [some (.ref 239), some (.int y1), some (.int y2), some (.int (y3 + 1))]) (mz_fe (e := (133, .iinc 3 1, 3, (0, 0, 0), [])) (by decide +kernel)) rfl rfl (by decide) rfl ?_
      refine q_o (mz_fe (e := (136, .goto (-81), 3, (0, 0, 0), [])) (by decide +kernel)) (pc2 := 55) rfl ?_
      exact congrArg mz_cV (mz_At_msk (L := [some (.ref 239), some (.int y1), some (.int y2), some (.int (y3 + 1))]) (L2 := [some (.ref 239), some (.int y1), some (.int y2), some (.int (y3 + 1))]) (mz_fe (e := (55, .iload_n 3, 1, (0, 0, 0), [true, true, true, true])) (by decide +kernel)) rfl rfl)
set_option maxRecDepth 10000 in
theorem R_X12_turnTells_eq (d : Nat) (x0 : Int32) (x1 : Int32) (x2 : Int32) (x3 : Int32) (m : MzM)  : R_X12_turnTells d x0 x1 x2 x3 m = (R_X12_looksBoth d x0 x1 m).bind (fun m1 => (R_X12_fourFrom d 30 m1).bind (fun u6 => (R_X12_fourFrom d ((4 : Int32) * x0) (mz_wr u6.2 268 3 u6.1)).bind (fun u9 => (R_X12_fourFrom d ((4 : Int32) * x1) u9.2).bind (fun u12 => (R_X12_lawTells d x2 x3 (mz_wr u12.2 268 4 (u9.1 + u12.1))).bind (fun u15 => (R_X12_within d u15.1 0 99 u15.2).bind (fun u18 => some (u18.1, u18.2))))))) := by
  show mz_cI (mz_T d 228 0 (mz_en (mz_xl 228) [.ref 239, .int x0, .int x1, .int x2, .int x3]) [] m) = _
  rw [show mz_en (mz_xl 228) [.ref 239, .int x0, .int x1, .int x2, .int x3] = [some (.ref 239), some (.int x0), some (.int x1), some (.int x2), some (.int x3)] from by rw [show mz_xl 228 = 5 from by decide +kernel]; rfl]
  refine q_o (mz_fe (e := (0, .aload_n 0, 1, (0, 0, 0), [])) (by decide +kernel)) (pc2 := 1) rfl ?_
  refine q_o (mz_fe (e := (1, .iload_n 1, 1, (0, 0, 0), [])) (by decide +kernel)) (pc2 := 2) rfl ?_
  refine q_o (mz_fe (e := (2, .iload_n 2, 1, (0, 0, 0), [])) (by decide +kernel)) (pc2 := 3) rfl ?_
  refine q_callV (N := 226) (vs := [.ref 239, .int x0, .int x1]) (rest := []) (L' := [some (.ref 239), some (.int x0), some (.int x1), some (.int x2), some (.int x3)]) rfl (mz_fe (e := (3, .invokevirtual 345, 205, (226, 3, 18), [])) (by decide +kernel)) rfl (mz_inv_virt (N := 226) (k := 3) (t := 18) (st := [.int x1, .int x0, .ref 239]) (rest := []) (b := 239) (vs := [.int x0, .int x1]) (h := (mz_S0, m)) rfl rfl (Nat.le_of_ble_eq_true rfl) (Nat.le_of_ble_eq_true rfl) tg_239 (by decide)) (mz_dc_lt (n := 3) rfl (by decide +kernel) (by decide +kernel)) (by decide +kernel) (by decide +kernel) (fun m1 => ?_)
  refine q_o (mz_fe (e := (6, .aload_n 0, 1, (0, 0, 0), [])) (by decide +kernel)) (pc2 := 7) rfl ?_
  refine q_getR (b := 268) (mz_fe (e := (7, .getfield 104, 146, (12, 44, 2), [])) (by decide +kernel)) rfl tg_239 (by rw [ln_239]; decide) (mz_rfS (by decide +kernel)) ?_
  refine q_ic (v := 3) (mz_fe (e := (10, .iconst 3, 1, (0, 0, 0), [])) (by decide +kernel)) (by decide) ?_
  refine q_o (mz_fe (e := (11, .aload_n 0, 1, (0, 0, 0), [])) (by decide +kernel)) (pc2 := 12) rfl ?_
  refine q_bi (v := 30) (mz_fe (e := (12, .bipush 30, 2, (0, 0, 0), [])) (by decide +kernel)) (by decide) ?_
  refine q_callI (N := 222) (vs := [.ref 239, .int 30]) (rest := [.int 3, .ref 268]) (L' := [some (.ref 239), some (.int x0), some (.int x1), some (.int x2), some (.int x3)]) (f := fun v5 m4 => (R_X12_fourFrom d ((4 : Int32) * x0) (mz_wr m4 268 3 v5)).bind (fun u9 => (R_X12_fourFrom d ((4 : Int32) * x1) u9.2).bind (fun u12 => (R_X12_lawTells d x2 x3 (mz_wr u12.2 268 4 (u9.1 + u12.1))).bind (fun u15 => (R_X12_within d u15.1 0 99 u15.2).bind (fun u18 => some (u18.1, u18.2)))))) rfl (mz_fe (e := (14, .invokevirtual 351, 207, (222, 2, 18), [])) (by decide +kernel)) rfl (mz_inv_virt (N := 222) (k := 2) (t := 18) (st := [.int 30, .ref 239, .int 3, .ref 268]) (rest := [.int 3, .ref 268]) (b := 239) (vs := [.int 30]) (h := (mz_S0, m1)) rfl rfl (Nat.le_of_ble_eq_true rfl) (Nat.le_of_ble_eq_true rfl) tg_239 (by decide)) (mz_dc_lt (n := 2) rfl (by decide +kernel) (by decide +kernel)) (by decide +kernel) (Or.inl (by decide +kernel)) (fun v5 m4 => ?_)
  refine q_stA (f := (fun x => x)) (mz_fe (e := (17, .iastore, 1, (0, 0, 0), [])) (by decide +kernel)) (fun _ => rfl) rfl tg_268 ln_268 (by decide) (j := 3) (by decide) ?_
  refine q_o (mz_fe (e := (18, .aload_n 0, 1, (0, 0, 0), [])) (by decide +kernel)) (pc2 := 19) rfl ?_
  refine q_getR (b := 268) (mz_fe (e := (19, .getfield 104, 146, (12, 44, 2), [])) (by decide +kernel)) rfl tg_239 (by rw [ln_239]; decide) (mz_rfS (by decide +kernel)) ?_
  refine q_ic (v := 4) (mz_fe (e := (22, .iconst 4, 1, (0, 0, 0), [])) (by decide +kernel)) (by decide) ?_
  refine q_o (mz_fe (e := (23, .aload_n 0, 1, (0, 0, 0), [])) (by decide +kernel)) (pc2 := 24) rfl ?_
  refine q_ic (v := 4) (mz_fe (e := (24, .iconst 4, 1, (0, 0, 0), [])) (by decide +kernel)) (by decide) ?_
  refine q_o (mz_fe (e := (25, .iload_n 1, 1, (0, 0, 0), [])) (by decide +kernel)) (pc2 := 26) rfl ?_
  refine q_o (mz_fe (e := (26, .imul, 1, (0, 0, 0), [])) (by decide +kernel)) (pc2 := 27) rfl ?_
  refine q_callI (N := 222) (vs := [.ref 239, .int ((4 : Int32) * x0)]) (rest := [.int 4, .ref 268]) (L' := [some (.ref 239), some (.int x0), some (.int x1), some (.int x2), some (.int x3)]) (f := fun v8 m7 => (R_X12_fourFrom d ((4 : Int32) * x1) m7).bind (fun u12 => (R_X12_lawTells d x2 x3 (mz_wr u12.2 268 4 (v8 + u12.1))).bind (fun u15 => (R_X12_within d u15.1 0 99 u15.2).bind (fun u18 => some (u18.1, u18.2))))) rfl (mz_fe (e := (27, .invokevirtual 351, 207, (222, 2, 18), [])) (by decide +kernel)) rfl (mz_inv_virt (N := 222) (k := 2) (t := 18) (st := [.int ((4 : Int32) * x0), .ref 239, .int 4, .ref 268]) (rest := [.int 4, .ref 268]) (b := 239) (vs := [.int ((4 : Int32) * x0)]) (h := (mz_S0, (mz_wr m4 268 3 v5))) rfl rfl (Nat.le_of_ble_eq_true rfl) (Nat.le_of_ble_eq_true rfl) tg_239 (by decide)) (mz_dc_lt (n := 2) rfl (by decide +kernel) (by decide +kernel)) (by decide +kernel) (Or.inl (by decide +kernel)) (fun v8 m7 => ?_)
  refine q_o (mz_fe (e := (30, .aload_n 0, 1, (0, 0, 0), [])) (by decide +kernel)) (pc2 := 31) rfl ?_
  refine q_ic (v := 4) (mz_fe (e := (31, .iconst 4, 1, (0, 0, 0), [])) (by decide +kernel)) (by decide) ?_
  refine q_o (mz_fe (e := (32, .iload_n 2, 1, (0, 0, 0), [])) (by decide +kernel)) (pc2 := 33) rfl ?_
  refine q_o (mz_fe (e := (33, .imul, 1, (0, 0, 0), [])) (by decide +kernel)) (pc2 := 34) rfl ?_
  refine q_callI (N := 222) (vs := [.ref 239, .int ((4 : Int32) * x1)]) (rest := [.int v8, .int 4, .ref 268]) (L' := [some (.ref 239), some (.int x0), some (.int x1), some (.int x2), some (.int x3)]) (f := fun v11 m10 => (R_X12_lawTells d x2 x3 (mz_wr m10 268 4 (v8 + v11))).bind (fun u15 => (R_X12_within d u15.1 0 99 u15.2).bind (fun u18 => some (u18.1, u18.2)))) rfl (mz_fe (e := (34, .invokevirtual 351, 207, (222, 2, 18), [])) (by decide +kernel)) rfl (mz_inv_virt (N := 222) (k := 2) (t := 18) (st := [.int ((4 : Int32) * x1), .ref 239, .int v8, .int 4, .ref 268]) (rest := [.int v8, .int 4, .ref 268]) (b := 239) (vs := [.int ((4 : Int32) * x1)]) (h := (mz_S0, m7)) rfl rfl (Nat.le_of_ble_eq_true rfl) (Nat.le_of_ble_eq_true rfl) tg_239 (by decide)) (mz_dc_lt (n := 2) rfl (by decide +kernel) (by decide +kernel)) (by decide +kernel) (Or.inl (by decide +kernel)) (fun v11 m10 => ?_)
  refine q_o (mz_fe (e := (37, .iadd, 1, (0, 0, 0), [])) (by decide +kernel)) (pc2 := 38) rfl ?_
  refine q_stA (f := (fun x => x)) (mz_fe (e := (38, .iastore, 1, (0, 0, 0), [])) (by decide +kernel)) (fun _ => rfl) rfl tg_268 ln_268 (by decide) (j := 4) (by decide) ?_
  refine q_o (mz_fe (e := (39, .aload_n 0, 1, (0, 0, 0), [])) (by decide +kernel)) (pc2 := 40) rfl ?_
  refine q_o (mz_fe (e := (40, .iload_n 3, 1, (0, 0, 0), [])) (by decide +kernel)) (pc2 := 41) rfl ?_
  refine q_o (mz_fe (e := (41, .iload 4, 2, (0, 0, 0), [])) (by decide +kernel)) (pc2 := 43) rfl ?_
  refine q_callI (N := 224) (vs := [.ref 239, .int x2, .int x3]) (rest := []) (L' := [some (.ref 239), some (.int x0), some (.int x1), some (.int x2), some (.int x3)]) (f := fun v14 m13 => (R_X12_within d v14 0 99 m13).bind (fun u18 => some (u18.1, u18.2))) rfl (mz_fe (e := (43, .invokevirtual 348, 206, (224, 3, 18), [])) (by decide +kernel)) rfl (mz_inv_virt (N := 224) (k := 3) (t := 18) (st := [.int x3, .int x2, .ref 239]) (rest := []) (b := 239) (vs := [.int x2, .int x3]) (h := (mz_S0, (mz_wr m10 268 4 (v8 + v11)))) rfl rfl (Nat.le_of_ble_eq_true rfl) (Nat.le_of_ble_eq_true rfl) tg_239 (by decide)) (mz_dc_lt (n := 3) rfl (by decide +kernel) (by decide +kernel)) (by decide +kernel) (Or.inl (by decide +kernel)) (fun v14 m13 => ?_)
  refine q_ic (v := 0) (mz_fe (e := (46, .iconst 0, 1, (0, 0, 0), [])) (by decide +kernel)) (by decide) ?_
  refine q_bi (v := 99) (mz_fe (e := (47, .bipush 99, 2, (0, 0, 0), [])) (by decide +kernel)) (by decide) ?_
  refine q_callI (N := 209) (vs := [.int v14, .int 0, .int 99]) (rest := []) (L' := [some (.ref 239), some (.int x0), some (.int x1), some (.int x2), some (.int x3)]) (f := fun v17 m16 => some (v17, m16)) rfl (mz_fe (e := (49, .invokestatic 354, 208, (209, 3, 1000), [])) (by decide +kernel)) rfl (mz_inv_stat (N := 209) (k := 3) (st := [.int 99, .int 0, .int v14]) (rest := []) (vs := [.int v14, .int 0, .int 99]) (h := (mz_S0, m13)) rfl rfl (Nat.le_of_ble_eq_true rfl) (Nat.le_of_ble_eq_true rfl)) (mz_dc_lt (n := 3) rfl (by decide +kernel) (by decide +kernel)) (by decide +kernel) (Or.inl (by decide +kernel)) (fun v17 m16 => ?_)
  exact q_retI (mz_fe (e := (52, .ireturn, 1, (0, 0, 0), [])) (by decide +kernel)) (by decide +kernel)
set_option maxRecDepth 10000 in
theorem R_X12_staysOf_eq (d : Nat) (x0 : Int32) (x1 : Int32) (x2 : Int32) (m : MzM)  : R_X12_staysOf d x0 x1 x2 m = (R_X12_looks d x0 x1 m).bind (fun m1 => mz_g (mz_ok ((30 : Int32) + x2) 39) ((R_X12_allOf d x0 x1 x2 (mz_wr (mz_wr m1 268 0 x2) 268 3 (mz_rd (mz_wr m1 268 0 x2) 271 (((30 : Int32) + x2) : Int32).toNatClampNeg))).bind (fun u7 => mz_g (mz_ok (((4 : Int32) * x0) + x2) 39) (mz_g (mz_ok (((4 : Int32) * x1) + x2) 39) (if (mz_rd (mz_wr u7.2 268 4 u7.1) 271 ((((4 : Int32) * x0) + x2) : Int32).toNatClampNeg) ≤ (mz_rd (mz_wr u7.2 268 4 u7.1) 271 ((((4 : Int32) * x1) + x2) : Int32).toNatClampNeg) then (mz_g (mz_ok (((4 : Int32) * x1) + x2) 39) ((R_X12_lawTells d 0 0 (mz_wr (mz_wr u7.2 268 4 u7.1) 268 8 (mz_rd (mz_wr u7.2 268 4 u7.1) 271 ((((4 : Int32) * x1) + x2) : Int32).toNatClampNeg))).bind (fun u14 => (R_X12_within d u14.1 0 (mz_rd u14.2 268 4) u14.2).bind (fun u17 => some (u17.1, u17.2))))) else (mz_g (mz_ok (((4 : Int32) * x0) + x2) 39) ((R_X12_lawTells d 0 0 (mz_wr (mz_wr u7.2 268 4 u7.1) 268 8 (mz_rd (mz_wr u7.2 268 4 u7.1) 271 ((((4 : Int32) * x0) + x2) : Int32).toNatClampNeg))).bind (fun u21 => (R_X12_within d u21.1 0 (mz_rd u21.2 268 4) u21.2).bind (fun u24 => some (u24.1, u24.2)))))))))) := by
  show mz_cI (mz_T d 230 0 (mz_en (mz_xl 230) [.ref 239, .int x0, .int x1, .int x2]) [] m) = _
  rw [show mz_en (mz_xl 230) [.ref 239, .int x0, .int x1, .int x2] = [some (.ref 239), some (.int x0), some (.int x1), some (.int x2)] from by rw [show mz_xl 230 = 4 from by decide +kernel]; rfl]
  refine q_o (mz_fe (e := (0, .aload_n 0, 1, (0, 0, 0), [])) (by decide +kernel)) (pc2 := 1) rfl ?_
  refine q_o (mz_fe (e := (1, .iload_n 1, 1, (0, 0, 0), [])) (by decide +kernel)) (pc2 := 2) rfl ?_
  refine q_o (mz_fe (e := (2, .iload_n 2, 1, (0, 0, 0), [])) (by decide +kernel)) (pc2 := 3) rfl ?_
  refine q_callV (N := 225) (vs := [.ref 239, .int x0, .int x1]) (rest := []) (L' := [some (.ref 239), some (.int x0), some (.int x1), some (.int x2)]) rfl (mz_fe (e := (3, .invokevirtual 342, 204, (225, 3, 18), [])) (by decide +kernel)) rfl (mz_inv_virt (N := 225) (k := 3) (t := 18) (st := [.int x1, .int x0, .ref 239]) (rest := []) (b := 239) (vs := [.int x0, .int x1]) (h := (mz_S0, m)) rfl rfl (Nat.le_of_ble_eq_true rfl) (Nat.le_of_ble_eq_true rfl) tg_239 (by decide)) (mz_dc_lt (n := 3) rfl (by decide +kernel) (by decide +kernel)) (by decide +kernel) (by decide +kernel) (fun m1 => ?_)
  refine q_o (mz_fe (e := (6, .aload_n 0, 1, (0, 0, 0), [])) (by decide +kernel)) (pc2 := 7) rfl ?_
  refine q_getR (b := 268) (mz_fe (e := (7, .getfield 104, 146, (12, 44, 2), [])) (by decide +kernel)) rfl tg_239 (by rw [ln_239]; decide) (mz_rfS (by decide +kernel)) ?_
  refine q_ic (v := 0) (mz_fe (e := (10, .iconst 0, 1, (0, 0, 0), [])) (by decide +kernel)) (by decide) ?_
  refine q_o (mz_fe (e := (11, .iload_n 3, 1, (0, 0, 0), [])) (by decide +kernel)) (pc2 := 12) rfl ?_
  refine q_stA (f := (fun x => x)) (mz_fe (e := (12, .iastore, 1, (0, 0, 0), [])) (by decide +kernel)) (fun _ => rfl) rfl tg_268 ln_268 (by decide) (j := 0) (by decide) ?_
  refine q_o (mz_fe (e := (13, .aload_n 0, 1, (0, 0, 0), [])) (by decide +kernel)) (pc2 := 14) rfl ?_
  refine q_getR (b := 268) (mz_fe (e := (14, .getfield 104, 146, (12, 44, 2), [])) (by decide +kernel)) rfl tg_239 (by rw [ln_239]; decide) (mz_rfS (by decide +kernel)) ?_
  refine q_ic (v := 3) (mz_fe (e := (17, .iconst 3, 1, (0, 0, 0), [])) (by decide +kernel)) (by decide) ?_
  refine q_o (mz_fe (e := (18, .aload_n 0, 1, (0, 0, 0), [])) (by decide +kernel)) (pc2 := 19) rfl ?_
  refine q_getR (b := 271) (mz_fe (e := (19, .getfield 113, 149, (12, 48, 2), [])) (by decide +kernel)) rfl tg_239 (by rw [ln_239]; decide) (mz_rfS (by decide +kernel)) ?_
  refine q_bi (v := 30) (mz_fe (e := (22, .bipush 30, 2, (0, 0, 0), [])) (by decide +kernel)) (by decide) ?_
  refine q_o (mz_fe (e := (24, .iload_n 3, 1, (0, 0, 0), [])) (by decide +kernel)) (pc2 := 25) rfl ?_
  refine q_o (mz_fe (e := (25, .iadd, 1, (0, 0, 0), [])) (by decide +kernel)) (pc2 := 26) rfl ?_
  refine q_ialdg rfl (mz_fe (e := (26, .iaload, 1, (0, 0, 0), [])) (by decide +kernel)) rfl (by decide) tg_271 ln_271 (fun g4 => ?_)
  refine q_stA (f := (fun x => x)) (mz_fe (e := (27, .iastore, 1, (0, 0, 0), [])) (by decide +kernel)) (fun _ => rfl) rfl tg_268 ln_268 (by decide) (j := 3) (by decide) ?_
  refine q_o (mz_fe (e := (28, .aload_n 0, 1, (0, 0, 0), [])) (by decide +kernel)) (pc2 := 29) rfl ?_
  refine q_getR (b := 268) (mz_fe (e := (29, .getfield 104, 146, (12, 44, 2), [])) (by decide +kernel)) rfl tg_239 (by rw [ln_239]; decide) (mz_rfS (by decide +kernel)) ?_
  refine q_ic (v := 4) (mz_fe (e := (32, .iconst 4, 1, (0, 0, 0), [])) (by decide +kernel)) (by decide) ?_
  refine q_o (mz_fe (e := (33, .aload_n 0, 1, (0, 0, 0), [])) (by decide +kernel)) (pc2 := 34) rfl ?_
  refine q_o (mz_fe (e := (34, .iload_n 1, 1, (0, 0, 0), [])) (by decide +kernel)) (pc2 := 35) rfl ?_
  refine q_o (mz_fe (e := (35, .iload_n 2, 1, (0, 0, 0), [])) (by decide +kernel)) (pc2 := 36) rfl ?_
  refine q_o (mz_fe (e := (36, .iload_n 3, 1, (0, 0, 0), [])) (by decide +kernel)) (pc2 := 37) rfl ?_
  refine q_callI (N := 229) (vs := [.ref 239, .int x0, .int x1, .int x2]) (rest := [.int 4, .ref 268]) (L' := [some (.ref 239), some (.int x0), some (.int x1), some (.int x2)]) (f := fun v6 m5 => mz_g (mz_ok (((4 : Int32) * x0) + x2) 39) (mz_g (mz_ok (((4 : Int32) * x1) + x2) 39) (if (mz_rd (mz_wr m5 268 4 v6) 271 ((((4 : Int32) * x0) + x2) : Int32).toNatClampNeg) ≤ (mz_rd (mz_wr m5 268 4 v6) 271 ((((4 : Int32) * x1) + x2) : Int32).toNatClampNeg) then (mz_g (mz_ok (((4 : Int32) * x1) + x2) 39) ((R_X12_lawTells d 0 0 (mz_wr (mz_wr m5 268 4 v6) 268 8 (mz_rd (mz_wr m5 268 4 v6) 271 ((((4 : Int32) * x1) + x2) : Int32).toNatClampNeg))).bind (fun u14 => (R_X12_within d u14.1 0 (mz_rd u14.2 268 4) u14.2).bind (fun u17 => some (u17.1, u17.2))))) else (mz_g (mz_ok (((4 : Int32) * x0) + x2) 39) ((R_X12_lawTells d 0 0 (mz_wr (mz_wr m5 268 4 v6) 268 8 (mz_rd (mz_wr m5 268 4 v6) 271 ((((4 : Int32) * x0) + x2) : Int32).toNatClampNeg))).bind (fun u21 => (R_X12_within d u21.1 0 (mz_rd u21.2 268 4) u21.2).bind (fun u24 => some (u24.1, u24.2)))))))) rfl (mz_fe (e := (37, .invokevirtual 357, 209, (229, 4, 18), [])) (by decide +kernel)) rfl (mz_inv_virt (N := 229) (k := 4) (t := 18) (st := [.int x2, .int x1, .int x0, .ref 239, .int 4, .ref 268]) (rest := [.int 4, .ref 268]) (b := 239) (vs := [.int x0, .int x1, .int x2]) (h := (mz_S0, (mz_wr (mz_wr m1 268 0 x2) 268 3 (mz_rd (mz_wr m1 268 0 x2) 271 (((30 : Int32) + x2) : Int32).toNatClampNeg)))) rfl rfl (Nat.le_of_ble_eq_true rfl) (Nat.le_of_ble_eq_true rfl) tg_239 (by decide)) (mz_dc_lt (n := 4) rfl (by decide +kernel) (by decide +kernel)) (by decide +kernel) (Or.inl (by decide +kernel)) (fun v6 m5 => ?_)
  refine q_stA (f := (fun x => x)) (mz_fe (e := (40, .iastore, 1, (0, 0, 0), [])) (by decide +kernel)) (fun _ => rfl) rfl tg_268 ln_268 (by decide) (j := 4) (by decide) ?_
  refine q_o (mz_fe (e := (41, .aload_n 0, 1, (0, 0, 0), [])) (by decide +kernel)) (pc2 := 42) rfl ?_
  refine q_getR (b := 268) (mz_fe (e := (42, .getfield 104, 146, (12, 44, 2), [])) (by decide +kernel)) rfl tg_239 (by rw [ln_239]; decide) (mz_rfS (by decide +kernel)) ?_
  refine q_bi (v := 8) (mz_fe (e := (45, .bipush 8, 2, (0, 0, 0), [])) (by decide +kernel)) (by decide) ?_
  refine q_o (mz_fe (e := (47, .aload_n 0, 1, (0, 0, 0), [])) (by decide +kernel)) (pc2 := 48) rfl ?_
  refine q_getR (b := 271) (mz_fe (e := (48, .getfield 113, 149, (12, 48, 2), [])) (by decide +kernel)) rfl tg_239 (by rw [ln_239]; decide) (mz_rfS (by decide +kernel)) ?_
  refine q_ic (v := 4) (mz_fe (e := (51, .iconst 4, 1, (0, 0, 0), [])) (by decide +kernel)) (by decide) ?_
  refine q_o (mz_fe (e := (52, .iload_n 1, 1, (0, 0, 0), [])) (by decide +kernel)) (pc2 := 53) rfl ?_
  refine q_o (mz_fe (e := (53, .imul, 1, (0, 0, 0), [])) (by decide +kernel)) (pc2 := 54) rfl ?_
  refine q_o (mz_fe (e := (54, .iload_n 3, 1, (0, 0, 0), [])) (by decide +kernel)) (pc2 := 55) rfl ?_
  refine q_o (mz_fe (e := (55, .iadd, 1, (0, 0, 0), [])) (by decide +kernel)) (pc2 := 56) rfl ?_
  refine q_ialdg rfl (mz_fe (e := (56, .iaload, 1, (0, 0, 0), [])) (by decide +kernel)) rfl (by decide) tg_271 ln_271 (fun g8 => ?_)
  refine q_o (mz_fe (e := (57, .aload_n 0, 1, (0, 0, 0), [])) (by decide +kernel)) (pc2 := 58) rfl ?_
  refine q_getR (b := 271) (mz_fe (e := (58, .getfield 113, 149, (12, 48, 2), [])) (by decide +kernel)) rfl tg_239 (by rw [ln_239]; decide) (mz_rfS (by decide +kernel)) ?_
  refine q_ic (v := 4) (mz_fe (e := (61, .iconst 4, 1, (0, 0, 0), [])) (by decide +kernel)) (by decide) ?_
  refine q_o (mz_fe (e := (62, .iload_n 2, 1, (0, 0, 0), [])) (by decide +kernel)) (pc2 := 63) rfl ?_
  refine q_o (mz_fe (e := (63, .imul, 1, (0, 0, 0), [])) (by decide +kernel)) (pc2 := 64) rfl ?_
  refine q_o (mz_fe (e := (64, .iload_n 3, 1, (0, 0, 0), [])) (by decide +kernel)) (pc2 := 65) rfl ?_
  refine q_o (mz_fe (e := (65, .iadd, 1, (0, 0, 0), [])) (by decide +kernel)) (pc2 := 66) rfl ?_
  refine q_ialdg rfl (mz_fe (e := (66, .iaload, 1, (0, 0, 0), [])) (by decide +kernel)) rfl (by decide) tg_271 ln_271 (fun g9 => ?_)
  refine q_if (c := .le) (off := 16) (t := 83) (x := (mz_rd (mz_wr m5 268 4 v6) 271 ((((4 : Int32) * x0) + x2) : Int32).toNatClampNeg)) (y := (mz_rd (mz_wr m5 268 4 v6) 271 ((((4 : Int32) * x1) + x2) : Int32).toNatClampNeg)) (st := [.int 8, .ref 268]) (mz_fe (e := (67, .if_icmp .le 16, 3, (0, 0, 0), [])) (by decide +kernel)) (fun _ => rfl) rfl rfl rfl (fun c10 => ?_) (fun c10 => ?_)
  · refine q_o (mz_fe (e := (83, .aload_n 0, 1, (0, 0, 0), [])) (by decide +kernel)) (pc2 := 84) rfl ?_
    refine q_getR (b := 271) (mz_fe (e := (84, .getfield 113, 149, (12, 48, 2), [])) (by decide +kernel)) rfl tg_239 (by rw [ln_239]; decide) (mz_rfS (by decide +kernel)) ?_
    refine q_ic (v := 4) (mz_fe (e := (87, .iconst 4, 1, (0, 0, 0), [])) (by decide +kernel)) (by decide) ?_
    refine q_o (mz_fe (e := (88, .iload_n 2, 1, (0, 0, 0), [])) (by decide +kernel)) (pc2 := 89) rfl ?_
    refine q_o (mz_fe (e := (89, .imul, 1, (0, 0, 0), [])) (by decide +kernel)) (pc2 := 90) rfl ?_
    refine q_o (mz_fe (e := (90, .iload_n 3, 1, (0, 0, 0), [])) (by decide +kernel)) (pc2 := 91) rfl ?_
    refine q_o (mz_fe (e := (91, .iadd, 1, (0, 0, 0), [])) (by decide +kernel)) (pc2 := 92) rfl ?_
    refine q_ialdg rfl (mz_fe (e := (92, .iaload, 1, (0, 0, 0), [])) (by decide +kernel)) rfl (by decide) tg_271 ln_271 (fun g11 => ?_)
    refine q_stA (f := (fun x => x)) (mz_fe (e := (93, .iastore, 1, (0, 0, 0), [])) (by decide +kernel)) (fun _ => rfl) rfl tg_268 ln_268 (by decide) (j := 8) (by decide) ?_
    refine q_o (mz_fe (e := (94, .aload_n 0, 1, (0, 0, 0), [])) (by decide +kernel)) (pc2 := 95) rfl ?_
    refine q_ic (v := 0) (mz_fe (e := (95, .iconst 0, 1, (0, 0, 0), [])) (by decide +kernel)) (by decide) ?_
    refine q_ic (v := 0) (mz_fe (e := (96, .iconst 0, 1, (0, 0, 0), [])) (by decide +kernel)) (by decide) ?_
    refine q_callI (N := 224) (vs := [.ref 239, .int 0, .int 0]) (rest := []) (L' := [some (.ref 239), some (.int x0), some (.int x1), some (.int x2)]) (f := fun v13 m12 => (R_X12_within d v13 0 (mz_rd m12 268 4) m12).bind (fun u17 => some (u17.1, u17.2))) rfl (mz_fe (e := (97, .invokevirtual 348, 206, (224, 3, 18), [])) (by decide +kernel)) rfl (mz_inv_virt (N := 224) (k := 3) (t := 18) (st := [.int 0, .int 0, .ref 239]) (rest := []) (b := 239) (vs := [.int 0, .int 0]) (h := (mz_S0, (mz_wr (mz_wr m5 268 4 v6) 268 8 (mz_rd (mz_wr m5 268 4 v6) 271 ((((4 : Int32) * x1) + x2) : Int32).toNatClampNeg)))) rfl rfl (Nat.le_of_ble_eq_true rfl) (Nat.le_of_ble_eq_true rfl) tg_239 (by decide)) (mz_dc_lt (n := 3) rfl (by decide +kernel) (by decide +kernel)) (by decide +kernel) (Or.inl (by decide +kernel)) (fun v13 m12 => ?_)
    refine q_ic (v := 0) (mz_fe (e := (100, .iconst 0, 1, (0, 0, 0), [])) (by decide +kernel)) (by decide) ?_
    refine q_o (mz_fe (e := (101, .aload_n 0, 1, (0, 0, 0), [])) (by decide +kernel)) (pc2 := 102) rfl ?_
    refine q_getR (b := 268) (mz_fe (e := (102, .getfield 104, 146, (12, 44, 2), [])) (by decide +kernel)) rfl tg_239 (by rw [ln_239]; decide) (mz_rfS (by decide +kernel)) ?_
    refine q_ic (v := 4) (mz_fe (e := (105, .iconst 4, 1, (0, 0, 0), [])) (by decide +kernel)) (by decide) ?_
    refine q_iald (j := 4) (mz_fe (e := (106, .iaload, 1, (0, 0, 0), [])) (by decide +kernel)) rfl (by decide) tg_268 ln_268 (by decide) (by decide) ?_
    refine q_callI (N := 209) (vs := [.int v13, .int 0, .int (mz_rd m12 268 4)]) (rest := []) (L' := [some (.ref 239), some (.int x0), some (.int x1), some (.int x2)]) (f := fun v16 m15 => some (v16, m15)) rfl (mz_fe (e := (107, .invokestatic 354, 208, (209, 3, 1000), [])) (by decide +kernel)) rfl (mz_inv_stat (N := 209) (k := 3) (st := [.int (mz_rd m12 268 4), .int 0, .int v13]) (rest := []) (vs := [.int v13, .int 0, .int (mz_rd m12 268 4)]) (h := (mz_S0, m12)) rfl rfl (Nat.le_of_ble_eq_true rfl) (Nat.le_of_ble_eq_true rfl)) (mz_dc_lt (n := 3) rfl (by decide +kernel) (by decide +kernel)) (by decide +kernel) (Or.inl (by decide +kernel)) (fun v16 m15 => ?_)
    exact q_retI (mz_fe (e := (110, .ireturn, 1, (0, 0, 0), [])) (by decide +kernel)) (by decide +kernel)
  · refine q_o (mz_fe (e := (70, .aload_n 0, 1, (0, 0, 0), [])) (by decide +kernel)) (pc2 := 71) rfl ?_
    refine q_getR (b := 271) (mz_fe (e := (71, .getfield 113, 149, (12, 48, 2), [])) (by decide +kernel)) rfl tg_239 (by rw [ln_239]; decide) (mz_rfS (by decide +kernel)) ?_
    refine q_ic (v := 4) (mz_fe (e := (74, .iconst 4, 1, (0, 0, 0), [])) (by decide +kernel)) (by decide) ?_
    refine q_o (mz_fe (e := (75, .iload_n 1, 1, (0, 0, 0), [])) (by decide +kernel)) (pc2 := 76) rfl ?_
    refine q_o (mz_fe (e := (76, .imul, 1, (0, 0, 0), [])) (by decide +kernel)) (pc2 := 77) rfl ?_
    refine q_o (mz_fe (e := (77, .iload_n 3, 1, (0, 0, 0), [])) (by decide +kernel)) (pc2 := 78) rfl ?_
    refine q_o (mz_fe (e := (78, .iadd, 1, (0, 0, 0), [])) (by decide +kernel)) (pc2 := 79) rfl ?_
    refine q_ialdg rfl (mz_fe (e := (79, .iaload, 1, (0, 0, 0), [])) (by decide +kernel)) rfl (by decide) tg_271 ln_271 (fun g18 => ?_)
    refine q_o (mz_fe (e := (80, .goto 13, 3, (0, 0, 0), [])) (by decide +kernel)) (pc2 := 93) rfl ?_
    refine q_stA (f := (fun x => x)) (mz_fe (e := (93, .iastore, 1, (0, 0, 0), [])) (by decide +kernel)) (fun _ => rfl) rfl tg_268 ln_268 (by decide) (j := 8) (by decide) ?_
    refine q_o (mz_fe (e := (94, .aload_n 0, 1, (0, 0, 0), [])) (by decide +kernel)) (pc2 := 95) rfl ?_
    refine q_ic (v := 0) (mz_fe (e := (95, .iconst 0, 1, (0, 0, 0), [])) (by decide +kernel)) (by decide) ?_
    refine q_ic (v := 0) (mz_fe (e := (96, .iconst 0, 1, (0, 0, 0), [])) (by decide +kernel)) (by decide) ?_
    refine q_callI (N := 224) (vs := [.ref 239, .int 0, .int 0]) (rest := []) (L' := [some (.ref 239), some (.int x0), some (.int x1), some (.int x2)]) (f := fun v20 m19 => (R_X12_within d v20 0 (mz_rd m19 268 4) m19).bind (fun u24 => some (u24.1, u24.2))) rfl (mz_fe (e := (97, .invokevirtual 348, 206, (224, 3, 18), [])) (by decide +kernel)) rfl (mz_inv_virt (N := 224) (k := 3) (t := 18) (st := [.int 0, .int 0, .ref 239]) (rest := []) (b := 239) (vs := [.int 0, .int 0]) (h := (mz_S0, (mz_wr (mz_wr m5 268 4 v6) 268 8 (mz_rd (mz_wr m5 268 4 v6) 271 ((((4 : Int32) * x0) + x2) : Int32).toNatClampNeg)))) rfl rfl (Nat.le_of_ble_eq_true rfl) (Nat.le_of_ble_eq_true rfl) tg_239 (by decide)) (mz_dc_lt (n := 3) rfl (by decide +kernel) (by decide +kernel)) (by decide +kernel) (Or.inl (by decide +kernel)) (fun v20 m19 => ?_)
    refine q_ic (v := 0) (mz_fe (e := (100, .iconst 0, 1, (0, 0, 0), [])) (by decide +kernel)) (by decide) ?_
    refine q_o (mz_fe (e := (101, .aload_n 0, 1, (0, 0, 0), [])) (by decide +kernel)) (pc2 := 102) rfl ?_
    refine q_getR (b := 268) (mz_fe (e := (102, .getfield 104, 146, (12, 44, 2), [])) (by decide +kernel)) rfl tg_239 (by rw [ln_239]; decide) (mz_rfS (by decide +kernel)) ?_
    refine q_ic (v := 4) (mz_fe (e := (105, .iconst 4, 1, (0, 0, 0), [])) (by decide +kernel)) (by decide) ?_
    refine q_iald (j := 4) (mz_fe (e := (106, .iaload, 1, (0, 0, 0), [])) (by decide +kernel)) rfl (by decide) tg_268 ln_268 (by decide) (by decide) ?_
    refine q_callI (N := 209) (vs := [.int v20, .int 0, .int (mz_rd m19 268 4)]) (rest := []) (L' := [some (.ref 239), some (.int x0), some (.int x1), some (.int x2)]) (f := fun v23 m22 => some (v23, m22)) rfl (mz_fe (e := (107, .invokestatic 354, 208, (209, 3, 1000), [])) (by decide +kernel)) rfl (mz_inv_stat (N := 209) (k := 3) (st := [.int (mz_rd m19 268 4), .int 0, .int v20]) (rest := []) (vs := [.int v20, .int 0, .int (mz_rd m19 268 4)]) (h := (mz_S0, m19)) rfl rfl (Nat.le_of_ble_eq_true rfl) (Nat.le_of_ble_eq_true rfl)) (mz_dc_lt (n := 3) rfl (by decide +kernel) (by decide +kernel)) (by decide +kernel) (Or.inl (by decide +kernel)) (fun v23 m22 => ?_)
    exact q_retI (mz_fe (e := (110, .ireturn, 1, (0, 0, 0), [])) (by decide +kernel)) (by decide +kernel)
set_option maxRecDepth 10000 in
theorem R_X12_isDue_eq (d : Nat) (x0 : Int32) (x1 : Int32) (m : MzM)  : R_X12_isDue d x0 x1 m = mz_g (mz_ok (((8 : Int32) * (mz_rd m 239 18)) + x0) 16) (if x1 < (mz_rd m 254 ((((8 : Int32) * (mz_rd m 239 18)) + x0) : Int32).toNatClampNeg) then (some (0, m)) else (mz_g (mz_ok (((8 : Int32) * (mz_rd m 239 18)) + x0) 16) (mz_g (decide ((mz_rd m 253 ((((8 : Int32) * (mz_rd m 239 18)) + x0) : Int32).toNatClampNeg) ≠ 0)) (if ¬ ((x1 - (mz_rd m 254 ((((8 : Int32) * (mz_rd m 239 18)) + x0) : Int32).toNatClampNeg)) - (x1 - (mz_rd m 254 ((((8 : Int32) * (mz_rd m 239 18)) + x0) : Int32).toNatClampNeg)) / (mz_rd m 253 ((((8 : Int32) * (mz_rd m 239 18)) + x0) : Int32).toNatClampNeg) * (mz_rd m 253 ((((8 : Int32) * (mz_rd m 239 18)) + x0) : Int32).toNatClampNeg)) = 0 then (some (0, m)) else (some (1, m)))))) := by
  show mz_cI (mz_T d 232 0 (mz_en (mz_xl 232) [.ref 239, .int x0, .int x1]) [] m) = _
  rw [show mz_en (mz_xl 232) [.ref 239, .int x0, .int x1] = [some (.ref 239), some (.int x0), some (.int x1), none] from by rw [show mz_xl 232 = 4 from by decide +kernel]; rfl]
  refine q_o (mz_fe (e := (0, .aload_n 0, 1, (0, 0, 0), [])) (by decide +kernel)) (pc2 := 1) rfl ?_
  refine q_getR (b := 254) (mz_fe (e := (1, .getfield 61, 132, (12, 27, 2), [])) (by decide +kernel)) rfl tg_239 (by rw [ln_239]; decide) (mz_rfS (by decide +kernel)) ?_
  refine q_bi (v := 8) (mz_fe (e := (4, .bipush 8, 2, (0, 0, 0), [])) (by decide +kernel)) (by decide) ?_
  refine q_o (mz_fe (e := (6, .aload_n 0, 1, (0, 0, 0), [])) (by decide +kernel)) (pc2 := 7) rfl ?_
  refine q_getI (mz_fe (e := (7, .getfield 233, 171, (12, 18, 0), [])) (by decide +kernel)) rfl (by decide) tg_239 (by rw [ln_239]; decide) ?_
  refine q_o (mz_fe (e := (10, .imul, 1, (0, 0, 0), [])) (by decide +kernel)) (pc2 := 11) rfl ?_
  refine q_o (mz_fe (e := (11, .iload_n 1, 1, (0, 0, 0), [])) (by decide +kernel)) (pc2 := 12) rfl ?_
  refine q_o (mz_fe (e := (12, .iadd, 1, (0, 0, 0), [])) (by decide +kernel)) (pc2 := 13) rfl ?_
  refine q_ialdg rfl (mz_fe (e := (13, .iaload, 1, (0, 0, 0), [])) (by decide +kernel)) rfl (by decide) tg_254 ln_254 (fun g1 => ?_)
  refine q_s (mz_fe (e := (14, .istore_n 3, 1, (0, 0, 0), [])) (by decide +kernel)) (pc' := 15) (L' := [some (.ref 239), some (.int x0), some (.int x1), some (.int (mz_rd m 254 ((((8 : Int32) * (mz_rd m 239 18)) + x0) : Int32).toNatClampNeg))]) (st' := []) rfl ?_
  refine q_o (mz_fe (e := (15, .iload_n 2, 1, (0, 0, 0), [])) (by decide +kernel)) (pc2 := 16) rfl ?_
  refine q_o (mz_fe (e := (16, .iload_n 3, 1, (0, 0, 0), [])) (by decide +kernel)) (pc2 := 17) rfl ?_
  refine q_if (c := .lt) (off := 28) (t := 45) (x := x1) (y := (mz_rd m 254 ((((8 : Int32) * (mz_rd m 239 18)) + x0) : Int32).toNatClampNeg)) (st := []) (mz_fe (e := (17, .if_icmp .lt 28, 3, (0, 0, 0), [])) (by decide +kernel)) (fun _ => rfl) rfl rfl rfl (fun c2 => ?_) (fun c2 => ?_)
  · refine q_ic (v := 0) (mz_fe (e := (45, .iconst 0, 1, (0, 0, 0), [])) (by decide +kernel)) (by decide) ?_
    exact q_retZ (mz_fe (e := (46, .ireturn, 1, (0, 0, 0), [])) (by decide +kernel)) (by decide +kernel) (by decide)
  · refine q_o (mz_fe (e := (20, .iload_n 2, 1, (0, 0, 0), [])) (by decide +kernel)) (pc2 := 21) rfl ?_
    refine q_o (mz_fe (e := (21, .iload_n 3, 1, (0, 0, 0), [])) (by decide +kernel)) (pc2 := 22) rfl ?_
    refine q_o (mz_fe (e := (22, .isub, 1, (0, 0, 0), [])) (by decide +kernel)) (pc2 := 23) rfl ?_
    refine q_o (mz_fe (e := (23, .aload_n 0, 1, (0, 0, 0), [])) (by decide +kernel)) (pc2 := 24) rfl ?_
    refine q_getR (b := 253) (mz_fe (e := (24, .getfield 58, 131, (12, 26, 2), [])) (by decide +kernel)) rfl tg_239 (by rw [ln_239]; decide) (mz_rfS (by decide +kernel)) ?_
    refine q_bi (v := 8) (mz_fe (e := (27, .bipush 8, 2, (0, 0, 0), [])) (by decide +kernel)) (by decide) ?_
    refine q_o (mz_fe (e := (29, .aload_n 0, 1, (0, 0, 0), [])) (by decide +kernel)) (pc2 := 30) rfl ?_
    refine q_getI (mz_fe (e := (30, .getfield 233, 171, (12, 18, 0), [])) (by decide +kernel)) rfl (by decide) tg_239 (by rw [ln_239]; decide) ?_
    refine q_o (mz_fe (e := (33, .imul, 1, (0, 0, 0), [])) (by decide +kernel)) (pc2 := 34) rfl ?_
    refine q_o (mz_fe (e := (34, .iload_n 1, 1, (0, 0, 0), [])) (by decide +kernel)) (pc2 := 35) rfl ?_
    refine q_o (mz_fe (e := (35, .iadd, 1, (0, 0, 0), [])) (by decide +kernel)) (pc2 := 36) rfl ?_
    refine q_ialdg rfl (mz_fe (e := (36, .iaload, 1, (0, 0, 0), [])) (by decide +kernel)) rfl (by decide) tg_253 ln_253 (fun g3 => ?_)
    refine q_div (z := fun x y => x - x / y * y) rfl (mz_fe (e := (37, .irem, 1, (0, 0, 0), [])) (by decide +kernel)) (fun _ => rfl) rfl (fun g4 => ?_)
    refine q_if (c := .ne) (off := 7) (t := 45) (x := ((x1 - (mz_rd m 254 ((((8 : Int32) * (mz_rd m 239 18)) + x0) : Int32).toNatClampNeg)) - (x1 - (mz_rd m 254 ((((8 : Int32) * (mz_rd m 239 18)) + x0) : Int32).toNatClampNeg)) / (mz_rd m 253 ((((8 : Int32) * (mz_rd m 239 18)) + x0) : Int32).toNatClampNeg) * (mz_rd m 253 ((((8 : Int32) * (mz_rd m 239 18)) + x0) : Int32).toNatClampNeg))) (y := 0) (st := []) (mz_fe (e := (38, .ifCond .ne 7, 3, (0, 0, 0), [])) (by decide +kernel)) (fun _ => rfl) rfl rfl rfl (fun c5 => ?_) (fun c5 => ?_)
    · refine q_ic (v := 0) (mz_fe (e := (45, .iconst 0, 1, (0, 0, 0), [])) (by decide +kernel)) (by decide) ?_
      exact q_retZ (mz_fe (e := (46, .ireturn, 1, (0, 0, 0), [])) (by decide +kernel)) (by decide +kernel) (by decide)
    · refine q_ic (v := 1) (mz_fe (e := (41, .iconst 1, 1, (0, 0, 0), [])) (by decide +kernel)) (by decide) ?_
      refine q_o (mz_fe (e := (42, .goto 4, 3, (0, 0, 0), [])) (by decide +kernel)) (pc2 := 46) rfl ?_
      exact q_retZ (mz_fe (e := (46, .ireturn, 1, (0, 0, 0), [])) (by decide +kernel)) (by decide +kernel) (by decide)
set_option maxRecDepth 10000 in
theorem R_X12_goes_eq (d : Nat) (x0 : Int32) (m : MzM)  : R_X12_goes d x0 m = H_X12_goes_2 d x0 0 m := by
  show mz_cV (mz_T d 234 0 (mz_en (mz_xl 234) [.ref 239, .int x0]) [] m) = _
  rw [show mz_en (mz_xl 234) [.ref 239, .int x0] = [some (.ref 239), some (.int x0), none] from by rw [show mz_xl 234 = 3 from by decide +kernel]; rfl]
  refine q_ic (v := 0) (mz_fe (e := (0, .iconst 0, 1, (0, 0, 0), [])) (by decide +kernel)) (by decide) ?_
  refine q_s (mz_fe (e := (1, .istore_n 2, 1, (0, 0, 0), [])) (by decide +kernel)) (pc' := 2) (L' := [some (.ref 239), some (.int x0), some (.int 0)]) (st' := []) rfl ?_
  exact congrArg mz_cV (mz_At_msk (L := [some (.ref 239), some (.int x0), some (.int 0)]) (L2 := [some (.ref 239), some (.int x0), some (.int 0)]) (mz_fe (e := (2, .iload_n 2, 1, (0, 0, 0), [true, true, true])) (by decide +kernel)) rfl rfl)
set_option maxRecDepth 10000 in
theorem H_X12_goes_2_eq (d : Nat) (y1 : Int32) (y2 : Int32) (m : MzM)  : H_X12_goes_2 d y1 y2 m = if y1 ≤ y2 then some m else ((R_X12_dayGoes d  m).bind (fun m2 => H_X12_goes_2 d y1 (y2 + 1) m2)) := by
  show mz_cV (mz_T d 234 2 [some (.ref 239), some (.int y1), some (.int y2)] [] m) = _
  refine q_s (mz_fe (e := (2, .iload_n 2, 1, (0, 0, 0), [true, true, true])) (by decide +kernel)) (pc' := 3) (L' := [some (.ref 239), some (.int y1), some (.int y2)]) (st' := [.int y2]) rfl ?_
  refine q_o (mz_fe (e := (3, .iload_n 1, 1, (0, 0, 0), [])) (by decide +kernel)) (pc2 := 4) rfl ?_
  refine q_if (c := .ge) (off := 13) (t := 17) (x := y2) (y := y1) (st := []) (mz_fe (e := (4, .if_icmp .ge 13, 3, (0, 0, 0), [])) (by decide +kernel)) (fun _ => rfl) rfl rfl rfl (fun c1 => ?_) (fun c1 => ?_)
  · exact q_retV (mz_fe (e := (17, .return_, 1, (0, 0, 0), [])) (by decide +kernel)) (by decide +kernel)
  · refine q_o (mz_fe (e := (7, .aload_n 0, 1, (0, 0, 0), [])) (by decide +kernel)) (pc2 := 8) rfl ?_
    refine q_callV (N := 233) (vs := [.ref 239]) (rest := []) (L' := [some (.ref 239), some (.int y1), some (.int y2)]) rfl (mz_fe (e := (8, .invokevirtual 381, 216, (233, 1, 18), [])) (by decide +kernel)) rfl (mz_inv_virt (N := 233) (k := 1) (t := 18) (st := [.ref 239]) (rest := []) (b := 239) (vs := []) (h := (mz_S0, m)) rfl rfl (Nat.le_of_ble_eq_true rfl) (Nat.le_of_ble_eq_true rfl) tg_239 (by decide)) (mz_dc_lt (n := 1) rfl (by decide +kernel) (by decide +kernel)) (by decide +kernel) (by decide +kernel) (fun m2 => ?_)
    refine q_iinc (v := y2) (c := 1) (L3 := [some (.ref 239), some (.int y1), some (.int (y2 + 1))]) (mz_fe (e := (11, .iinc 2 1, 3, (0, 0, 0), [])) (by decide +kernel)) rfl rfl (by decide) rfl ?_
    refine q_o (mz_fe (e := (14, .goto (-12), 3, (0, 0, 0), [])) (by decide +kernel)) (pc2 := 2) rfl ?_
    exact congrArg mz_cV (mz_At_msk (L := [some (.ref 239), some (.int y1), some (.int (y2 + 1))]) (L2 := [some (.ref 239), some (.int y1), some (.int (y2 + 1))]) (mz_fe (e := (2, .iload_n 2, 1, (0, 0, 0), [true, true, true])) (by decide +kernel)) rfl rfl)
set_option maxRecDepth 10000 in
theorem R_X12_foesOf_eq (d : Nat) (x0 : Int32) (m : MzM)  : R_X12_foesOf d x0 m = H_X12_foesOf_4 d x0 0 0 m := by
  show mz_cI (mz_T d 236 0 (mz_en (mz_xl 236) [.ref 239, .int x0]) [] m) = _
  rw [show mz_en (mz_xl 236) [.ref 239, .int x0] = [some (.ref 239), some (.int x0), none, none] from by rw [show mz_xl 236 = 4 from by decide +kernel]; rfl]
  refine q_ic (v := 0) (mz_fe (e := (0, .iconst 0, 1, (0, 0, 0), [])) (by decide +kernel)) (by decide) ?_
  refine q_s (mz_fe (e := (1, .istore_n 2, 1, (0, 0, 0), [])) (by decide +kernel)) (pc' := 2) (L' := [some (.ref 239), some (.int x0), some (.int 0), none]) (st' := []) rfl ?_
  refine q_ic (v := 0) (mz_fe (e := (2, .iconst 0, 1, (0, 0, 0), [])) (by decide +kernel)) (by decide) ?_
  refine q_s (mz_fe (e := (3, .istore_n 3, 1, (0, 0, 0), [])) (by decide +kernel)) (pc' := 4) (L' := [some (.ref 239), some (.int x0), some (.int 0), some (.int 0)]) (st' := []) rfl ?_
  exact congrArg mz_cI (mz_At_msk (L := [some (.ref 239), some (.int x0), some (.int 0), some (.int 0)]) (L2 := [some (.ref 239), some (.int x0), some (.int 0), some (.int 0)]) (mz_fe (e := (4, .iload_n 3, 1, (0, 0, 0), [true, true, true, true])) (by decide +kernel)) rfl rfl)
set_option maxRecDepth 10000 in
theorem H_X12_foesOf_4_eq (d : Nat) (y1 : Int32) (y2 : Int32) (y3 : Int32) (m : MzM)  : H_X12_foesOf_4 d y1 y2 y3 m = mz_g (mz_ok (mz_rd m 239 18) 2) (if (mz_rd m 248 ((mz_rd m 239 18) : Int32).toNatClampNeg) ≤ y3 then (some (y2, m)) else (if y1 = y3 then (H_X12_foesOf_4 d y1 y2 (y3 + 1) m) else ((R_X12_doQuarrel d y1 y3 m).bind (fun u6 => if u6.1 = 0 then (H_X12_foesOf_4 d y1 y2 (y3 + 1) u6.2) else (H_X12_foesOf_4 d y1 (y2 ||| ((1 : Int32) <<< (y3 &&& 31))) (y3 + 1) u6.2))))) := by
  show mz_cI (mz_T d 236 4 [some (.ref 239), some (.int y1), some (.int y2), some (.int y3)] [] m) = _
  refine q_s (mz_fe (e := (4, .iload_n 3, 1, (0, 0, 0), [true, true, true, true])) (by decide +kernel)) (pc' := 5) (L' := [some (.ref 239), some (.int y1), some (.int y2), some (.int y3)]) (st' := [.int y3]) rfl ?_
  refine q_o (mz_fe (e := (5, .aload_n 0, 1, (0, 0, 0), [])) (by decide +kernel)) (pc2 := 6) rfl ?_
  refine q_getR (b := 248) (mz_fe (e := (6, .getfield 43, 126, (12, 21, 2), [])) (by decide +kernel)) rfl tg_239 (by rw [ln_239]; decide) (mz_rfS (by decide +kernel)) ?_
  refine q_o (mz_fe (e := (9, .aload_n 0, 1, (0, 0, 0), [])) (by decide +kernel)) (pc2 := 10) rfl ?_
  refine q_getI (mz_fe (e := (10, .getfield 233, 171, (12, 18, 0), [])) (by decide +kernel)) rfl (by decide) tg_239 (by rw [ln_239]; decide) ?_
  refine q_ialdg rfl (mz_fe (e := (13, .iaload, 1, (0, 0, 0), [])) (by decide +kernel)) rfl (by decide) tg_248 ln_248 (fun g1 => ?_)
  refine q_if (c := .ge) (off := 29) (t := 43) (x := y3) (y := (mz_rd m 248 ((mz_rd m 239 18) : Int32).toNatClampNeg)) (st := []) (mz_fe (e := (14, .if_icmp .ge 29, 3, (0, 0, 0), [])) (by decide +kernel)) (fun _ => rfl) rfl rfl rfl (fun c2 => ?_) (fun c2 => ?_)
  · refine q_o (mz_fe (e := (43, .iload_n 2, 1, (0, 0, 0), [])) (by decide +kernel)) (pc2 := 44) rfl ?_
    exact q_retI (mz_fe (e := (44, .ireturn, 1, (0, 0, 0), [])) (by decide +kernel)) (by decide +kernel)
  · refine q_o (mz_fe (e := (17, .iload_n 1, 1, (0, 0, 0), [])) (by decide +kernel)) (pc2 := 18) rfl ?_
    refine q_o (mz_fe (e := (18, .iload_n 3, 1, (0, 0, 0), [])) (by decide +kernel)) (pc2 := 19) rfl ?_
    refine q_if (c := .eq) (off := 18) (t := 37) (x := y1) (y := y3) (st := []) (mz_fe (e := (19, .if_icmp .eq 18, 3, (0, 0, 0), [])) (by decide +kernel)) (fun _ => rfl) rfl rfl rfl (fun c3 => ?_) (fun c3 => ?_)
    · refine q_iinc (v := y3) (c := 1) (L3 := [some (.ref 239), some (.int y1), some (.int y2), some (.int (y3 + 1))]) (mz_fe (e := (37, .iinc 3 1, 3, (0, 0, 0), [])) (by decide +kernel)) rfl rfl (by decide) rfl ?_
      refine q_o (mz_fe (e := (40, .goto (-36), 3, (0, 0, 0), [])) (by decide +kernel)) (pc2 := 4) rfl ?_
      exact congrArg mz_cI (mz_At_msk (L := [some (.ref 239), some (.int y1), some (.int y2), some (.int (y3 + 1))]) (L2 := [some (.ref 239), some (.int y1), some (.int y2), some (.int (y3 + 1))]) (mz_fe (e := (4, .iload_n 3, 1, (0, 0, 0), [true, true, true, true])) (by decide +kernel)) rfl rfl)
    · refine q_o (mz_fe (e := (22, .aload_n 0, 1, (0, 0, 0), [])) (by decide +kernel)) (pc2 := 23) rfl ?_
      refine q_o (mz_fe (e := (23, .iload_n 1, 1, (0, 0, 0), [])) (by decide +kernel)) (pc2 := 24) rfl ?_
      refine q_o (mz_fe (e := (24, .iload_n 3, 1, (0, 0, 0), [])) (by decide +kernel)) (pc2 := 25) rfl ?_
      refine q_callI (N := 227) (vs := [.ref 239, .int y1, .int y3]) (rest := []) (L' := [some (.ref 239), some (.int y1), some (.int y2), some (.int y3)]) (f := fun v5 m4 => if v5 = 0 then (H_X12_foesOf_4 d y1 y2 (y3 + 1) m4) else (H_X12_foesOf_4 d y1 (y2 ||| ((1 : Int32) <<< (y3 &&& 31))) (y3 + 1) m4)) rfl (mz_fe (e := (25, .invokevirtual 371, 213, (227, 3, 18), [])) (by decide +kernel)) rfl (mz_inv_virt (N := 227) (k := 3) (t := 18) (st := [.int y3, .int y1, .ref 239]) (rest := []) (b := 239) (vs := [.int y1, .int y3]) (h := (mz_S0, m)) rfl rfl (Nat.le_of_ble_eq_true rfl) (Nat.le_of_ble_eq_true rfl) tg_239 (by decide)) (mz_dc_lt (n := 3) rfl (by decide +kernel) (by decide +kernel)) (by decide +kernel) (Or.inr (by decide +kernel)) (fun v5 m4 => ?_)
      refine q_if (c := .eq) (off := 9) (t := 37) (x := v5) (y := 0) (st := []) (mz_fe (e := (28, .ifCond .eq 9, 3, (0, 0, 0), [])) (by decide +kernel)) (fun _ => rfl) rfl rfl rfl (fun c7 => ?_) (fun c7 => ?_)
      · refine q_iinc (v := y3) (c := 1) (L3 := [some (.ref 239), some (.int y1), some (.int y2), some (.int (y3 + 1))]) (mz_fe (e := (37, .iinc 3 1, 3, (0, 0, 0), [])) (by decide +kernel)) rfl rfl (by decide) rfl ?_
        refine q_o (mz_fe (e := (40, .goto (-36), 3, (0, 0, 0), [])) (by decide +kernel)) (pc2 := 4) rfl ?_
        exact congrArg mz_cI (mz_At_msk (L := [some (.ref 239), some (.int y1), some (.int y2), some (.int (y3 + 1))]) (L2 := [some (.ref 239), some (.int y1), some (.int y2), some (.int (y3 + 1))]) (mz_fe (e := (4, .iload_n 3, 1, (0, 0, 0), [true, true, true, true])) (by decide +kernel)) rfl rfl)
      · refine q_o (mz_fe (e := (31, .iload_n 2, 1, (0, 0, 0), [])) (by decide +kernel)) (pc2 := 32) rfl ?_
        refine q_ic (v := 1) (mz_fe (e := (32, .iconst 1, 1, (0, 0, 0), [])) (by decide +kernel)) (by decide) ?_
        refine q_o (mz_fe (e := (33, .iload_n 3, 1, (0, 0, 0), [])) (by decide +kernel)) (pc2 := 34) rfl ?_
        refine q_o (mz_fe (e := (34, .ishl, 1, (0, 0, 0), [])) (by decide +kernel)) (pc2 := 35) rfl ?_
        refine q_o (mz_fe (e := (35, .ior, 1, (0, 0, 0), [])) (by decide +kernel)) (pc2 := 36) rfl ?_
        refine q_s (mz_fe (e := (36, .istore_n 2, 1, (0, 0, 0), [])) (by decide +kernel)) (pc' := 37) (L' := [some (.ref 239), some (.int y1), some (.int (y2 ||| ((1 : Int32) <<< (y3 &&& 31)))), some (.int y3)]) (st' := []) rfl ?_
        refine q_iinc (v := y3) (c := 1) (L3 := [some (.ref 239), some (.int y1), some (.int (y2 ||| ((1 : Int32) <<< (y3 &&& 31)))), some (.int (y3 + 1))]) (mz_fe (e := (37, .iinc 3 1, 3, (0, 0, 0), [])) (by decide +kernel)) rfl rfl (by decide) rfl ?_
        refine q_o (mz_fe (e := (40, .goto (-36), 3, (0, 0, 0), [])) (by decide +kernel)) (pc2 := 4) rfl ?_
        exact congrArg mz_cI (mz_At_msk (L := [some (.ref 239), some (.int y1), some (.int (y2 ||| ((1 : Int32) <<< (y3 &&& 31)))), some (.int (y3 + 1))]) (L2 := [some (.ref 239), some (.int y1), some (.int (y2 ||| ((1 : Int32) <<< (y3 &&& 31)))), some (.int (y3 + 1))]) (mz_fe (e := (4, .iload_n 3, 1, (0, 0, 0), [true, true, true, true])) (by decide +kernel)) rfl rfl)
set_option maxRecDepth 10000 in
theorem R_X12_screw_eq (d : Nat) (x0 : Int32) (m : MzM)  : R_X12_screw d x0 m = (R_X12_isStuff d x0 m).bind (fun u3 => if u3.1 = 0 then (some ((-1), u3.2)) else (mz_g (mz_ok ((30 : Int32) + x0) 39) (some ((mz_rd u3.2 270 (((30 : Int32) + x0) : Int32).toNatClampNeg), u3.2)))) := by
  show mz_cI (mz_T d 238 0 (mz_en (mz_xl 238) [.ref 239, .int x0]) [] m) = _
  rw [show mz_en (mz_xl 238) [.ref 239, .int x0] = [some (.ref 239), some (.int x0)] from by rw [show mz_xl 238 = 2 from by decide +kernel]; rfl]
  refine q_o (mz_fe (e := (0, .iload_n 1, 1, (0, 0, 0), [])) (by decide +kernel)) (pc2 := 1) rfl ?_
  refine q_callI (N := 214) (vs := [.int x0]) (rest := []) (L' := [some (.ref 239), some (.int x0)]) (f := fun v2 m1 => if v2 = 0 then (some ((-1), m1)) else (mz_g (mz_ok ((30 : Int32) + x0) 39) (some ((mz_rd m1 270 (((30 : Int32) + x0) : Int32).toNatClampNeg), m1)))) rfl (mz_fe (e := (1, .invokestatic 387, 218, (214, 1, 1000), [])) (by decide +kernel)) rfl (mz_inv_stat (N := 214) (k := 1) (st := [.int x0]) (rest := []) (vs := [.int x0]) (h := (mz_S0, m)) rfl rfl (Nat.le_of_ble_eq_true rfl) (Nat.le_of_ble_eq_true rfl)) (mz_dc_lt (n := 1) rfl (by decide +kernel) (by decide +kernel)) (by decide +kernel) (Or.inr (by decide +kernel)) (fun v2 m1 => ?_)
  refine q_if (c := .eq) (off := 15) (t := 19) (x := v2) (y := 0) (st := []) (mz_fe (e := (4, .ifCond .eq 15, 3, (0, 0, 0), [])) (by decide +kernel)) (fun _ => rfl) rfl rfl rfl (fun c4 => ?_) (fun c4 => ?_)
  · refine q_ic (v := (-1)) (mz_fe (e := (19, .iconst (-1), 1, (0, 0, 0), [])) (by decide +kernel)) (by decide) ?_
    exact q_retI (mz_fe (e := (20, .ireturn, 1, (0, 0, 0), [])) (by decide +kernel)) (by decide +kernel)
  · refine q_o (mz_fe (e := (7, .aload_n 0, 1, (0, 0, 0), [])) (by decide +kernel)) (pc2 := 8) rfl ?_
    refine q_getR (b := 270) (mz_fe (e := (8, .getfield 110, 148, (12, 47, 2), [])) (by decide +kernel)) rfl tg_239 (by rw [ln_239]; decide) (mz_rfS (by decide +kernel)) ?_
    refine q_bi (v := 30) (mz_fe (e := (11, .bipush 30, 2, (0, 0, 0), [])) (by decide +kernel)) (by decide) ?_
    refine q_o (mz_fe (e := (13, .iload_n 1, 1, (0, 0, 0), [])) (by decide +kernel)) (pc2 := 14) rfl ?_
    refine q_o (mz_fe (e := (14, .iadd, 1, (0, 0, 0), [])) (by decide +kernel)) (pc2 := 15) rfl ?_
    refine q_ialdg rfl (mz_fe (e := (15, .iaload, 1, (0, 0, 0), [])) (by decide +kernel)) rfl (by decide) tg_270 ln_270 (fun g5 => ?_)
    refine q_o (mz_fe (e := (16, .goto 4, 3, (0, 0, 0), [])) (by decide +kernel)) (pc2 := 20) rfl ?_
    exact q_retI (mz_fe (e := (20, .ireturn, 1, (0, 0, 0), [])) (by decide +kernel)) (by decide +kernel)
set_option maxRecDepth 10000 in
theorem R_X12_tells_eq (d : Nat) (x0 : Int32) (x1 : Int32) (x2 : Int32) (m : MzM)  : R_X12_tells d x0 x1 x2 m = (R_X12_areTwo d x0 x1 m).bind (fun u3 => if u3.1 = 0 then (some ((-1), u3.2)) else ((R_X12_in d x2 0 7 u3.2).bind (fun u7 => if ¬ u7.1 = 0 then ((R_X12_copies d  u7.2).bind (fun m9 => if x2 = 0 then ((R_X12_doQuarrel d x0 x1 m9).bind (fun u15 => if u15.1 = 0 then (some (0, u15.2)) else (some (1, u15.2)))) else if x2 = 1 then ((R_X12_apartOf d x0 x1 m9).bind (fun u20 => some (u20.1, u20.2))) else if x2 = 2 then ((R_X12_turnTells d x0 x1 2 0 m9).bind (fun u24 => some (u24.1, u24.2))) else if x2 = 3 then ((R_X12_turnTells d x0 x1 3 1 m9).bind (fun u28 => some (u28.1, u28.2))) else ((R_X12_staysOf d x0 x1 (x2 - 4) m9).bind (fun u31 => some (u31.1, u31.2))))) else (some ((-1), u7.2))))) := by
  show mz_cI (mz_T d 240 0 (mz_en (mz_xl 240) [.ref 239, .int x0, .int x1, .int x2]) [] m) = _
  rw [show mz_en (mz_xl 240) [.ref 239, .int x0, .int x1, .int x2] = [some (.ref 239), some (.int x0), some (.int x1), some (.int x2)] from by rw [show mz_xl 240 = 4 from by decide +kernel]; rfl]
  refine q_o (mz_fe (e := (0, .aload_n 0, 1, (0, 0, 0), [])) (by decide +kernel)) (pc2 := 1) rfl ?_
  refine q_o (mz_fe (e := (1, .iload_n 1, 1, (0, 0, 0), [])) (by decide +kernel)) (pc2 := 2) rfl ?_
  refine q_o (mz_fe (e := (2, .iload_n 2, 1, (0, 0, 0), [])) (by decide +kernel)) (pc2 := 3) rfl ?_
  refine q_callI (N := 213) (vs := [.ref 239, .int x0, .int x1]) (rest := []) (L' := [some (.ref 239), some (.int x0), some (.int x1), some (.int x2)]) (f := fun v2 m1 => if v2 = 0 then (some ((-1), m1)) else ((R_X12_in d x2 0 7 m1).bind (fun u7 => if ¬ u7.1 = 0 then ((R_X12_copies d  u7.2).bind (fun m9 => if x2 = 0 then ((R_X12_doQuarrel d x0 x1 m9).bind (fun u15 => if u15.1 = 0 then (some (0, u15.2)) else (some (1, u15.2)))) else if x2 = 1 then ((R_X12_apartOf d x0 x1 m9).bind (fun u20 => some (u20.1, u20.2))) else if x2 = 2 then ((R_X12_turnTells d x0 x1 2 0 m9).bind (fun u24 => some (u24.1, u24.2))) else if x2 = 3 then ((R_X12_turnTells d x0 x1 3 1 m9).bind (fun u28 => some (u28.1, u28.2))) else ((R_X12_staysOf d x0 x1 (x2 - 4) m9).bind (fun u31 => some (u31.1, u31.2))))) else (some ((-1), u7.2))))) rfl (mz_fe (e := (3, .invokevirtual 390, 219, (213, 3, 18), [])) (by decide +kernel)) rfl (mz_inv_virt (N := 213) (k := 3) (t := 18) (st := [.int x1, .int x0, .ref 239]) (rest := []) (b := 239) (vs := [.int x0, .int x1]) (h := (mz_S0, m)) rfl rfl (Nat.le_of_ble_eq_true rfl) (Nat.le_of_ble_eq_true rfl) tg_239 (by decide)) (mz_dc_lt (n := 3) rfl (by decide +kernel) (by decide +kernel)) (by decide +kernel) (Or.inr (by decide +kernel)) (fun v2 m1 => ?_)
  refine q_if (c := .eq) (off := 13) (t := 19) (x := v2) (y := 0) (st := []) (mz_fe (e := (6, .ifCond .eq 13, 3, (0, 0, 0), [])) (by decide +kernel)) (fun _ => rfl) rfl rfl rfl (fun c4 => ?_) (fun c4 => ?_)
  · refine q_ic (v := (-1)) (mz_fe (e := (19, .iconst (-1), 1, (0, 0, 0), [])) (by decide +kernel)) (by decide) ?_
    exact q_retI (mz_fe (e := (20, .ireturn, 1, (0, 0, 0), [])) (by decide +kernel)) (by decide +kernel)
  · refine q_o (mz_fe (e := (9, .iload_n 3, 1, (0, 0, 0), [])) (by decide +kernel)) (pc2 := 10) rfl ?_
    refine q_ic (v := 0) (mz_fe (e := (10, .iconst 0, 1, (0, 0, 0), [])) (by decide +kernel)) (by decide) ?_
    refine q_bi (v := 7) (mz_fe (e := (11, .bipush 7, 2, (0, 0, 0), [])) (by decide +kernel)) (by decide) ?_
    refine q_callI (N := 208) (vs := [.int x2, .int 0, .int 7]) (rest := []) (L' := [some (.ref 239), some (.int x0), some (.int x1), some (.int x2)]) (f := fun v6 m5 => if ¬ v6 = 0 then ((R_X12_copies d  m5).bind (fun m9 => if x2 = 0 then ((R_X12_doQuarrel d x0 x1 m9).bind (fun u15 => if u15.1 = 0 then (some (0, u15.2)) else (some (1, u15.2)))) else if x2 = 1 then ((R_X12_apartOf d x0 x1 m9).bind (fun u20 => some (u20.1, u20.2))) else if x2 = 2 then ((R_X12_turnTells d x0 x1 2 0 m9).bind (fun u24 => some (u24.1, u24.2))) else if x2 = 3 then ((R_X12_turnTells d x0 x1 3 1 m9).bind (fun u28 => some (u28.1, u28.2))) else ((R_X12_staysOf d x0 x1 (x2 - 4) m9).bind (fun u31 => some (u31.1, u31.2))))) else (some ((-1), m5))) rfl (mz_fe (e := (13, .invokestatic 310, 196, (208, 3, 1000), [])) (by decide +kernel)) rfl (mz_inv_stat (N := 208) (k := 3) (st := [.int 7, .int 0, .int x2]) (rest := []) (vs := [.int x2, .int 0, .int 7]) (h := (mz_S0, m1)) rfl rfl (Nat.le_of_ble_eq_true rfl) (Nat.le_of_ble_eq_true rfl)) (mz_dc_lt (n := 3) rfl (by decide +kernel) (by decide +kernel)) (by decide +kernel) (Or.inr (by decide +kernel)) (fun v6 m5 => ?_)
    refine q_if (c := .ne) (off := 5) (t := 21) (x := v6) (y := 0) (st := []) (mz_fe (e := (16, .ifCond .ne 5, 3, (0, 0, 0), [])) (by decide +kernel)) (fun _ => rfl) rfl rfl rfl (fun c8 => ?_) (fun c8 => ?_)
    · refine q_o (mz_fe (e := (21, .aload_n 0, 1, (0, 0, 0), [])) (by decide +kernel)) (pc2 := 22) rfl ?_
      refine q_callV (N := 217) (vs := [.ref 239]) (rest := []) (L' := [some (.ref 239), some (.int x0), some (.int x1), some (.int x2)]) rfl (mz_fe (e := (22, .invokevirtual 323, 198, (217, 1, 18), [])) (by decide +kernel)) rfl (mz_inv_virt (N := 217) (k := 1) (t := 18) (st := [.ref 239]) (rest := []) (b := 239) (vs := []) (h := (mz_S0, m5)) rfl rfl (Nat.le_of_ble_eq_true rfl) (Nat.le_of_ble_eq_true rfl) tg_239 (by decide)) (mz_dc_lt (n := 1) rfl (by decide +kernel) (by decide +kernel)) (by decide +kernel) (by decide +kernel) (fun m9 => ?_)
      refine q_o (mz_fe (e := (25, .iload_n 3, 1, (0, 0, 0), [])) (by decide +kernel)) (pc2 := 26) rfl ?_
      refine mz_ite (P := x2 = 0) (fun c12 => ?_) (fun c12 => ?_)
      · refine q_sw (t := 56) (st := []) (mz_fe (e := (26, .tableswitch 70 0 3 #[30, 45, 52, 61], 30, (0, 0, 0), [])) (by decide +kernel)) rfl (by rw [c12]; decide +kernel) ?_
        refine q_o (mz_fe (e := (56, .aload_n 0, 1, (0, 0, 0), [])) (by decide +kernel)) (pc2 := 57) rfl ?_
        refine q_o (mz_fe (e := (57, .iload_n 1, 1, (0, 0, 0), [])) (by decide +kernel)) (pc2 := 58) rfl ?_
        refine q_o (mz_fe (e := (58, .iload_n 2, 1, (0, 0, 0), [])) (by decide +kernel)) (pc2 := 59) rfl ?_
        refine q_callI (N := 227) (vs := [.ref 239, .int x0, .int x1]) (rest := []) (L' := [some (.ref 239), some (.int x0), some (.int x1), some (.int x2)]) (f := fun v14 m13 => if v14 = 0 then (some (0, m13)) else (some (1, m13))) rfl (mz_fe (e := (59, .invokevirtual 371, 213, (227, 3, 18), [])) (by decide +kernel)) rfl (mz_inv_virt (N := 227) (k := 3) (t := 18) (st := [.int x1, .int x0, .ref 239]) (rest := []) (b := 239) (vs := [.int x0, .int x1]) (h := (mz_S0, m9)) rfl rfl (Nat.le_of_ble_eq_true rfl) (Nat.le_of_ble_eq_true rfl) tg_239 (by decide)) (mz_dc_lt (n := 3) rfl (by decide +kernel) (by decide +kernel)) (by decide +kernel) (Or.inr (by decide +kernel)) (fun v14 m13 => ?_)
        refine q_if (c := .eq) (off := 7) (t := 69) (x := v14) (y := 0) (st := []) (mz_fe (e := (62, .ifCond .eq 7, 3, (0, 0, 0), [])) (by decide +kernel)) (fun _ => rfl) rfl rfl rfl (fun c16 => ?_) (fun c16 => ?_)
        · refine q_ic (v := 0) (mz_fe (e := (69, .iconst 0, 1, (0, 0, 0), [])) (by decide +kernel)) (by decide) ?_
          exact q_retI (mz_fe (e := (70, .ireturn, 1, (0, 0, 0), [])) (by decide +kernel)) (by decide +kernel)
        · refine q_ic (v := 1) (mz_fe (e := (65, .iconst 1, 1, (0, 0, 0), [])) (by decide +kernel)) (by decide) ?_
          refine q_o (mz_fe (e := (66, .goto 4, 3, (0, 0, 0), [])) (by decide +kernel)) (pc2 := 70) rfl ?_
          exact q_retI (mz_fe (e := (70, .ireturn, 1, (0, 0, 0), [])) (by decide +kernel)) (by decide +kernel)
      refine mz_ite (P := x2 = 1) (fun c17 => ?_) (fun c17 => ?_)
      · refine q_sw (t := 71) (st := []) (mz_fe (e := (26, .tableswitch 70 0 3 #[30, 45, 52, 61], 30, (0, 0, 0), [])) (by decide +kernel)) rfl (by rw [c17]; decide +kernel) ?_
        refine q_o (mz_fe (e := (71, .aload_n 0, 1, (0, 0, 0), [])) (by decide +kernel)) (pc2 := 72) rfl ?_
        refine q_o (mz_fe (e := (72, .iload_n 1, 1, (0, 0, 0), [])) (by decide +kernel)) (pc2 := 73) rfl ?_
        refine q_o (mz_fe (e := (73, .iload_n 2, 1, (0, 0, 0), [])) (by decide +kernel)) (pc2 := 74) rfl ?_
        refine q_callI (N := 223) (vs := [.ref 239, .int x0, .int x1]) (rest := []) (L' := [some (.ref 239), some (.int x0), some (.int x1), some (.int x2)]) (f := fun v19 m18 => some (v19, m18)) rfl (mz_fe (e := (74, .invokevirtual 339, 203, (223, 3, 18), [])) (by decide +kernel)) rfl (mz_inv_virt (N := 223) (k := 3) (t := 18) (st := [.int x1, .int x0, .ref 239]) (rest := []) (b := 239) (vs := [.int x0, .int x1]) (h := (mz_S0, m9)) rfl rfl (Nat.le_of_ble_eq_true rfl) (Nat.le_of_ble_eq_true rfl) tg_239 (by decide)) (mz_dc_lt (n := 3) rfl (by decide +kernel) (by decide +kernel)) (by decide +kernel) (Or.inl (by decide +kernel)) (fun v19 m18 => ?_)
        exact q_retI (mz_fe (e := (77, .ireturn, 1, (0, 0, 0), [])) (by decide +kernel)) (by decide +kernel)
      refine mz_ite (P := x2 = 2) (fun c21 => ?_) (fun c21 => ?_)
      · refine q_sw (t := 78) (st := []) (mz_fe (e := (26, .tableswitch 70 0 3 #[30, 45, 52, 61], 30, (0, 0, 0), [])) (by decide +kernel)) rfl (by rw [c21]; decide +kernel) ?_
        refine q_o (mz_fe (e := (78, .aload_n 0, 1, (0, 0, 0), [])) (by decide +kernel)) (pc2 := 79) rfl ?_
        refine q_o (mz_fe (e := (79, .iload_n 1, 1, (0, 0, 0), [])) (by decide +kernel)) (pc2 := 80) rfl ?_
        refine q_o (mz_fe (e := (80, .iload_n 2, 1, (0, 0, 0), [])) (by decide +kernel)) (pc2 := 81) rfl ?_
        refine q_ic (v := 2) (mz_fe (e := (81, .iconst 2, 1, (0, 0, 0), [])) (by decide +kernel)) (by decide) ?_
        refine q_ic (v := 0) (mz_fe (e := (82, .iconst 0, 1, (0, 0, 0), [])) (by decide +kernel)) (by decide) ?_
        refine q_callI (N := 228) (vs := [.ref 239, .int x0, .int x1, .int 2, .int 0]) (rest := []) (L' := [some (.ref 239), some (.int x0), some (.int x1), some (.int x2)]) (f := fun v23 m22 => some (v23, m22)) rfl (mz_fe (e := (83, .invokevirtual 360, 210, (228, 5, 18), [])) (by decide +kernel)) rfl (mz_inv_virt (N := 228) (k := 5) (t := 18) (st := [.int 0, .int 2, .int x1, .int x0, .ref 239]) (rest := []) (b := 239) (vs := [.int x0, .int x1, .int 2, .int 0]) (h := (mz_S0, m9)) rfl rfl (Nat.le_of_ble_eq_true rfl) (Nat.le_of_ble_eq_true rfl) tg_239 (by decide)) (mz_dc_lt (n := 5) rfl (by decide +kernel) (by decide +kernel)) (by decide +kernel) (Or.inl (by decide +kernel)) (fun v23 m22 => ?_)
        exact q_retI (mz_fe (e := (86, .ireturn, 1, (0, 0, 0), [])) (by decide +kernel)) (by decide +kernel)
      refine mz_ite (P := x2 = 3) (fun c25 => ?_) (fun c25 => ?_)
      · refine q_sw (t := 87) (st := []) (mz_fe (e := (26, .tableswitch 70 0 3 #[30, 45, 52, 61], 30, (0, 0, 0), [])) (by decide +kernel)) rfl (by rw [c25]; decide +kernel) ?_
        refine q_o (mz_fe (e := (87, .aload_n 0, 1, (0, 0, 0), [])) (by decide +kernel)) (pc2 := 88) rfl ?_
        refine q_o (mz_fe (e := (88, .iload_n 1, 1, (0, 0, 0), [])) (by decide +kernel)) (pc2 := 89) rfl ?_
        refine q_o (mz_fe (e := (89, .iload_n 2, 1, (0, 0, 0), [])) (by decide +kernel)) (pc2 := 90) rfl ?_
        refine q_ic (v := 3) (mz_fe (e := (90, .iconst 3, 1, (0, 0, 0), [])) (by decide +kernel)) (by decide) ?_
        refine q_ic (v := 1) (mz_fe (e := (91, .iconst 1, 1, (0, 0, 0), [])) (by decide +kernel)) (by decide) ?_
        refine q_callI (N := 228) (vs := [.ref 239, .int x0, .int x1, .int 3, .int 1]) (rest := []) (L' := [some (.ref 239), some (.int x0), some (.int x1), some (.int x2)]) (f := fun v27 m26 => some (v27, m26)) rfl (mz_fe (e := (92, .invokevirtual 360, 210, (228, 5, 18), [])) (by decide +kernel)) rfl (mz_inv_virt (N := 228) (k := 5) (t := 18) (st := [.int 1, .int 3, .int x1, .int x0, .ref 239]) (rest := []) (b := 239) (vs := [.int x0, .int x1, .int 3, .int 1]) (h := (mz_S0, m9)) rfl rfl (Nat.le_of_ble_eq_true rfl) (Nat.le_of_ble_eq_true rfl) tg_239 (by decide)) (mz_dc_lt (n := 5) rfl (by decide +kernel) (by decide +kernel)) (by decide +kernel) (Or.inl (by decide +kernel)) (fun v27 m26 => ?_)
        exact q_retI (mz_fe (e := (95, .ireturn, 1, (0, 0, 0), [])) (by decide +kernel)) (by decide +kernel)
      refine q_sw (t := 96) (st := []) (mz_fe (e := (26, .tableswitch 70 0 3 #[30, 45, 52, 61], 30, (0, 0, 0), [])) (by decide +kernel)) rfl (mz_swd [0, 1, 2, 3] (by decide +kernel) (List.forall_mem_cons.mpr ⟨c12, (List.forall_mem_cons.mpr ⟨c17, (List.forall_mem_cons.mpr ⟨c21, (List.forall_mem_cons.mpr ⟨c25, (fun _ z => absurd z List.not_mem_nil)⟩)⟩)⟩)⟩)) ?_
      refine q_o (mz_fe (e := (96, .aload_n 0, 1, (0, 0, 0), [])) (by decide +kernel)) (pc2 := 97) rfl ?_
      refine q_o (mz_fe (e := (97, .iload_n 1, 1, (0, 0, 0), [])) (by decide +kernel)) (pc2 := 98) rfl ?_
      refine q_o (mz_fe (e := (98, .iload_n 2, 1, (0, 0, 0), [])) (by decide +kernel)) (pc2 := 99) rfl ?_
      refine q_o (mz_fe (e := (99, .iload_n 3, 1, (0, 0, 0), [])) (by decide +kernel)) (pc2 := 100) rfl ?_
      refine q_ic (v := 4) (mz_fe (e := (100, .iconst 4, 1, (0, 0, 0), [])) (by decide +kernel)) (by decide) ?_
      refine q_o (mz_fe (e := (101, .isub, 1, (0, 0, 0), [])) (by decide +kernel)) (pc2 := 102) rfl ?_
      refine q_callI (N := 230) (vs := [.ref 239, .int x0, .int x1, .int (x2 - 4)]) (rest := []) (L' := [some (.ref 239), some (.int x0), some (.int x1), some (.int x2)]) (f := fun v30 m29 => some (v30, m29)) rfl (mz_fe (e := (102, .invokevirtual 364, 211, (230, 4, 18), [])) (by decide +kernel)) rfl (mz_inv_virt (N := 230) (k := 4) (t := 18) (st := [.int (x2 - 4), .int x1, .int x0, .ref 239]) (rest := []) (b := 239) (vs := [.int x0, .int x1, .int (x2 - 4)]) (h := (mz_S0, m9)) rfl rfl (Nat.le_of_ble_eq_true rfl) (Nat.le_of_ble_eq_true rfl) tg_239 (by decide)) (mz_dc_lt (n := 4) rfl (by decide +kernel) (by decide +kernel)) (by decide +kernel) (Or.inl (by decide +kernel)) (fun v30 m29 => ?_)
      exact q_retI (mz_fe (e := (105, .ireturn, 1, (0, 0, 0), [])) (by decide +kernel)) (by decide +kernel)
    · refine q_ic (v := (-1)) (mz_fe (e := (19, .iconst (-1), 1, (0, 0, 0), [])) (by decide +kernel)) (by decide) ?_
      exact q_retI (mz_fe (e := (20, .ireturn, 1, (0, 0, 0), [])) (by decide +kernel)) (by decide +kernel)
set_option maxRecDepth 10000 in
theorem R_X12_put_eq (d : Nat) (x0 : Int32) (x1 : Int32) (m : MzM)  : R_X12_put d x0 x1 m = (R_X12_areTwo d x0 x1 m).bind (fun u3 => if ¬ u3.1 = 0 then ((R_X12_copies d  u3.2).bind (fun m5 => (R_X12_turnsBoth d x0 x1 m5).bind (fun m8 => (R_X12_records d  m8).bind (fun m11 => some ((mz_rd m11 270 36), m11))))) else (some ((-1), u3.2))) := by
  show mz_cI (mz_T d 242 0 (mz_en (mz_xl 242) [.ref 239, .int x0, .int x1]) [] m) = _
  rw [show mz_en (mz_xl 242) [.ref 239, .int x0, .int x1] = [some (.ref 239), some (.int x0), some (.int x1)] from by rw [show mz_xl 242 = 3 from by decide +kernel]; rfl]
  refine q_o (mz_fe (e := (0, .aload_n 0, 1, (0, 0, 0), [])) (by decide +kernel)) (pc2 := 1) rfl ?_
  refine q_o (mz_fe (e := (1, .iload_n 1, 1, (0, 0, 0), [])) (by decide +kernel)) (pc2 := 2) rfl ?_
  refine q_o (mz_fe (e := (2, .iload_n 2, 1, (0, 0, 0), [])) (by decide +kernel)) (pc2 := 3) rfl ?_
  refine q_callI (N := 213) (vs := [.ref 239, .int x0, .int x1]) (rest := []) (L' := [some (.ref 239), some (.int x0), some (.int x1)]) (f := fun v2 m1 => if ¬ v2 = 0 then ((R_X12_copies d  m1).bind (fun m5 => (R_X12_turnsBoth d x0 x1 m5).bind (fun m8 => (R_X12_records d  m8).bind (fun m11 => some ((mz_rd m11 270 36), m11))))) else (some ((-1), m1))) rfl (mz_fe (e := (3, .invokevirtual 390, 219, (213, 3, 18), [])) (by decide +kernel)) rfl (mz_inv_virt (N := 213) (k := 3) (t := 18) (st := [.int x1, .int x0, .ref 239]) (rest := []) (b := 239) (vs := [.int x0, .int x1]) (h := (mz_S0, m)) rfl rfl (Nat.le_of_ble_eq_true rfl) (Nat.le_of_ble_eq_true rfl) tg_239 (by decide)) (mz_dc_lt (n := 3) rfl (by decide +kernel) (by decide +kernel)) (by decide +kernel) (Or.inr (by decide +kernel)) (fun v2 m1 => ?_)
  refine q_if (c := .ne) (off := 5) (t := 11) (x := v2) (y := 0) (st := []) (mz_fe (e := (6, .ifCond .ne 5, 3, (0, 0, 0), [])) (by decide +kernel)) (fun _ => rfl) rfl rfl rfl (fun c4 => ?_) (fun c4 => ?_)
  · refine q_o (mz_fe (e := (11, .aload_n 0, 1, (0, 0, 0), [])) (by decide +kernel)) (pc2 := 12) rfl ?_
    refine q_callV (N := 217) (vs := [.ref 239]) (rest := []) (L' := [some (.ref 239), some (.int x0), some (.int x1)]) rfl (mz_fe (e := (12, .invokevirtual 323, 198, (217, 1, 18), [])) (by decide +kernel)) rfl (mz_inv_virt (N := 217) (k := 1) (t := 18) (st := [.ref 239]) (rest := []) (b := 239) (vs := []) (h := (mz_S0, m1)) rfl rfl (Nat.le_of_ble_eq_true rfl) (Nat.le_of_ble_eq_true rfl) tg_239 (by decide)) (mz_dc_lt (n := 1) rfl (by decide +kernel) (by decide +kernel)) (by decide +kernel) (by decide +kernel) (fun m5 => ?_)
    refine q_o (mz_fe (e := (15, .aload_n 0, 1, (0, 0, 0), [])) (by decide +kernel)) (pc2 := 16) rfl ?_
    refine q_o (mz_fe (e := (16, .iload_n 1, 1, (0, 0, 0), [])) (by decide +kernel)) (pc2 := 17) rfl ?_
    refine q_o (mz_fe (e := (17, .iload_n 2, 1, (0, 0, 0), [])) (by decide +kernel)) (pc2 := 18) rfl ?_
    refine q_callV (N := 231) (vs := [.ref 239, .int x0, .int x1]) (rest := []) (L' := [some (.ref 239), some (.int x0), some (.int x1)]) rfl (mz_fe (e := (18, .invokevirtual 374, 214, (231, 3, 18), [])) (by decide +kernel)) rfl (mz_inv_virt (N := 231) (k := 3) (t := 18) (st := [.int x1, .int x0, .ref 239]) (rest := []) (b := 239) (vs := [.int x0, .int x1]) (h := (mz_S0, m5)) rfl rfl (Nat.le_of_ble_eq_true rfl) (Nat.le_of_ble_eq_true rfl) tg_239 (by decide)) (mz_dc_lt (n := 3) rfl (by decide +kernel) (by decide +kernel)) (by decide +kernel) (by decide +kernel) (fun m8 => ?_)
    refine q_o (mz_fe (e := (21, .aload_n 0, 1, (0, 0, 0), [])) (by decide +kernel)) (pc2 := 22) rfl ?_
    refine q_callV (N := 241) (vs := [.ref 239]) (rest := []) (L' := [some (.ref 239), some (.int x0), some (.int x1)]) rfl (mz_fe (e := (22, .invokevirtual 393, 220, (241, 1, 18), [])) (by decide +kernel)) rfl (mz_inv_virt (N := 241) (k := 1) (t := 18) (st := [.ref 239]) (rest := []) (b := 239) (vs := []) (h := (mz_S0, m8)) rfl rfl (Nat.le_of_ble_eq_true rfl) (Nat.le_of_ble_eq_true rfl) tg_239 (by decide)) (mz_dc_lt (n := 1) rfl (by decide +kernel) (by decide +kernel)) (by decide +kernel) (by decide +kernel) (fun m11 => ?_)
    refine q_o (mz_fe (e := (25, .aload_n 0, 1, (0, 0, 0), [])) (by decide +kernel)) (pc2 := 26) rfl ?_
    refine q_getR (b := 270) (mz_fe (e := (26, .getfield 110, 148, (12, 47, 2), [])) (by decide +kernel)) rfl tg_239 (by rw [ln_239]; decide) (mz_rfS (by decide +kernel)) ?_
    refine q_bi (v := 36) (mz_fe (e := (29, .bipush 36, 2, (0, 0, 0), [])) (by decide +kernel)) (by decide) ?_
    refine q_iald (j := 36) (mz_fe (e := (31, .iaload, 1, (0, 0, 0), [])) (by decide +kernel)) rfl (by decide) tg_270 ln_270 (by decide) (by decide) ?_
    exact q_retI (mz_fe (e := (32, .ireturn, 1, (0, 0, 0), [])) (by decide +kernel)) (by decide +kernel)
  · refine q_ic (v := (-1)) (mz_fe (e := (9, .iconst (-1), 1, (0, 0, 0), [])) (by decide +kernel)) (by decide) ?_
    exact q_retI (mz_fe (e := (10, .ireturn, 1, (0, 0, 0), [])) (by decide +kernel)) (by decide +kernel)
set_option maxRecDepth 10000 in
theorem R_X12_plate_eq (d : Nat) (x0 : Int32) (m : MzM)  : R_X12_plate d x0 m = (R_X12_in d x0 1 9 m).bind (fun u3 => if u3.1 = 0 then (some (0, u3.2)) else (if ¬ (mz_rd u3.2 270 34) = x0 then ((R_X12_copies d  u3.2).bind (fun m6 => (R_X12_records d  (mz_wr (mz_wr m6 271 34 x0) 271 35 0)).bind (fun m9 => some (1, m9)))) else (if ¬ (mz_rd u3.2 270 35) = 0 then ((R_X12_copies d  u3.2).bind (fun m13 => (R_X12_records d  (mz_wr (mz_wr m13 271 34 x0) 271 35 0)).bind (fun m16 => some (1, m16)))) else (some (0, u3.2))))) := by
  show mz_cI (mz_T d 244 0 (mz_en (mz_xl 244) [.ref 239, .int x0]) [] m) = _
  rw [show mz_en (mz_xl 244) [.ref 239, .int x0] = [some (.ref 239), some (.int x0)] from by rw [show mz_xl 244 = 2 from by decide +kernel]; rfl]
  refine q_o (mz_fe (e := (0, .iload_n 1, 1, (0, 0, 0), [])) (by decide +kernel)) (pc2 := 1) rfl ?_
  refine q_ic (v := 1) (mz_fe (e := (1, .iconst 1, 1, (0, 0, 0), [])) (by decide +kernel)) (by decide) ?_
  refine q_bi (v := 9) (mz_fe (e := (2, .bipush 9, 2, (0, 0, 0), [])) (by decide +kernel)) (by decide) ?_
  refine q_callI (N := 208) (vs := [.int x0, .int 1, .int 9]) (rest := []) (L' := [some (.ref 239), some (.int x0)]) (f := fun v2 m1 => if v2 = 0 then (some (0, m1)) else (if ¬ (mz_rd m1 270 34) = x0 then ((R_X12_copies d  m1).bind (fun m6 => (R_X12_records d  (mz_wr (mz_wr m6 271 34 x0) 271 35 0)).bind (fun m9 => some (1, m9)))) else (if ¬ (mz_rd m1 270 35) = 0 then ((R_X12_copies d  m1).bind (fun m13 => (R_X12_records d  (mz_wr (mz_wr m13 271 34 x0) 271 35 0)).bind (fun m16 => some (1, m16)))) else (some (0, m1))))) rfl (mz_fe (e := (4, .invokestatic 310, 196, (208, 3, 1000), [])) (by decide +kernel)) rfl (mz_inv_stat (N := 208) (k := 3) (st := [.int 9, .int 1, .int x0]) (rest := []) (vs := [.int x0, .int 1, .int 9]) (h := (mz_S0, m)) rfl rfl (Nat.le_of_ble_eq_true rfl) (Nat.le_of_ble_eq_true rfl)) (mz_dc_lt (n := 3) rfl (by decide +kernel) (by decide +kernel)) (by decide +kernel) (Or.inr (by decide +kernel)) (fun v2 m1 => ?_)
  refine q_if (c := .eq) (off := 24) (t := 31) (x := v2) (y := 0) (st := []) (mz_fe (e := (7, .ifCond .eq 24, 3, (0, 0, 0), [])) (by decide +kernel)) (fun _ => rfl) rfl rfl rfl (fun c4 => ?_) (fun c4 => ?_)
  · refine q_ic (v := 0) (mz_fe (e := (31, .iconst 0, 1, (0, 0, 0), [])) (by decide +kernel)) (by decide) ?_
    exact q_retZ (mz_fe (e := (32, .ireturn, 1, (0, 0, 0), [])) (by decide +kernel)) (by decide +kernel) (by decide)
  · refine q_o (mz_fe (e := (10, .aload_n 0, 1, (0, 0, 0), [])) (by decide +kernel)) (pc2 := 11) rfl ?_
    refine q_getR (b := 270) (mz_fe (e := (11, .getfield 110, 148, (12, 47, 2), [])) (by decide +kernel)) rfl tg_239 (by rw [ln_239]; decide) (mz_rfS (by decide +kernel)) ?_
    refine q_bi (v := 34) (mz_fe (e := (14, .bipush 34, 2, (0, 0, 0), [])) (by decide +kernel)) (by decide) ?_
    refine q_iald (j := 34) (mz_fe (e := (16, .iaload, 1, (0, 0, 0), [])) (by decide +kernel)) rfl (by decide) tg_270 ln_270 (by decide) (by decide) ?_
    refine q_o (mz_fe (e := (17, .iload_n 1, 1, (0, 0, 0), [])) (by decide +kernel)) (pc2 := 18) rfl ?_
    refine q_if (c := .ne) (off := 15) (t := 33) (x := (mz_rd m1 270 34)) (y := x0) (st := []) (mz_fe (e := (18, .if_icmp .ne 15, 3, (0, 0, 0), [])) (by decide +kernel)) (fun _ => rfl) rfl rfl rfl (fun c5 => ?_) (fun c5 => ?_)
    · refine q_o (mz_fe (e := (33, .aload_n 0, 1, (0, 0, 0), [])) (by decide +kernel)) (pc2 := 34) rfl ?_
      refine q_callV (N := 217) (vs := [.ref 239]) (rest := []) (L' := [some (.ref 239), some (.int x0)]) rfl (mz_fe (e := (34, .invokevirtual 323, 198, (217, 1, 18), [])) (by decide +kernel)) rfl (mz_inv_virt (N := 217) (k := 1) (t := 18) (st := [.ref 239]) (rest := []) (b := 239) (vs := []) (h := (mz_S0, m1)) rfl rfl (Nat.le_of_ble_eq_true rfl) (Nat.le_of_ble_eq_true rfl) tg_239 (by decide)) (mz_dc_lt (n := 1) rfl (by decide +kernel) (by decide +kernel)) (by decide +kernel) (by decide +kernel) (fun m6 => ?_)
      refine q_o (mz_fe (e := (37, .aload_n 0, 1, (0, 0, 0), [])) (by decide +kernel)) (pc2 := 38) rfl ?_
      refine q_getR (b := 271) (mz_fe (e := (38, .getfield 113, 149, (12, 48, 2), [])) (by decide +kernel)) rfl tg_239 (by rw [ln_239]; decide) (mz_rfS (by decide +kernel)) ?_
      refine q_bi (v := 34) (mz_fe (e := (41, .bipush 34, 2, (0, 0, 0), [])) (by decide +kernel)) (by decide) ?_
      refine q_o (mz_fe (e := (43, .iload_n 1, 1, (0, 0, 0), [])) (by decide +kernel)) (pc2 := 44) rfl ?_
      refine q_stA (f := (fun x => x)) (mz_fe (e := (44, .iastore, 1, (0, 0, 0), [])) (by decide +kernel)) (fun _ => rfl) rfl tg_271 ln_271 (by decide) (j := 34) (by decide) ?_
      refine q_o (mz_fe (e := (45, .aload_n 0, 1, (0, 0, 0), [])) (by decide +kernel)) (pc2 := 46) rfl ?_
      refine q_getR (b := 271) (mz_fe (e := (46, .getfield 113, 149, (12, 48, 2), [])) (by decide +kernel)) rfl tg_239 (by rw [ln_239]; decide) (mz_rfS (by decide +kernel)) ?_
      refine q_bi (v := 35) (mz_fe (e := (49, .bipush 35, 2, (0, 0, 0), [])) (by decide +kernel)) (by decide) ?_
      refine q_ic (v := 0) (mz_fe (e := (51, .iconst 0, 1, (0, 0, 0), [])) (by decide +kernel)) (by decide) ?_
      refine q_stA (f := (fun x => x)) (mz_fe (e := (52, .iastore, 1, (0, 0, 0), [])) (by decide +kernel)) (fun _ => rfl) rfl tg_271 ln_271 (by decide) (j := 35) (by decide) ?_
      refine q_o (mz_fe (e := (53, .aload_n 0, 1, (0, 0, 0), [])) (by decide +kernel)) (pc2 := 54) rfl ?_
      refine q_callV (N := 241) (vs := [.ref 239]) (rest := []) (L' := [some (.ref 239), some (.int x0)]) rfl (mz_fe (e := (54, .invokevirtual 393, 220, (241, 1, 18), [])) (by decide +kernel)) rfl (mz_inv_virt (N := 241) (k := 1) (t := 18) (st := [.ref 239]) (rest := []) (b := 239) (vs := []) (h := (mz_S0, (mz_wr (mz_wr m6 271 34 x0) 271 35 0))) rfl rfl (Nat.le_of_ble_eq_true rfl) (Nat.le_of_ble_eq_true rfl) tg_239 (by decide)) (mz_dc_lt (n := 1) rfl (by decide +kernel) (by decide +kernel)) (by decide +kernel) (by decide +kernel) (fun m9 => ?_)
      refine q_ic (v := 1) (mz_fe (e := (57, .iconst 1, 1, (0, 0, 0), [])) (by decide +kernel)) (by decide) ?_
      exact q_retZ (mz_fe (e := (58, .ireturn, 1, (0, 0, 0), [])) (by decide +kernel)) (by decide +kernel) (by decide)
    · refine q_o (mz_fe (e := (21, .aload_n 0, 1, (0, 0, 0), [])) (by decide +kernel)) (pc2 := 22) rfl ?_
      refine q_getR (b := 270) (mz_fe (e := (22, .getfield 110, 148, (12, 47, 2), [])) (by decide +kernel)) rfl tg_239 (by rw [ln_239]; decide) (mz_rfS (by decide +kernel)) ?_
      refine q_bi (v := 35) (mz_fe (e := (25, .bipush 35, 2, (0, 0, 0), [])) (by decide +kernel)) (by decide) ?_
      refine q_iald (j := 35) (mz_fe (e := (27, .iaload, 1, (0, 0, 0), [])) (by decide +kernel)) rfl (by decide) tg_270 ln_270 (by decide) (by decide) ?_
      refine q_if (c := .ne) (off := 5) (t := 33) (x := (mz_rd m1 270 35)) (y := 0) (st := []) (mz_fe (e := (28, .ifCond .ne 5, 3, (0, 0, 0), [])) (by decide +kernel)) (fun _ => rfl) rfl rfl rfl (fun c12 => ?_) (fun c12 => ?_)
      · refine q_o (mz_fe (e := (33, .aload_n 0, 1, (0, 0, 0), [])) (by decide +kernel)) (pc2 := 34) rfl ?_
        refine q_callV (N := 217) (vs := [.ref 239]) (rest := []) (L' := [some (.ref 239), some (.int x0)]) rfl (mz_fe (e := (34, .invokevirtual 323, 198, (217, 1, 18), [])) (by decide +kernel)) rfl (mz_inv_virt (N := 217) (k := 1) (t := 18) (st := [.ref 239]) (rest := []) (b := 239) (vs := []) (h := (mz_S0, m1)) rfl rfl (Nat.le_of_ble_eq_true rfl) (Nat.le_of_ble_eq_true rfl) tg_239 (by decide)) (mz_dc_lt (n := 1) rfl (by decide +kernel) (by decide +kernel)) (by decide +kernel) (by decide +kernel) (fun m13 => ?_)
        refine q_o (mz_fe (e := (37, .aload_n 0, 1, (0, 0, 0), [])) (by decide +kernel)) (pc2 := 38) rfl ?_
        refine q_getR (b := 271) (mz_fe (e := (38, .getfield 113, 149, (12, 48, 2), [])) (by decide +kernel)) rfl tg_239 (by rw [ln_239]; decide) (mz_rfS (by decide +kernel)) ?_
        refine q_bi (v := 34) (mz_fe (e := (41, .bipush 34, 2, (0, 0, 0), [])) (by decide +kernel)) (by decide) ?_
        refine q_o (mz_fe (e := (43, .iload_n 1, 1, (0, 0, 0), [])) (by decide +kernel)) (pc2 := 44) rfl ?_
        refine q_stA (f := (fun x => x)) (mz_fe (e := (44, .iastore, 1, (0, 0, 0), [])) (by decide +kernel)) (fun _ => rfl) rfl tg_271 ln_271 (by decide) (j := 34) (by decide) ?_
        refine q_o (mz_fe (e := (45, .aload_n 0, 1, (0, 0, 0), [])) (by decide +kernel)) (pc2 := 46) rfl ?_
        refine q_getR (b := 271) (mz_fe (e := (46, .getfield 113, 149, (12, 48, 2), [])) (by decide +kernel)) rfl tg_239 (by rw [ln_239]; decide) (mz_rfS (by decide +kernel)) ?_
        refine q_bi (v := 35) (mz_fe (e := (49, .bipush 35, 2, (0, 0, 0), [])) (by decide +kernel)) (by decide) ?_
        refine q_ic (v := 0) (mz_fe (e := (51, .iconst 0, 1, (0, 0, 0), [])) (by decide +kernel)) (by decide) ?_
        refine q_stA (f := (fun x => x)) (mz_fe (e := (52, .iastore, 1, (0, 0, 0), [])) (by decide +kernel)) (fun _ => rfl) rfl tg_271 ln_271 (by decide) (j := 35) (by decide) ?_
        refine q_o (mz_fe (e := (53, .aload_n 0, 1, (0, 0, 0), [])) (by decide +kernel)) (pc2 := 54) rfl ?_
        refine q_callV (N := 241) (vs := [.ref 239]) (rest := []) (L' := [some (.ref 239), some (.int x0)]) rfl (mz_fe (e := (54, .invokevirtual 393, 220, (241, 1, 18), [])) (by decide +kernel)) rfl (mz_inv_virt (N := 241) (k := 1) (t := 18) (st := [.ref 239]) (rest := []) (b := 239) (vs := []) (h := (mz_S0, (mz_wr (mz_wr m13 271 34 x0) 271 35 0))) rfl rfl (Nat.le_of_ble_eq_true rfl) (Nat.le_of_ble_eq_true rfl) tg_239 (by decide)) (mz_dc_lt (n := 1) rfl (by decide +kernel) (by decide +kernel)) (by decide +kernel) (by decide +kernel) (fun m16 => ?_)
        refine q_ic (v := 1) (mz_fe (e := (57, .iconst 1, 1, (0, 0, 0), [])) (by decide +kernel)) (by decide) ?_
        exact q_retZ (mz_fe (e := (58, .ireturn, 1, (0, 0, 0), [])) (by decide +kernel)) (by decide +kernel) (by decide)
      · refine q_ic (v := 0) (mz_fe (e := (31, .iconst 0, 1, (0, 0, 0), [])) (by decide +kernel)) (by decide) ?_
        exact q_retZ (mz_fe (e := (32, .ireturn, 1, (0, 0, 0), [])) (by decide +kernel)) (by decide +kernel) (by decide)
set_option maxRecDepth 10000 in
theorem R_X12_isLong_eq (d : Nat) (x0 : Int32) (m : MzM)  : R_X12_isLong d x0 m = (R_X12_in d x0 0 60 m).bind (fun u3 => mz_g (decide (u3.1 = 0 ∨ u3.1 = 1)) (some (u3.1, u3.2))) := by
  show mz_cI (mz_T d 246 0 (mz_en (mz_xl 246) [.int x0]) [] m) = _
  rw [show mz_en (mz_xl 246) [.int x0] = [some (.int x0)] from by rw [show mz_xl 246 = 1 from by decide +kernel]; rfl]
  refine q_o (mz_fe (e := (0, .iload_n 0, 1, (0, 0, 0), [])) (by decide +kernel)) (pc2 := 1) rfl ?_
  refine q_ic (v := 0) (mz_fe (e := (1, .iconst 0, 1, (0, 0, 0), [])) (by decide +kernel)) (by decide) ?_
  refine q_bi (v := 60) (mz_fe (e := (2, .bipush 60, 2, (0, 0, 0), [])) (by decide +kernel)) (by decide) ?_
  refine q_callI (N := 208) (vs := [.int x0, .int 0, .int 60]) (rest := []) (L' := [some (.int x0)]) (f := fun v2 m1 => mz_g (decide (v2 = 0 ∨ v2 = 1)) (some (v2, m1))) rfl (mz_fe (e := (4, .invokestatic 310, 196, (208, 3, 1000), [])) (by decide +kernel)) rfl (mz_inv_stat (N := 208) (k := 3) (st := [.int 60, .int 0, .int x0]) (rest := []) (vs := [.int x0, .int 0, .int 60]) (h := (mz_S0, m)) rfl rfl (Nat.le_of_ble_eq_true rfl) (Nat.le_of_ble_eq_true rfl)) (mz_dc_lt (n := 3) rfl (by decide +kernel) (by decide +kernel)) (by decide +kernel) (Or.inr (by decide +kernel)) (fun v2 m1 => ?_)
  exact q_retZg (mz_fe (e := (7, .ireturn, 1, (0, 0, 0), [])) (by decide +kernel)) (by decide +kernel)
set_option maxRecDepth 10000 in
theorem R_X12_undo_eq (d : Nat)  (m : MzM)  : R_X12_undo d  m = if ¬ (mz_rd m 239 52) = 0 then (H_X12_undo_21 d 0 (mz_wr m 239 52 ((mz_rd m 239 52) - 1))) else (some (0, m)) := by
  show mz_cI (mz_T d 248 0 (mz_en (mz_xl 248) [.ref 239]) [] m) = _
  rw [show mz_en (mz_xl 248) [.ref 239] = [some (.ref 239), none] from by rw [show mz_xl 248 = 2 from by decide +kernel]; rfl]
  refine q_o (mz_fe (e := (0, .aload_n 0, 1, (0, 0, 0), [])) (by decide +kernel)) (pc2 := 1) rfl ?_
  refine q_getI (mz_fe (e := (1, .getfield 248, 175, (12, 52, 0), [])) (by decide +kernel)) rfl (by decide) tg_239 (by rw [ln_239]; decide) ?_
  refine q_if (c := .ne) (off := 5) (t := 9) (x := (mz_rd m 239 52)) (y := 0) (st := []) (mz_fe (e := (4, .ifCond .ne 5, 3, (0, 0, 0), [])) (by decide +kernel)) (fun _ => rfl) rfl rfl rfl (fun c1 => ?_) (fun c1 => ?_)
  · refine q_o (mz_fe (e := (9, .aload_n 0, 1, (0, 0, 0), [])) (by decide +kernel)) (pc2 := 10) rfl ?_
    refine q_o (mz_fe (e := (10, .dup, 1, (0, 0, 0), [])) (by decide +kernel)) (pc2 := 11) rfl ?_
    refine q_getI (mz_fe (e := (11, .getfield 248, 175, (12, 52, 0), [])) (by decide +kernel)) rfl (by decide) tg_239 (by rw [ln_239]; decide) ?_
    refine q_ic (v := 1) (mz_fe (e := (14, .iconst 1, 1, (0, 0, 0), [])) (by decide +kernel)) (by decide) ?_
    refine q_o (mz_fe (e := (15, .isub, 1, (0, 0, 0), [])) (by decide +kernel)) (pc2 := 16) rfl ?_
    refine q_putI (mz_fe (e := (16, .putfield 248, 175, (12, 52, 0), [])) (by decide +kernel)) rfl tg_239 (by rw [ln_239]; decide) ?_
    refine q_ic (v := 0) (mz_fe (e := (19, .iconst 0, 1, (0, 0, 0), [])) (by decide +kernel)) (by decide) ?_
    refine q_s (mz_fe (e := (20, .istore_n 1, 1, (0, 0, 0), [])) (by decide +kernel)) (pc' := 21) (L' := [some (.ref 239), some (.int 0)]) (st' := []) rfl ?_
    exact congrArg mz_cI (mz_At_msk (L := [some (.ref 239), some (.int 0)]) (L2 := [some (.ref 239), some (.int 0)]) (mz_fe (e := (21, .iload_n 1, 1, (0, 0, 0), [true, true])) (by decide +kernel)) rfl rfl)
  · refine q_ic (v := 0) (mz_fe (e := (7, .iconst 0, 1, (0, 0, 0), [])) (by decide +kernel)) (by decide) ?_
    exact q_retZ (mz_fe (e := (8, .ireturn, 1, (0, 0, 0), [])) (by decide +kernel)) (by decide +kernel) (by decide)
set_option maxRecDepth 10000 in
theorem H_X12_undo_21_eq (d : Nat) (y1 : Int32) (m : MzM)  : H_X12_undo_21 d y1 m = if (39 : Int32) ≤ y1 then (some (1, m)) else (mz_g (mz_ok (((39 : Int32) * (mz_rd m 239 52)) + y1) 1560) (mz_g (mz_ok y1 39) (H_X12_undo_21 d (y1 + 1) (mz_wr m 270 (y1 : Int32).toNatClampNeg (mz_rd m 273 ((((39 : Int32) * (mz_rd m 239 52)) + y1) : Int32).toNatClampNeg))))) := by
  show mz_cI (mz_T d 248 21 [some (.ref 239), some (.int y1)] [] m) = _
  refine q_s (mz_fe (e := (21, .iload_n 1, 1, (0, 0, 0), [true, true])) (by decide +kernel)) (pc' := 22) (L' := [some (.ref 239), some (.int y1)]) (st' := [.int y1]) rfl ?_
  refine q_bi (v := 39) (mz_fe (e := (22, .bipush 39, 2, (0, 0, 0), [])) (by decide +kernel)) (by decide) ?_
  refine q_if (c := .ge) (off := 29) (t := 53) (x := y1) (y := 39) (st := []) (mz_fe (e := (24, .if_icmp .ge 29, 3, (0, 0, 0), [])) (by decide +kernel)) (fun _ => rfl) rfl rfl rfl (fun c2 => ?_) (fun c2 => ?_)
  · refine q_ic (v := 1) (mz_fe (e := (53, .iconst 1, 1, (0, 0, 0), [])) (by decide +kernel)) (by decide) ?_
    exact q_retZ (mz_fe (e := (54, .ireturn, 1, (0, 0, 0), [])) (by decide +kernel)) (by decide +kernel) (by decide)
  · refine q_o (mz_fe (e := (27, .aload_n 0, 1, (0, 0, 0), [])) (by decide +kernel)) (pc2 := 28) rfl ?_
    refine q_getR (b := 270) (mz_fe (e := (28, .getfield 110, 148, (12, 47, 2), [])) (by decide +kernel)) rfl tg_239 (by rw [ln_239]; decide) (mz_rfS (by decide +kernel)) ?_
    refine q_o (mz_fe (e := (31, .iload_n 1, 1, (0, 0, 0), [])) (by decide +kernel)) (pc2 := 32) rfl ?_
    refine q_o (mz_fe (e := (32, .aload_n 0, 1, (0, 0, 0), [])) (by decide +kernel)) (pc2 := 33) rfl ?_
    refine q_getR (b := 273) (mz_fe (e := (33, .getfield 119, 151, (12, 53, 2), [])) (by decide +kernel)) rfl tg_239 (by rw [ln_239]; decide) (mz_rfS (by decide +kernel)) ?_
    refine q_bi (v := 39) (mz_fe (e := (36, .bipush 39, 2, (0, 0, 0), [])) (by decide +kernel)) (by decide) ?_
    refine q_o (mz_fe (e := (38, .aload_n 0, 1, (0, 0, 0), [])) (by decide +kernel)) (pc2 := 39) rfl ?_
    refine q_getI (mz_fe (e := (39, .getfield 248, 175, (12, 52, 0), [])) (by decide +kernel)) rfl (by decide) tg_239 (by rw [ln_239]; decide) ?_
    refine q_o (mz_fe (e := (42, .imul, 1, (0, 0, 0), [])) (by decide +kernel)) (pc2 := 43) rfl ?_
    refine q_o (mz_fe (e := (43, .iload_n 1, 1, (0, 0, 0), [])) (by decide +kernel)) (pc2 := 44) rfl ?_
    refine q_o (mz_fe (e := (44, .iadd, 1, (0, 0, 0), [])) (by decide +kernel)) (pc2 := 45) rfl ?_
    refine q_ialdg rfl (mz_fe (e := (45, .iaload, 1, (0, 0, 0), [])) (by decide +kernel)) rfl (by decide) tg_273 ln_273 (fun g3 => ?_)
    refine q_stAg (f := (fun x => x)) rfl (mz_fe (e := (46, .iastore, 1, (0, 0, 0), [])) (by decide +kernel)) (fun _ => rfl) rfl tg_270 ln_270 (fun g4 => ?_)
    refine q_iinc (v := y1) (c := 1) (L3 := [some (.ref 239), some (.int (y1 + 1))]) (mz_fe (e := (47, .iinc 1 1, 3, (0, 0, 0), [])) (by decide +kernel)) rfl rfl (by decide) rfl ?_
    refine q_o (mz_fe (e := (50, .goto (-29), 3, (0, 0, 0), [])) (by decide +kernel)) (pc2 := 21) rfl ?_
    exact congrArg mz_cI (mz_At_msk (L := [some (.ref 239), some (.int (y1 + 1))]) (L2 := [some (.ref 239), some (.int (y1 + 1))]) (mz_fe (e := (21, .iload_n 1, 1, (0, 0, 0), [true, true])) (by decide +kernel)) rfl rfl)
set_option maxRecDepth 10000 in
theorem R_X12_turnsPair_eq (d : Nat) (x0 : Int32) (m : MzM)  : R_X12_turnsPair d x0 m = (R_X12_turnsBoth d (x0 / 10) (x0 - x0 / 10 * 10) m).bind (fun m1 => some m1) := by
  show mz_cV (mz_T d 250 0 (mz_en (mz_xl 250) [.ref 239, .int x0]) [] m) = _
  rw [show mz_en (mz_xl 250) [.ref 239, .int x0] = [some (.ref 239), some (.int x0)] from by rw [show mz_xl 250 = 2 from by decide +kernel]; rfl]
  refine q_o (mz_fe (e := (0, .aload_n 0, 1, (0, 0, 0), [])) (by decide +kernel)) (pc2 := 1) rfl ?_
  refine q_o (mz_fe (e := (1, .iload_n 1, 1, (0, 0, 0), [])) (by decide +kernel)) (pc2 := 2) rfl ?_
  refine q_bi (v := 10) (mz_fe (e := (2, .bipush 10, 2, (0, 0, 0), [])) (by decide +kernel)) (by decide) ?_
  refine q_o (mz_fe (e := (4, .idiv, 1, (0, 0, 0), [])) (by decide +kernel)) (pc2 := 5) rfl ?_
  refine q_o (mz_fe (e := (5, .iload_n 1, 1, (0, 0, 0), [])) (by decide +kernel)) (pc2 := 6) rfl ?_
  refine q_bi (v := 10) (mz_fe (e := (6, .bipush 10, 2, (0, 0, 0), [])) (by decide +kernel)) (by decide) ?_
  refine q_o (mz_fe (e := (8, .irem, 1, (0, 0, 0), [])) (by decide +kernel)) (pc2 := 9) rfl ?_
  refine q_callV (N := 231) (vs := [.ref 239, .int (x0 / 10), .int (x0 - x0 / 10 * 10)]) (rest := []) (L' := [some (.ref 239), some (.int x0)]) rfl (mz_fe (e := (9, .invokevirtual 374, 214, (231, 3, 18), [])) (by decide +kernel)) rfl (mz_inv_virt (N := 231) (k := 3) (t := 18) (st := [.int (x0 - x0 / 10 * 10), .int (x0 / 10), .ref 239]) (rest := []) (b := 239) (vs := [.int (x0 / 10), .int (x0 - x0 / 10 * 10)]) (h := (mz_S0, m)) rfl rfl (Nat.le_of_ble_eq_true rfl) (Nat.le_of_ble_eq_true rfl) tg_239 (by decide)) (mz_dc_lt (n := 3) rfl (by decide +kernel) (by decide +kernel)) (by decide +kernel) (by decide +kernel) (fun m1 => ?_)
  exact q_retV (mz_fe (e := (12, .return_, 1, (0, 0, 0), [])) (by decide +kernel)) (by decide +kernel)
set_option maxRecDepth 10000 in
theorem R_X12_power_eq (d : Nat) (x0 : Int32) (x1 : Int32) (m : MzM)  : R_X12_power d x0 x1 m = H_X12_power_4 d x0 x1 1 0 m := by
  show mz_cI (mz_T d 252 0 (mz_en (mz_xl 252) [.int x0, .int x1]) [] m) = _
  rw [show mz_en (mz_xl 252) [.int x0, .int x1] = [some (.int x0), some (.int x1), none, none] from by rw [show mz_xl 252 = 4 from by decide +kernel]; rfl]
  refine q_ic (v := 1) (mz_fe (e := (0, .iconst 1, 1, (0, 0, 0), [])) (by decide +kernel)) (by decide) ?_
  refine q_s (mz_fe (e := (1, .istore_n 2, 1, (0, 0, 0), [])) (by decide +kernel)) (pc' := 2) (L' := [some (.int x0), some (.int x1), some (.int 1), none]) (st' := []) rfl ?_
  refine q_ic (v := 0) (mz_fe (e := (2, .iconst 0, 1, (0, 0, 0), [])) (by decide +kernel)) (by decide) ?_
  refine q_s (mz_fe (e := (3, .istore_n 3, 1, (0, 0, 0), [])) (by decide +kernel)) (pc' := 4) (L' := [some (.int x0), some (.int x1), some (.int 1), some (.int 0)]) (st' := []) rfl ?_
  exact congrArg mz_cI (mz_At_msk (L := [some (.int x0), some (.int x1), some (.int 1), some (.int 0)]) (L2 := [some (.int x0), some (.int x1), some (.int 1), some (.int 0)]) (mz_fe (e := (4, .iload_n 3, 1, (0, 0, 0), [true, true, true, true])) (by decide +kernel)) rfl rfl)
set_option maxRecDepth 10000 in
theorem H_X12_power_4_eq (d : Nat) (y0 : Int32) (y1 : Int32) (y2 : Int32) (y3 : Int32) (m : MzM)  : H_X12_power_4 d y0 y1 y2 y3 m = if y1 ≤ y3 then (some (y2, m)) else (H_X12_power_4 d y0 y1 (y2 * y0) (y3 + 1) m) := by
  show mz_cI (mz_T d 252 4 [some (.int y0), some (.int y1), some (.int y2), some (.int y3)] [] m) = _
  refine q_s (mz_fe (e := (4, .iload_n 3, 1, (0, 0, 0), [true, true, true, true])) (by decide +kernel)) (pc' := 5) (L' := [some (.int y0), some (.int y1), some (.int y2), some (.int y3)]) (st' := [.int y3]) rfl ?_
  refine q_o (mz_fe (e := (5, .iload_n 1, 1, (0, 0, 0), [])) (by decide +kernel)) (pc2 := 6) rfl ?_
  refine q_if (c := .ge) (off := 13) (t := 19) (x := y3) (y := y1) (st := []) (mz_fe (e := (6, .if_icmp .ge 13, 3, (0, 0, 0), [])) (by decide +kernel)) (fun _ => rfl) rfl rfl rfl (fun c1 => ?_) (fun c1 => ?_)
  · refine q_o (mz_fe (e := (19, .iload_n 2, 1, (0, 0, 0), [])) (by decide +kernel)) (pc2 := 20) rfl ?_
    exact q_retI (mz_fe (e := (20, .ireturn, 1, (0, 0, 0), [])) (by decide +kernel)) (by decide +kernel)
  · refine q_o (mz_fe (e := (9, .iload_n 2, 1, (0, 0, 0), [])) (by decide +kernel)) (pc2 := 10) rfl ?_
    refine q_o (mz_fe (e := (10, .iload_n 0, 1, (0, 0, 0), [])) (by decide +kernel)) (pc2 := 11) rfl ?_
    refine q_o (mz_fe (e := (11, .imul, 1, (0, 0, 0), [])) (by decide +kernel)) (pc2 := 12) rfl ?_
    refine q_s (mz_fe (e := (12, .istore_n 2, 1, (0, 0, 0), [])) (by decide +kernel)) (pc' := 13) (L' := [some (.int y0), some (.int y1), some (.int (y2 * y0)), some (.int y3)]) (st' := []) rfl ?_
    refine q_iinc (v := y3) (c := 1) (L3 := [some (.int y0), some (.int y1), some (.int (y2 * y0)), some (.int (y3 + 1))]) (mz_fe (e := (13, .iinc 3 1, 3, (0, 0, 0), [])) (by decide +kernel)) rfl rfl (by decide) rfl ?_
    refine q_o (mz_fe (e := (16, .goto (-12), 3, (0, 0, 0), [])) (by decide +kernel)) (pc2 := 4) rfl ?_
    exact congrArg mz_cI (mz_At_msk (L := [some (.int y0), some (.int y1), some (.int (y2 * y0)), some (.int (y3 + 1))]) (L2 := [some (.int y0), some (.int y1), some (.int (y2 * y0)), some (.int (y3 + 1))]) (mz_fe (e := (4, .iload_n 3, 1, (0, 0, 0), [true, true, true, true])) (by decide +kernel)) rfl rfl)
set_option maxRecDepth 10000 in
theorem R_X12_doesWay_eq (d : Nat) (x0 : Int32) (x1 : Int32) (m : MzM)  : R_X12_doesWay d x0 x1 m = (R_X12_copies d  m).bind (fun m1 => H_X12_doesWay_6 d x0 x1 0 m1) := by
  show mz_cI (mz_T d 254 0 (mz_en (mz_xl 254) [.ref 239, .int x0, .int x1]) [] m) = _
  rw [show mz_en (mz_xl 254) [.ref 239, .int x0, .int x1] = [some (.ref 239), some (.int x0), some (.int x1), none] from by rw [show mz_xl 254 = 4 from by decide +kernel]; rfl]
  refine q_o (mz_fe (e := (0, .aload_n 0, 1, (0, 0, 0), [])) (by decide +kernel)) (pc2 := 1) rfl ?_
  refine q_callV (N := 217) (vs := [.ref 239]) (rest := []) (L' := [some (.ref 239), some (.int x0), some (.int x1), none]) rfl (mz_fe (e := (1, .invokevirtual 323, 198, (217, 1, 18), [])) (by decide +kernel)) rfl (mz_inv_virt (N := 217) (k := 1) (t := 18) (st := [.ref 239]) (rest := []) (b := 239) (vs := []) (h := (mz_S0, m)) rfl rfl (Nat.le_of_ble_eq_true rfl) (Nat.le_of_ble_eq_true rfl) tg_239 (by decide)) (mz_dc_lt (n := 1) rfl (by decide +kernel) (by decide +kernel)) (by decide +kernel) (by decide +kernel) (fun m1 => ?_)
  refine q_ic (v := 0) (mz_fe (e := (4, .iconst 0, 1, (0, 0, 0), [])) (by decide +kernel)) (by decide) ?_
  refine q_s (mz_fe (e := (5, .istore_n 3, 1, (0, 0, 0), [])) (by decide +kernel)) (pc' := 6) (L' := [some (.ref 239), some (.int x0), some (.int x1), some (.int 0)]) (st' := []) rfl ?_
  exact congrArg mz_cI (mz_At_msk (L := [some (.ref 239), some (.int x0), some (.int x1), some (.int 0)]) (L2 := [some (.ref 239), some (.int x0), some (.int x1), some (.int 0)]) (mz_fe (e := (6, .iload_n 3, 1, (0, 0, 0), [true, true, true, true])) (by decide +kernel)) rfl rfl)
set_option maxRecDepth 10000 in
theorem H_X12_doesWay_6_eq (d : Nat) (y1 : Int32) (y2 : Int32) (y3 : Int32) (m : MzM)  : H_X12_doesWay_6 d y1 y2 y3 m = if y2 ≤ y3 then ((R_X12_isReached d  m).bind (fun u7 => mz_g (decide (u7.1 = 0 ∨ u7.1 = 1)) (some (u7.1, u7.2)))) else ((R_X12_pairAt d y1 y2 y3 m).bind (fun u10 => (R_X12_turnsPair d u10.1 u10.2).bind (fun m11 => H_X12_doesWay_6 d y1 y2 (y3 + 1) m11))) := by
  show mz_cI (mz_T d 254 6 [some (.ref 239), some (.int y1), some (.int y2), some (.int y3)] [] m) = _
  refine q_s (mz_fe (e := (6, .iload_n 3, 1, (0, 0, 0), [true, true, true, true])) (by decide +kernel)) (pc' := 7) (L' := [some (.ref 239), some (.int y1), some (.int y2), some (.int y3)]) (st' := [.int y3]) rfl ?_
  refine q_o (mz_fe (e := (7, .iload_n 2, 1, (0, 0, 0), [])) (by decide +kernel)) (pc2 := 8) rfl ?_
  refine q_if (c := .ge) (off := 20) (t := 28) (x := y3) (y := y2) (st := []) (mz_fe (e := (8, .if_icmp .ge 20, 3, (0, 0, 0), [])) (by decide +kernel)) (fun _ => rfl) rfl rfl rfl (fun c4 => ?_) (fun c4 => ?_)
  · refine q_o (mz_fe (e := (28, .aload_n 0, 1, (0, 0, 0), [])) (by decide +kernel)) (pc2 := 29) rfl ?_
    refine q_callI (N := 251) (vs := [.ref 239]) (rest := []) (L' := [some (.ref 239), some (.int y1), some (.int y2), some (.int y3)]) (f := fun v6 m5 => mz_g (decide (v6 = 0 ∨ v6 = 1)) (some (v6, m5))) rfl (mz_fe (e := (29, .invokevirtual 429, 227, (251, 1, 18), [])) (by decide +kernel)) rfl (mz_inv_virt (N := 251) (k := 1) (t := 18) (st := [.ref 239]) (rest := []) (b := 239) (vs := []) (h := (mz_S0, m)) rfl rfl (Nat.le_of_ble_eq_true rfl) (Nat.le_of_ble_eq_true rfl) tg_239 (by decide)) (mz_dc_lt (n := 1) rfl (by decide +kernel) (by decide +kernel)) (by decide +kernel) (Or.inr (by decide +kernel)) (fun v6 m5 => ?_)
    exact q_retZg (mz_fe (e := (32, .ireturn, 1, (0, 0, 0), [])) (by decide +kernel)) (by decide +kernel)
  · refine q_o (mz_fe (e := (11, .aload_n 0, 1, (0, 0, 0), [])) (by decide +kernel)) (pc2 := 12) rfl ?_
    refine q_o (mz_fe (e := (12, .aload_n 0, 1, (0, 0, 0), [])) (by decide +kernel)) (pc2 := 13) rfl ?_
    refine q_o (mz_fe (e := (13, .iload_n 1, 1, (0, 0, 0), [])) (by decide +kernel)) (pc2 := 14) rfl ?_
    refine q_o (mz_fe (e := (14, .iload_n 2, 1, (0, 0, 0), [])) (by decide +kernel)) (pc2 := 15) rfl ?_
    refine q_o (mz_fe (e := (15, .iload_n 3, 1, (0, 0, 0), [])) (by decide +kernel)) (pc2 := 16) rfl ?_
    refine q_callI (N := 253) (vs := [.ref 239, .int y1, .int y2, .int y3]) (rest := [.ref 239]) (L' := [some (.ref 239), some (.int y1), some (.int y2), some (.int y3)]) (f := fun v9 m8 => (R_X12_turnsPair d v9 m8).bind (fun m11 => H_X12_doesWay_6 d y1 y2 (y3 + 1) m11)) rfl (mz_fe (e := (16, .invokevirtual 423, 225, (253, 4, 18), [])) (by decide +kernel)) rfl (mz_inv_virt (N := 253) (k := 4) (t := 18) (st := [.int y3, .int y2, .int y1, .ref 239, .ref 239]) (rest := [.ref 239]) (b := 239) (vs := [.int y1, .int y2, .int y3]) (h := (mz_S0, m)) rfl rfl (Nat.le_of_ble_eq_true rfl) (Nat.le_of_ble_eq_true rfl) tg_239 (by decide)) (mz_dc_lt (n := 4) rfl (by decide +kernel) (by decide +kernel)) (by decide +kernel) (Or.inl (by decide +kernel)) (fun v9 m8 => ?_)
    refine q_callV (N := 250) (vs := [.ref 239, .int v9]) (rest := []) (L' := [some (.ref 239), some (.int y1), some (.int y2), some (.int y3)]) rfl (mz_fe (e := (19, .invokevirtual 426, 226, (250, 2, 18), [])) (by decide +kernel)) rfl (mz_inv_virt (N := 250) (k := 2) (t := 18) (st := [.int v9, .ref 239]) (rest := []) (b := 239) (vs := [.int v9]) (h := (mz_S0, m8)) rfl rfl (Nat.le_of_ble_eq_true rfl) (Nat.le_of_ble_eq_true rfl) tg_239 (by decide)) (mz_dc_lt (n := 2) rfl (by decide +kernel) (by decide +kernel)) (by decide +kernel) (by decide +kernel) (fun m11 => ?_)
    refine q_iinc (v := y3) (c := 1) (L3 := [some (.ref 239), some (.int y1), some (.int y2), some (.int (y3 + 1))]) (mz_fe (e := (22, .iinc 3 1, 3, (0, 0, 0), [])) (by decide +kernel)) rfl rfl (by decide) rfl ?_
    refine q_o (mz_fe (e := (25, .goto (-19), 3, (0, 0, 0), [])) (by decide +kernel)) (pc2 := 6) rfl ?_
    exact congrArg mz_cI (mz_At_msk (L := [some (.ref 239), some (.int y1), some (.int y2), some (.int (y3 + 1))]) (L2 := [some (.ref 239), some (.int y1), some (.int y2), some (.int (y3 + 1))]) (mz_fe (e := (6, .iload_n 3, 1, (0, 0, 0), [true, true, true, true])) (by decide +kernel)) rfl rfl)
set_option maxRecDepth 10000 in
theorem R_X12_calm_eq (d : Nat) (x0 : Int32) (m : MzM)  : R_X12_calm d x0 m = (R_X12_in d x0 (-1) 2 m).bind (fun u3 => if ¬ u3.1 = 0 then ((R_X12_rowTo d x0 (mz_wr u3.2 239 56 0)).bind (fun u7 => some (u7.1, u7.2))) else (some ((-1), u3.2))) := by
  show mz_cI (mz_T d 256 0 (mz_en (mz_xl 256) [.ref 239, .int x0]) [] m) = _
  rw [show mz_en (mz_xl 256) [.ref 239, .int x0] = [some (.ref 239), some (.int x0)] from by rw [show mz_xl 256 = 2 from by decide +kernel]; rfl]
  refine q_o (mz_fe (e := (0, .iload_n 1, 1, (0, 0, 0), [])) (by decide +kernel)) (pc2 := 1) rfl ?_
  refine q_ic (v := (-1)) (mz_fe (e := (1, .iconst (-1), 1, (0, 0, 0), [])) (by decide +kernel)) (by decide) ?_
  refine q_ic (v := 2) (mz_fe (e := (2, .iconst 2, 1, (0, 0, 0), [])) (by decide +kernel)) (by decide) ?_
  refine q_callI (N := 208) (vs := [.int x0, .int (-1), .int 2]) (rest := []) (L' := [some (.ref 239), some (.int x0)]) (f := fun v2 m1 => if ¬ v2 = 0 then ((R_X12_rowTo d x0 (mz_wr m1 239 56 0)).bind (fun u7 => some (u7.1, u7.2))) else (some ((-1), m1))) rfl (mz_fe (e := (3, .invokestatic 310, 196, (208, 3, 1000), [])) (by decide +kernel)) rfl (mz_inv_stat (N := 208) (k := 3) (st := [.int 2, .int (-1), .int x0]) (rest := []) (vs := [.int x0, .int (-1), .int 2]) (h := (mz_S0, m)) rfl rfl (Nat.le_of_ble_eq_true rfl) (Nat.le_of_ble_eq_true rfl)) (mz_dc_lt (n := 3) rfl (by decide +kernel) (by decide +kernel)) (by decide +kernel) (Or.inr (by decide +kernel)) (fun v2 m1 => ?_)
  refine q_if (c := .ne) (off := 5) (t := 11) (x := v2) (y := 0) (st := []) (mz_fe (e := (6, .ifCond .ne 5, 3, (0, 0, 0), [])) (by decide +kernel)) (fun _ => rfl) rfl rfl rfl (fun c4 => ?_) (fun c4 => ?_)
  · refine q_o (mz_fe (e := (11, .aload_n 0, 1, (0, 0, 0), [])) (by decide +kernel)) (pc2 := 12) rfl ?_
    refine q_ic (v := 0) (mz_fe (e := (12, .iconst 0, 1, (0, 0, 0), [])) (by decide +kernel)) (by decide) ?_
    refine q_putI (mz_fe (e := (13, .putfield 405, 182, (12, 56, 0), [])) (by decide +kernel)) rfl tg_239 (by rw [ln_239]; decide) ?_
    refine q_o (mz_fe (e := (16, .aload_n 0, 1, (0, 0, 0), [])) (by decide +kernel)) (pc2 := 17) rfl ?_
    refine q_o (mz_fe (e := (17, .iload_n 1, 1, (0, 0, 0), [])) (by decide +kernel)) (pc2 := 18) rfl ?_
    refine q_callI (N := 255) (vs := [.ref 239, .int x0]) (rest := []) (L' := [some (.ref 239), some (.int x0)]) (f := fun v6 m5 => some (v6, m5)) rfl (mz_fe (e := (18, .invokevirtual 438, 230, (255, 2, 18), [])) (by decide +kernel)) rfl (mz_inv_virt (N := 255) (k := 2) (t := 18) (st := [.int x0, .ref 239]) (rest := []) (b := 239) (vs := [.int x0]) (h := (mz_S0, (mz_wr m1 239 56 0))) rfl rfl (Nat.le_of_ble_eq_true rfl) (Nat.le_of_ble_eq_true rfl) tg_239 (by decide)) (mz_dc_lt (n := 2) rfl (by decide +kernel) (by decide +kernel)) (by decide +kernel) (Or.inl (by decide +kernel)) (fun v6 m5 => ?_)
    exact q_retI (mz_fe (e := (21, .ireturn, 1, (0, 0, 0), [])) (by decide +kernel)) (by decide +kernel)
  · refine q_ic (v := (-1)) (mz_fe (e := (9, .iconst (-1), 1, (0, 0, 0), [])) (by decide +kernel)) (by decide) ?_
    exact q_retI (mz_fe (e := (10, .ireturn, 1, (0, 0, 0), [])) (by decide +kernel)) (by decide +kernel)
set_option maxRecDepth 10000 in
theorem R_X12_alike_eq (d : Nat) (x0 : Int32) (x1 : Int32) (x2 : Int32) (m : MzM)  : R_X12_alike d x0 x1 x2 m = (R_X12_areTwo d x0 x1 m).bind (fun u3 => if u3.1 = 0 then (some ((-1), u3.2)) else ((R_X12_in d x2 (-1) 2 u3.2).bind (fun u7 => if ¬ u7.1 = 0 then ((R_X12_rowTo d x2 (mz_wr (mz_wr (mz_wr u7.2 239 56 2) 239 57 x0) 239 58 x1)).bind (fun u11 => some (u11.1, u11.2))) else (some ((-1), u7.2))))) := by
  show mz_cI (mz_T d 258 0 (mz_en (mz_xl 258) [.ref 239, .int x0, .int x1, .int x2]) [] m) = _
  rw [show mz_en (mz_xl 258) [.ref 239, .int x0, .int x1, .int x2] = [some (.ref 239), some (.int x0), some (.int x1), some (.int x2)] from by rw [show mz_xl 258 = 4 from by decide +kernel]; rfl]
  refine q_o (mz_fe (e := (0, .aload_n 0, 1, (0, 0, 0), [])) (by decide +kernel)) (pc2 := 1) rfl ?_
  refine q_o (mz_fe (e := (1, .iload_n 1, 1, (0, 0, 0), [])) (by decide +kernel)) (pc2 := 2) rfl ?_
  refine q_o (mz_fe (e := (2, .iload_n 2, 1, (0, 0, 0), [])) (by decide +kernel)) (pc2 := 3) rfl ?_
  refine q_callI (N := 213) (vs := [.ref 239, .int x0, .int x1]) (rest := []) (L' := [some (.ref 239), some (.int x0), some (.int x1), some (.int x2)]) (f := fun v2 m1 => if v2 = 0 then (some ((-1), m1)) else ((R_X12_in d x2 (-1) 2 m1).bind (fun u7 => if ¬ u7.1 = 0 then ((R_X12_rowTo d x2 (mz_wr (mz_wr (mz_wr u7.2 239 56 2) 239 57 x0) 239 58 x1)).bind (fun u11 => some (u11.1, u11.2))) else (some ((-1), u7.2))))) rfl (mz_fe (e := (3, .invokevirtual 390, 219, (213, 3, 18), [])) (by decide +kernel)) rfl (mz_inv_virt (N := 213) (k := 3) (t := 18) (st := [.int x1, .int x0, .ref 239]) (rest := []) (b := 239) (vs := [.int x0, .int x1]) (h := (mz_S0, m)) rfl rfl (Nat.le_of_ble_eq_true rfl) (Nat.le_of_ble_eq_true rfl) tg_239 (by decide)) (mz_dc_lt (n := 3) rfl (by decide +kernel) (by decide +kernel)) (by decide +kernel) (Or.inr (by decide +kernel)) (fun v2 m1 => ?_)
  refine q_if (c := .eq) (off := 12) (t := 18) (x := v2) (y := 0) (st := []) (mz_fe (e := (6, .ifCond .eq 12, 3, (0, 0, 0), [])) (by decide +kernel)) (fun _ => rfl) rfl rfl rfl (fun c4 => ?_) (fun c4 => ?_)
  · refine q_ic (v := (-1)) (mz_fe (e := (18, .iconst (-1), 1, (0, 0, 0), [])) (by decide +kernel)) (by decide) ?_
    exact q_retI (mz_fe (e := (19, .ireturn, 1, (0, 0, 0), [])) (by decide +kernel)) (by decide +kernel)
  · refine q_o (mz_fe (e := (9, .iload_n 3, 1, (0, 0, 0), [])) (by decide +kernel)) (pc2 := 10) rfl ?_
    refine q_ic (v := (-1)) (mz_fe (e := (10, .iconst (-1), 1, (0, 0, 0), [])) (by decide +kernel)) (by decide) ?_
    refine q_ic (v := 2) (mz_fe (e := (11, .iconst 2, 1, (0, 0, 0), [])) (by decide +kernel)) (by decide) ?_
    refine q_callI (N := 208) (vs := [.int x2, .int (-1), .int 2]) (rest := []) (L' := [some (.ref 239), some (.int x0), some (.int x1), some (.int x2)]) (f := fun v6 m5 => if ¬ v6 = 0 then ((R_X12_rowTo d x2 (mz_wr (mz_wr (mz_wr m5 239 56 2) 239 57 x0) 239 58 x1)).bind (fun u11 => some (u11.1, u11.2))) else (some ((-1), m5))) rfl (mz_fe (e := (12, .invokestatic 310, 196, (208, 3, 1000), [])) (by decide +kernel)) rfl (mz_inv_stat (N := 208) (k := 3) (st := [.int 2, .int (-1), .int x2]) (rest := []) (vs := [.int x2, .int (-1), .int 2]) (h := (mz_S0, m1)) rfl rfl (Nat.le_of_ble_eq_true rfl) (Nat.le_of_ble_eq_true rfl)) (mz_dc_lt (n := 3) rfl (by decide +kernel) (by decide +kernel)) (by decide +kernel) (Or.inr (by decide +kernel)) (fun v6 m5 => ?_)
    refine q_if (c := .ne) (off := 5) (t := 20) (x := v6) (y := 0) (st := []) (mz_fe (e := (15, .ifCond .ne 5, 3, (0, 0, 0), [])) (by decide +kernel)) (fun _ => rfl) rfl rfl rfl (fun c8 => ?_) (fun c8 => ?_)
    · refine q_o (mz_fe (e := (20, .aload_n 0, 1, (0, 0, 0), [])) (by decide +kernel)) (pc2 := 21) rfl ?_
      refine q_ic (v := 2) (mz_fe (e := (21, .iconst 2, 1, (0, 0, 0), [])) (by decide +kernel)) (by decide) ?_
      refine q_putI (mz_fe (e := (22, .putfield 405, 182, (12, 56, 0), [])) (by decide +kernel)) rfl tg_239 (by rw [ln_239]; decide) ?_
      refine q_o (mz_fe (e := (25, .aload_n 0, 1, (0, 0, 0), [])) (by decide +kernel)) (pc2 := 26) rfl ?_
      refine q_o (mz_fe (e := (26, .iload_n 1, 1, (0, 0, 0), [])) (by decide +kernel)) (pc2 := 27) rfl ?_
      refine q_putI (mz_fe (e := (27, .putfield 411, 183, (12, 57, 0), [])) (by decide +kernel)) rfl tg_239 (by rw [ln_239]; decide) ?_
      refine q_o (mz_fe (e := (30, .aload_n 0, 1, (0, 0, 0), [])) (by decide +kernel)) (pc2 := 31) rfl ?_
      refine q_o (mz_fe (e := (31, .iload_n 2, 1, (0, 0, 0), [])) (by decide +kernel)) (pc2 := 32) rfl ?_
      refine q_putI (mz_fe (e := (32, .putfield 414, 184, (12, 58, 0), [])) (by decide +kernel)) rfl tg_239 (by rw [ln_239]; decide) ?_
      refine q_o (mz_fe (e := (35, .aload_n 0, 1, (0, 0, 0), [])) (by decide +kernel)) (pc2 := 36) rfl ?_
      refine q_o (mz_fe (e := (36, .iload_n 3, 1, (0, 0, 0), [])) (by decide +kernel)) (pc2 := 37) rfl ?_
      refine q_callI (N := 255) (vs := [.ref 239, .int x2]) (rest := []) (L' := [some (.ref 239), some (.int x0), some (.int x1), some (.int x2)]) (f := fun v10 m9 => some (v10, m9)) rfl (mz_fe (e := (37, .invokevirtual 438, 230, (255, 2, 18), [])) (by decide +kernel)) rfl (mz_inv_virt (N := 255) (k := 2) (t := 18) (st := [.int x2, .ref 239]) (rest := []) (b := 239) (vs := [.int x2]) (h := (mz_S0, (mz_wr (mz_wr (mz_wr m5 239 56 2) 239 57 x0) 239 58 x1))) rfl rfl (Nat.le_of_ble_eq_true rfl) (Nat.le_of_ble_eq_true rfl) tg_239 (by decide)) (mz_dc_lt (n := 2) rfl (by decide +kernel) (by decide +kernel)) (by decide +kernel) (Or.inl (by decide +kernel)) (fun v10 m9 => ?_)
      exact q_retI (mz_fe (e := (40, .ireturn, 1, (0, 0, 0), [])) (by decide +kernel)) (by decide +kernel)
    · refine q_ic (v := (-1)) (mz_fe (e := (18, .iconst (-1), 1, (0, 0, 0), [])) (by decide +kernel)) (by decide) ?_
      exact q_retI (mz_fe (e := (19, .ireturn, 1, (0, 0, 0), [])) (by decide +kernel)) (by decide +kernel)
set_option maxRecDepth 10000 in
theorem R_X12_gain_eq (d : Nat) (x0 : Int32) (x1 : Int32) (x2 : Int32) (m : MzM)  : R_X12_gain d x0 x1 x2 m = (R_X12_areTwo d x0 x1 m).bind (fun u3 => if u3.1 = 0 then (some ((-100000), u3.2)) else ((R_X12_isStuff d x2 u3.2).bind (fun u7 => if ¬ u7.1 = 0 then ((R_X12_copies d  u7.2).bind (fun m9 => (R_X12_turnsBoth d x0 x1 m9).bind (fun m12 => mz_g (mz_ok (((4 : Int32) * x0) + x2) 39) (mz_g (mz_ok (((4 : Int32) * x0) + x2) 39) (some (((mz_rd m12 271 ((((4 : Int32) * x0) + x2) : Int32).toNatClampNeg) - (mz_rd m12 270 ((((4 : Int32) * x0) + x2) : Int32).toNatClampNeg)), m12)))))) else (some ((-100000), u7.2))))) := by
  show mz_cI (mz_T d 260 0 (mz_en (mz_xl 260) [.ref 239, .int x0, .int x1, .int x2]) [] m) = _
  rw [show mz_en (mz_xl 260) [.ref 239, .int x0, .int x1, .int x2] = [some (.ref 239), some (.int x0), some (.int x1), some (.int x2)] from by rw [show mz_xl 260 = 4 from by decide +kernel]; rfl]
  refine q_o (mz_fe (e := (0, .aload_n 0, 1, (0, 0, 0), [])) (by decide +kernel)) (pc2 := 1) rfl ?_
  refine q_o (mz_fe (e := (1, .iload_n 1, 1, (0, 0, 0), [])) (by decide +kernel)) (pc2 := 2) rfl ?_
  refine q_o (mz_fe (e := (2, .iload_n 2, 1, (0, 0, 0), [])) (by decide +kernel)) (pc2 := 3) rfl ?_
  refine q_callI (N := 213) (vs := [.ref 239, .int x0, .int x1]) (rest := []) (L' := [some (.ref 239), some (.int x0), some (.int x1), some (.int x2)]) (f := fun v2 m1 => if v2 = 0 then (some ((-100000), m1)) else ((R_X12_isStuff d x2 m1).bind (fun u7 => if ¬ u7.1 = 0 then ((R_X12_copies d  u7.2).bind (fun m9 => (R_X12_turnsBoth d x0 x1 m9).bind (fun m12 => mz_g (mz_ok (((4 : Int32) * x0) + x2) 39) (mz_g (mz_ok (((4 : Int32) * x0) + x2) 39) (some (((mz_rd m12 271 ((((4 : Int32) * x0) + x2) : Int32).toNatClampNeg) - (mz_rd m12 270 ((((4 : Int32) * x0) + x2) : Int32).toNatClampNeg)), m12)))))) else (some ((-100000), u7.2))))) rfl (mz_fe (e := (3, .invokevirtual 390, 219, (213, 3, 18), [])) (by decide +kernel)) rfl (mz_inv_virt (N := 213) (k := 3) (t := 18) (st := [.int x1, .int x0, .ref 239]) (rest := []) (b := 239) (vs := [.int x0, .int x1]) (h := (mz_S0, m)) rfl rfl (Nat.le_of_ble_eq_true rfl) (Nat.le_of_ble_eq_true rfl) tg_239 (by decide)) (mz_dc_lt (n := 3) rfl (by decide +kernel) (by decide +kernel)) (by decide +kernel) (Or.inr (by decide +kernel)) (fun v2 m1 => ?_)
  refine q_if (c := .eq) (off := 10) (t := 16) (x := v2) (y := 0) (st := []) (mz_fe (e := (6, .ifCond .eq 10, 3, (0, 0, 0), [])) (by decide +kernel)) (fun _ => rfl) rfl rfl rfl (fun c4 => ?_) (fun c4 => ?_)
  · refine q_ldw (v := (-100000)) (mz_fe (e := (16, .ldc_w 441, 5, (4294867296, 0, 0), [])) (by decide +kernel)) (by decide) ?_
    exact q_retI (mz_fe (e := (19, .ireturn, 1, (0, 0, 0), [])) (by decide +kernel)) (by decide +kernel)
  · refine q_o (mz_fe (e := (9, .iload_n 3, 1, (0, 0, 0), [])) (by decide +kernel)) (pc2 := 10) rfl ?_
    refine q_callI (N := 214) (vs := [.int x2]) (rest := []) (L' := [some (.ref 239), some (.int x0), some (.int x1), some (.int x2)]) (f := fun v6 m5 => if ¬ v6 = 0 then ((R_X12_copies d  m5).bind (fun m9 => (R_X12_turnsBoth d x0 x1 m9).bind (fun m12 => mz_g (mz_ok (((4 : Int32) * x0) + x2) 39) (mz_g (mz_ok (((4 : Int32) * x0) + x2) 39) (some (((mz_rd m12 271 ((((4 : Int32) * x0) + x2) : Int32).toNatClampNeg) - (mz_rd m12 270 ((((4 : Int32) * x0) + x2) : Int32).toNatClampNeg)), m12)))))) else (some ((-100000), m5))) rfl (mz_fe (e := (10, .invokestatic 387, 218, (214, 1, 1000), [])) (by decide +kernel)) rfl (mz_inv_stat (N := 214) (k := 1) (st := [.int x2]) (rest := []) (vs := [.int x2]) (h := (mz_S0, m1)) rfl rfl (Nat.le_of_ble_eq_true rfl) (Nat.le_of_ble_eq_true rfl)) (mz_dc_lt (n := 1) rfl (by decide +kernel) (by decide +kernel)) (by decide +kernel) (Or.inr (by decide +kernel)) (fun v6 m5 => ?_)
    refine q_if (c := .ne) (off := 7) (t := 20) (x := v6) (y := 0) (st := []) (mz_fe (e := (13, .ifCond .ne 7, 3, (0, 0, 0), [])) (by decide +kernel)) (fun _ => rfl) rfl rfl rfl (fun c8 => ?_) (fun c8 => ?_)
    · refine q_o (mz_fe (e := (20, .aload_n 0, 1, (0, 0, 0), [])) (by decide +kernel)) (pc2 := 21) rfl ?_
      refine q_callV (N := 217) (vs := [.ref 239]) (rest := []) (L' := [some (.ref 239), some (.int x0), some (.int x1), some (.int x2)]) rfl (mz_fe (e := (21, .invokevirtual 323, 198, (217, 1, 18), [])) (by decide +kernel)) rfl (mz_inv_virt (N := 217) (k := 1) (t := 18) (st := [.ref 239]) (rest := []) (b := 239) (vs := []) (h := (mz_S0, m5)) rfl rfl (Nat.le_of_ble_eq_true rfl) (Nat.le_of_ble_eq_true rfl) tg_239 (by decide)) (mz_dc_lt (n := 1) rfl (by decide +kernel) (by decide +kernel)) (by decide +kernel) (by decide +kernel) (fun m9 => ?_)
      refine q_o (mz_fe (e := (24, .aload_n 0, 1, (0, 0, 0), [])) (by decide +kernel)) (pc2 := 25) rfl ?_
      refine q_o (mz_fe (e := (25, .iload_n 1, 1, (0, 0, 0), [])) (by decide +kernel)) (pc2 := 26) rfl ?_
      refine q_o (mz_fe (e := (26, .iload_n 2, 1, (0, 0, 0), [])) (by decide +kernel)) (pc2 := 27) rfl ?_
      refine q_callV (N := 231) (vs := [.ref 239, .int x0, .int x1]) (rest := []) (L' := [some (.ref 239), some (.int x0), some (.int x1), some (.int x2)]) rfl (mz_fe (e := (27, .invokevirtual 374, 214, (231, 3, 18), [])) (by decide +kernel)) rfl (mz_inv_virt (N := 231) (k := 3) (t := 18) (st := [.int x1, .int x0, .ref 239]) (rest := []) (b := 239) (vs := [.int x0, .int x1]) (h := (mz_S0, m9)) rfl rfl (Nat.le_of_ble_eq_true rfl) (Nat.le_of_ble_eq_true rfl) tg_239 (by decide)) (mz_dc_lt (n := 3) rfl (by decide +kernel) (by decide +kernel)) (by decide +kernel) (by decide +kernel) (fun m12 => ?_)
      refine q_o (mz_fe (e := (30, .aload_n 0, 1, (0, 0, 0), [])) (by decide +kernel)) (pc2 := 31) rfl ?_
      refine q_getR (b := 271) (mz_fe (e := (31, .getfield 113, 149, (12, 48, 2), [])) (by decide +kernel)) rfl tg_239 (by rw [ln_239]; decide) (mz_rfS (by decide +kernel)) ?_
      refine q_ic (v := 4) (mz_fe (e := (34, .iconst 4, 1, (0, 0, 0), [])) (by decide +kernel)) (by decide) ?_
      refine q_o (mz_fe (e := (35, .iload_n 1, 1, (0, 0, 0), [])) (by decide +kernel)) (pc2 := 36) rfl ?_
      refine q_o (mz_fe (e := (36, .imul, 1, (0, 0, 0), [])) (by decide +kernel)) (pc2 := 37) rfl ?_
      refine q_o (mz_fe (e := (37, .iload_n 3, 1, (0, 0, 0), [])) (by decide +kernel)) (pc2 := 38) rfl ?_
      refine q_o (mz_fe (e := (38, .iadd, 1, (0, 0, 0), [])) (by decide +kernel)) (pc2 := 39) rfl ?_
      refine q_ialdg rfl (mz_fe (e := (39, .iaload, 1, (0, 0, 0), [])) (by decide +kernel)) rfl (by decide) tg_271 ln_271 (fun g15 => ?_)
      refine q_o (mz_fe (e := (40, .aload_n 0, 1, (0, 0, 0), [])) (by decide +kernel)) (pc2 := 41) rfl ?_
      refine q_getR (b := 270) (mz_fe (e := (41, .getfield 110, 148, (12, 47, 2), [])) (by decide +kernel)) rfl tg_239 (by rw [ln_239]; decide) (mz_rfS (by decide +kernel)) ?_
      refine q_ic (v := 4) (mz_fe (e := (44, .iconst 4, 1, (0, 0, 0), [])) (by decide +kernel)) (by decide) ?_
      refine q_o (mz_fe (e := (45, .iload_n 1, 1, (0, 0, 0), [])) (by decide +kernel)) (pc2 := 46) rfl ?_
      refine q_o (mz_fe (e := (46, .imul, 1, (0, 0, 0), [])) (by decide +kernel)) (pc2 := 47) rfl ?_
      refine q_o (mz_fe (e := (47, .iload_n 3, 1, (0, 0, 0), [])) (by decide +kernel)) (pc2 := 48) rfl ?_
      refine q_o (mz_fe (e := (48, .iadd, 1, (0, 0, 0), [])) (by decide +kernel)) (pc2 := 49) rfl ?_
      refine q_ialdg rfl (mz_fe (e := (49, .iaload, 1, (0, 0, 0), [])) (by decide +kernel)) rfl (by decide) tg_270 ln_270 (fun g16 => ?_)
      refine q_o (mz_fe (e := (50, .isub, 1, (0, 0, 0), [])) (by decide +kernel)) (pc2 := 51) rfl ?_
      exact q_retI (mz_fe (e := (51, .ireturn, 1, (0, 0, 0), [])) (by decide +kernel)) (by decide +kernel)
    · refine q_ldw (v := (-100000)) (mz_fe (e := (16, .ldc_w 441, 5, (4294867296, 0, 0), [])) (by decide +kernel)) (by decide) ?_
      exact q_retI (mz_fe (e := (19, .ireturn, 1, (0, 0, 0), [])) (by decide +kernel)) (by decide +kernel)
set_option maxRecDepth 10000 in
theorem R_X12_crumbs_eq (d : Nat) (x0 : Int32) (x1 : Int32) (x2 : Int32) (x3 : Int32) (m : MzM)  : R_X12_crumbs d x0 x1 x2 x3 m = (R_X12_areTwo d x0 x1 m).bind (fun u3 => if u3.1 = 0 then (some ((-1), u3.2)) else ((R_X12_isStuff d x2 u3.2).bind (fun u7 => if u7.1 = 0 then (some ((-1), u7.2)) else ((R_X12_in d x3 0 999 u7.2).bind (fun u11 => if ¬ u11.1 = 0 then (H_X12_crumbs_33 d x0 x1 x2 x3 0 u11.2) else (some ((-1), u11.2))))))) := by
  show mz_cI (mz_T d 262 0 (mz_en (mz_xl 262) [.ref 239, .int x0, .int x1, .int x2, .int x3]) [] m) = _
  rw [show mz_en (mz_xl 262) [.ref 239, .int x0, .int x1, .int x2, .int x3] = [some (.ref 239), some (.int x0), some (.int x1), some (.int x2), some (.int x3), none] from by rw [show mz_xl 262 = 6 from by decide +kernel]; rfl]
  refine q_o (mz_fe (e := (0, .aload_n 0, 1, (0, 0, 0), [])) (by decide +kernel)) (pc2 := 1) rfl ?_
  refine q_o (mz_fe (e := (1, .iload_n 1, 1, (0, 0, 0), [])) (by decide +kernel)) (pc2 := 2) rfl ?_
  refine q_o (mz_fe (e := (2, .iload_n 2, 1, (0, 0, 0), [])) (by decide +kernel)) (pc2 := 3) rfl ?_
  refine q_callI (N := 213) (vs := [.ref 239, .int x0, .int x1]) (rest := []) (L' := [some (.ref 239), some (.int x0), some (.int x1), some (.int x2), some (.int x3), none]) (f := fun v2 m1 => if v2 = 0 then (some ((-1), m1)) else ((R_X12_isStuff d x2 m1).bind (fun u7 => if u7.1 = 0 then (some ((-1), u7.2)) else ((R_X12_in d x3 0 999 u7.2).bind (fun u11 => if ¬ u11.1 = 0 then (H_X12_crumbs_33 d x0 x1 x2 x3 0 u11.2) else (some ((-1), u11.2))))))) rfl (mz_fe (e := (3, .invokevirtual 390, 219, (213, 3, 18), [])) (by decide +kernel)) rfl (mz_inv_virt (N := 213) (k := 3) (t := 18) (st := [.int x1, .int x0, .ref 239]) (rest := []) (b := 239) (vs := [.int x0, .int x1]) (h := (mz_S0, m)) rfl rfl (Nat.le_of_ble_eq_true rfl) (Nat.le_of_ble_eq_true rfl) tg_239 (by decide)) (mz_dc_lt (n := 3) rfl (by decide +kernel) (by decide +kernel)) (by decide +kernel) (Or.inr (by decide +kernel)) (fun v2 m1 => ?_)
  refine q_if (c := .eq) (off := 22) (t := 28) (x := v2) (y := 0) (st := []) (mz_fe (e := (6, .ifCond .eq 22, 3, (0, 0, 0), [])) (by decide +kernel)) (fun _ => rfl) rfl rfl rfl (fun c4 => ?_) (fun c4 => ?_)
  · refine q_ic (v := (-1)) (mz_fe (e := (28, .iconst (-1), 1, (0, 0, 0), [])) (by decide +kernel)) (by decide) ?_
    exact q_retI (mz_fe (e := (29, .ireturn, 1, (0, 0, 0), [])) (by decide +kernel)) (by decide +kernel)
  · refine q_o (mz_fe (e := (9, .iload_n 3, 1, (0, 0, 0), [])) (by decide +kernel)) (pc2 := 10) rfl ?_
    refine q_callI (N := 214) (vs := [.int x2]) (rest := []) (L' := [some (.ref 239), some (.int x0), some (.int x1), some (.int x2), some (.int x3), none]) (f := fun v6 m5 => if v6 = 0 then (some ((-1), m5)) else ((R_X12_in d x3 0 999 m5).bind (fun u11 => if ¬ u11.1 = 0 then (H_X12_crumbs_33 d x0 x1 x2 x3 0 u11.2) else (some ((-1), u11.2))))) rfl (mz_fe (e := (10, .invokestatic 387, 218, (214, 1, 1000), [])) (by decide +kernel)) rfl (mz_inv_stat (N := 214) (k := 1) (st := [.int x2]) (rest := []) (vs := [.int x2]) (h := (mz_S0, m1)) rfl rfl (Nat.le_of_ble_eq_true rfl) (Nat.le_of_ble_eq_true rfl)) (mz_dc_lt (n := 1) rfl (by decide +kernel) (by decide +kernel)) (by decide +kernel) (Or.inr (by decide +kernel)) (fun v6 m5 => ?_)
    refine q_if (c := .eq) (off := 15) (t := 28) (x := v6) (y := 0) (st := []) (mz_fe (e := (13, .ifCond .eq 15, 3, (0, 0, 0), [])) (by decide +kernel)) (fun _ => rfl) rfl rfl rfl (fun c8 => ?_) (fun c8 => ?_)
    · refine q_ic (v := (-1)) (mz_fe (e := (28, .iconst (-1), 1, (0, 0, 0), [])) (by decide +kernel)) (by decide) ?_
      exact q_retI (mz_fe (e := (29, .ireturn, 1, (0, 0, 0), [])) (by decide +kernel)) (by decide +kernel)
    · refine q_o (mz_fe (e := (16, .iload 4, 2, (0, 0, 0), [])) (by decide +kernel)) (pc2 := 18) rfl ?_
      refine q_ic (v := 0) (mz_fe (e := (18, .iconst 0, 1, (0, 0, 0), [])) (by decide +kernel)) (by decide) ?_
      refine q_si (v := 999) (mz_fe (e := (19, .sipush 999, 3, (0, 0, 0), [])) (by decide +kernel)) (by decide) ?_
      refine q_callI (N := 208) (vs := [.int x3, .int 0, .int 999]) (rest := []) (L' := [some (.ref 239), some (.int x0), some (.int x1), some (.int x2), some (.int x3), none]) (f := fun v10 m9 => if ¬ v10 = 0 then (H_X12_crumbs_33 d x0 x1 x2 x3 0 m9) else (some ((-1), m9))) rfl (mz_fe (e := (22, .invokestatic 310, 196, (208, 3, 1000), [])) (by decide +kernel)) rfl (mz_inv_stat (N := 208) (k := 3) (st := [.int 999, .int 0, .int x3]) (rest := []) (vs := [.int x3, .int 0, .int 999]) (h := (mz_S0, m5)) rfl rfl (Nat.le_of_ble_eq_true rfl) (Nat.le_of_ble_eq_true rfl)) (mz_dc_lt (n := 3) rfl (by decide +kernel) (by decide +kernel)) (by decide +kernel) (Or.inr (by decide +kernel)) (fun v10 m9 => ?_)
      refine q_if (c := .ne) (off := 5) (t := 30) (x := v10) (y := 0) (st := []) (mz_fe (e := (25, .ifCond .ne 5, 3, (0, 0, 0), [])) (by decide +kernel)) (fun _ => rfl) rfl rfl rfl (fun c12 => ?_) (fun c12 => ?_)
      · refine q_ic (v := 0) (mz_fe (e := (30, .iconst 0, 1, (0, 0, 0), [])) (by decide +kernel)) (by decide) ?_
        refine q_s (mz_fe (e := (31, .istore 5, 2, (0, 0, 0), [])) (by decide +kernel)) (pc' := 33) (L' := [some (.ref 239), some (.int x0), some (.int x1), some (.int x2), some (.int x3), some (.int 0)]) (st' := []) rfl ?_
        exact congrArg mz_cI (mz_At_msk (L := [some (.ref 239), some (.int x0), some (.int x1), some (.int x2), some (.int x3), some (.int 0)]) (L2 := [some (.ref 239), some (.int x0), some (.int x1), some (.int x2), some (.int x3), some (.int 0)]) (mz_fe (e := (33, .iload 5, 2, (0, 0, 0), [true, true, true, true, true, true])) (by decide +kernel)) rfl rfl)
      · refine q_ic (v := (-1)) (mz_fe (e := (28, .iconst (-1), 1, (0, 0, 0), [])) (by decide +kernel)) (by decide) ?_
        exact q_retI (mz_fe (e := (29, .ireturn, 1, (0, 0, 0), [])) (by decide +kernel)) (by decide +kernel)
set_option maxRecDepth 10000 in
theorem H_X12_crumbs_33_eq (d : Nat) (y1 : Int32) (y2 : Int32) (y3 : Int32) (y4 : Int32) (y5 : Int32) (m : MzM)  : H_X12_crumbs_33 d y1 y2 y3 y4 y5 m = if (99 : Int32) < y5 then (some ((-2), m)) else ((R_X12_copies d  m).bind (fun m14 => mz_g (mz_ok ((30 : Int32) + y3) 39) (mz_g (mz_ok ((30 : Int32) + y3) 39) ((R_X12_turnsBoth d y1 y2 (mz_wr m14 271 (((30 : Int32) + y3) : Int32).toNatClampNeg ((mz_rd m14 271 (((30 : Int32) + y3) : Int32).toNatClampNeg) + y5))).bind (fun m19 => mz_g (mz_ok (((4 : Int32) * y1) + y3) 39) (if (mz_rd m19 271 ((((4 : Int32) * y1) + y3) : Int32).toNatClampNeg) < y4 then (H_X12_crumbs_33 d y1 y2 y3 y4 (y5 + 1) m19) else (some (y5, m19)))))))) := by
  show mz_cI (mz_T d 262 33 [some (.ref 239), some (.int y1), some (.int y2), some (.int y3), some (.int y4), some (.int y5)] [] m) = _
  refine q_s (mz_fe (e := (33, .iload 5, 2, (0, 0, 0), [true, true, true, true, true, true])) (by decide +kernel)) (pc' := 35) (L' := [some (.ref 239), some (.int y1), some (.int y2), some (.int y3), some (.int y4), some (.int y5)]) (st' := [.int y5]) rfl ?_
  refine q_bi (v := 99) (mz_fe (e := (35, .bipush 99, 2, (0, 0, 0), [])) (by decide +kernel)) (by decide) ?_
  refine q_if (c := .gt) (off := 51) (t := 88) (x := y5) (y := 99) (st := []) (mz_fe (e := (37, .if_icmp .gt 51, 3, (0, 0, 0), [])) (by decide +kernel)) (fun _ => rfl) rfl rfl rfl (fun c13 => ?_) (fun c13 => ?_)
  · refine q_bi (v := (-2)) (mz_fe (e := (88, .bipush (-2), 2, (0, 0, 0), [])) (by decide +kernel)) (by decide) ?_
    exact q_retI (mz_fe (e := (90, .ireturn, 1, (0, 0, 0), [])) (by decide +kernel)) (by decide +kernel)
  · refine q_o (mz_fe (e := (40, .aload_n 0, 1, (0, 0, 0), [])) (by decide +kernel)) (pc2 := 41) rfl ?_
    refine q_callV (N := 217) (vs := [.ref 239]) (rest := []) (L' := [some (.ref 239), some (.int y1), some (.int y2), some (.int y3), some (.int y4), some (.int y5)]) rfl (mz_fe (e := (41, .invokevirtual 323, 198, (217, 1, 18), [])) (by decide +kernel)) rfl (mz_inv_virt (N := 217) (k := 1) (t := 18) (st := [.ref 239]) (rest := []) (b := 239) (vs := []) (h := (mz_S0, m)) rfl rfl (Nat.le_of_ble_eq_true rfl) (Nat.le_of_ble_eq_true rfl) tg_239 (by decide)) (mz_dc_lt (n := 1) rfl (by decide +kernel) (by decide +kernel)) (by decide +kernel) (by decide +kernel) (fun m14 => ?_)
    refine q_o (mz_fe (e := (44, .aload_n 0, 1, (0, 0, 0), [])) (by decide +kernel)) (pc2 := 45) rfl ?_
    refine q_getR (b := 271) (mz_fe (e := (45, .getfield 113, 149, (12, 48, 2), [])) (by decide +kernel)) rfl tg_239 (by rw [ln_239]; decide) (mz_rfS (by decide +kernel)) ?_
    refine q_bi (v := 30) (mz_fe (e := (48, .bipush 30, 2, (0, 0, 0), [])) (by decide +kernel)) (by decide) ?_
    refine q_o (mz_fe (e := (50, .iload_n 3, 1, (0, 0, 0), [])) (by decide +kernel)) (pc2 := 51) rfl ?_
    refine q_o (mz_fe (e := (51, .iadd, 1, (0, 0, 0), [])) (by decide +kernel)) (pc2 := 52) rfl ?_
    refine q_o (mz_fe (e := (52, .dup2, 1, (0, 0, 0), [])) (by decide +kernel)) (pc2 := 53) rfl ?_
    refine q_ialdg rfl (mz_fe (e := (53, .iaload, 1, (0, 0, 0), [])) (by decide +kernel)) rfl (by decide) tg_271 ln_271 (fun g17 => ?_)
    refine q_o (mz_fe (e := (54, .iload 5, 2, (0, 0, 0), [])) (by decide +kernel)) (pc2 := 56) rfl ?_
    refine q_o (mz_fe (e := (56, .iadd, 1, (0, 0, 0), [])) (by decide +kernel)) (pc2 := 57) rfl ?_
    refine q_stAg (f := (fun x => x)) rfl (mz_fe (e := (57, .iastore, 1, (0, 0, 0), [])) (by decide +kernel)) (fun _ => rfl) rfl tg_271 ln_271 (fun g18 => ?_)
    refine q_o (mz_fe (e := (58, .aload_n 0, 1, (0, 0, 0), [])) (by decide +kernel)) (pc2 := 59) rfl ?_
    refine q_o (mz_fe (e := (59, .iload_n 1, 1, (0, 0, 0), [])) (by decide +kernel)) (pc2 := 60) rfl ?_
    refine q_o (mz_fe (e := (60, .iload_n 2, 1, (0, 0, 0), [])) (by decide +kernel)) (pc2 := 61) rfl ?_
    refine q_callV (N := 231) (vs := [.ref 239, .int y1, .int y2]) (rest := []) (L' := [some (.ref 239), some (.int y1), some (.int y2), some (.int y3), some (.int y4), some (.int y5)]) rfl (mz_fe (e := (61, .invokevirtual 374, 214, (231, 3, 18), [])) (by decide +kernel)) rfl (mz_inv_virt (N := 231) (k := 3) (t := 18) (st := [.int y2, .int y1, .ref 239]) (rest := []) (b := 239) (vs := [.int y1, .int y2]) (h := (mz_S0, (mz_wr m14 271 (((30 : Int32) + y3) : Int32).toNatClampNeg ((mz_rd m14 271 (((30 : Int32) + y3) : Int32).toNatClampNeg) + y5)))) rfl rfl (Nat.le_of_ble_eq_true rfl) (Nat.le_of_ble_eq_true rfl) tg_239 (by decide)) (mz_dc_lt (n := 3) rfl (by decide +kernel) (by decide +kernel)) (by decide +kernel) (by decide +kernel) (fun m19 => ?_)
    refine q_o (mz_fe (e := (64, .aload_n 0, 1, (0, 0, 0), [])) (by decide +kernel)) (pc2 := 65) rfl ?_
    refine q_getR (b := 271) (mz_fe (e := (65, .getfield 113, 149, (12, 48, 2), [])) (by decide +kernel)) rfl tg_239 (by rw [ln_239]; decide) (mz_rfS (by decide +kernel)) ?_
    refine q_ic (v := 4) (mz_fe (e := (68, .iconst 4, 1, (0, 0, 0), [])) (by decide +kernel)) (by decide) ?_
    refine q_o (mz_fe (e := (69, .iload_n 1, 1, (0, 0, 0), [])) (by decide +kernel)) (pc2 := 70) rfl ?_
    refine q_o (mz_fe (e := (70, .imul, 1, (0, 0, 0), [])) (by decide +kernel)) (pc2 := 71) rfl ?_
    refine q_o (mz_fe (e := (71, .iload_n 3, 1, (0, 0, 0), [])) (by decide +kernel)) (pc2 := 72) rfl ?_
    refine q_o (mz_fe (e := (72, .iadd, 1, (0, 0, 0), [])) (by decide +kernel)) (pc2 := 73) rfl ?_
    refine q_ialdg rfl (mz_fe (e := (73, .iaload, 1, (0, 0, 0), [])) (by decide +kernel)) rfl (by decide) tg_271 ln_271 (fun g22 => ?_)
    refine q_o (mz_fe (e := (74, .iload 4, 2, (0, 0, 0), [])) (by decide +kernel)) (pc2 := 76) rfl ?_
    refine q_if (c := .lt) (off := 6) (t := 82) (x := (mz_rd m19 271 ((((4 : Int32) * y1) + y3) : Int32).toNatClampNeg)) (y := y4) (st := []) (mz_fe (e := (76, .if_icmp .lt 6, 3, (0, 0, 0), [])) (by decide +kernel)) (fun _ => rfl) rfl rfl rfl (fun c23 => ?_) (fun c23 => ?_)
    · refine q_iinc (v := y5) (c := 1) (L3 := [some (.ref 239), some (.int y1), some (.int y2), some (.int y3), some (.int y4), some (.int (y5 + 1))]) (mz_fe (e := (82, .iinc 5 1, 3, (0, 0, 0), [])) (by decide +kernel)) rfl rfl (by decide) rfl ?_
      refine q_o (mz_fe (e := (85, .goto (-52), 3, (0, 0, 0), [])) (by decide +kernel)) (pc2 := 33) rfl ?_
      exact congrArg mz_cI (mz_At_msk (L := [some (.ref 239), some (.int y1), some (.int y2), some (.int y3), some (.int y4), some (.int (y5 + 1))]) (L2 := [some (.ref 239), some (.int y1), some (.int y2), some (.int y3), some (.int y4), some (.int (y5 + 1))]) (mz_fe (e := (33, .iload 5, 2, (0, 0, 0), [true, true, true, true, true, true])) (by decide +kernel)) rfl rfl)
    · refine q_o (mz_fe (e := (79, .iload 5, 2, (0, 0, 0), [])) (by decide +kernel)) (pc2 := 81) rfl ?_
      exact q_retI (mz_fe (e := (81, .ireturn, 1, (0, 0, 0), [])) (by decide +kernel)) (by decide +kernel)
set_option maxRecDepth 10000 in
theorem R_X12_fillsFoes_eq (d : Nat)  (m : MzM)  : R_X12_fillsFoes d  m = (R_X12_copies d  m).bind (fun m1 => H_X12_fillsFoes_6 d 0 m1) := by
  show mz_cV (mz_T d 264 0 (mz_en (mz_xl 264) [.ref 239]) [] m) = _
  rw [show mz_en (mz_xl 264) [.ref 239] = [some (.ref 239), none] from by rw [show mz_xl 264 = 2 from by decide +kernel]; rfl]
  refine q_o (mz_fe (e := (0, .aload_n 0, 1, (0, 0, 0), [])) (by decide +kernel)) (pc2 := 1) rfl ?_
  refine q_callV (N := 217) (vs := [.ref 239]) (rest := []) (L' := [some (.ref 239), none]) rfl (mz_fe (e := (1, .invokevirtual 323, 198, (217, 1, 18), [])) (by decide +kernel)) rfl (mz_inv_virt (N := 217) (k := 1) (t := 18) (st := [.ref 239]) (rest := []) (b := 239) (vs := []) (h := (mz_S0, m)) rfl rfl (Nat.le_of_ble_eq_true rfl) (Nat.le_of_ble_eq_true rfl) tg_239 (by decide)) (mz_dc_lt (n := 1) rfl (by decide +kernel) (by decide +kernel)) (by decide +kernel) (by decide +kernel) (fun m1 => ?_)
  refine q_ic (v := 0) (mz_fe (e := (4, .iconst 0, 1, (0, 0, 0), [])) (by decide +kernel)) (by decide) ?_
  refine q_s (mz_fe (e := (5, .istore_n 1, 1, (0, 0, 0), [])) (by decide +kernel)) (pc' := 6) (L' := [some (.ref 239), some (.int 0)]) (st' := []) rfl ?_
  exact congrArg mz_cV (mz_At_msk (L := [some (.ref 239), some (.int 0)]) (L2 := [some (.ref 239), some (.int 0)]) (mz_fe (e := (6, .iload_n 1, 1, (0, 0, 0), [true, true])) (by decide +kernel)) rfl rfl)
set_option maxRecDepth 10000 in
theorem H_X12_fillsFoes_6_eq (d : Nat) (y1 : Int32) (m : MzM)  : H_X12_fillsFoes_6 d y1 m = mz_g (mz_ok (mz_rd m 239 18) 2) (if (mz_rd m 248 ((mz_rd m 239 18) : Int32).toNatClampNeg) ≤ y1 then some m else ((R_X12_foesOf d y1 m).bind (fun u8 => mz_g (mz_ok y1 6) (H_X12_fillsFoes_6 d (y1 + 1) (mz_wr u8.2 275 (y1 : Int32).toNatClampNeg u8.1))))) := by
  show mz_cV (mz_T d 264 6 [some (.ref 239), some (.int y1)] [] m) = _
  refine q_s (mz_fe (e := (6, .iload_n 1, 1, (0, 0, 0), [true, true])) (by decide +kernel)) (pc' := 7) (L' := [some (.ref 239), some (.int y1)]) (st' := [.int y1]) rfl ?_
  refine q_o (mz_fe (e := (7, .aload_n 0, 1, (0, 0, 0), [])) (by decide +kernel)) (pc2 := 8) rfl ?_
  refine q_getR (b := 248) (mz_fe (e := (8, .getfield 43, 126, (12, 21, 2), [])) (by decide +kernel)) rfl tg_239 (by rw [ln_239]; decide) (mz_rfS (by decide +kernel)) ?_
  refine q_o (mz_fe (e := (11, .aload_n 0, 1, (0, 0, 0), [])) (by decide +kernel)) (pc2 := 12) rfl ?_
  refine q_getI (mz_fe (e := (12, .getfield 233, 171, (12, 18, 0), [])) (by decide +kernel)) rfl (by decide) tg_239 (by rw [ln_239]; decide) ?_
  refine q_ialdg rfl (mz_fe (e := (15, .iaload, 1, (0, 0, 0), [])) (by decide +kernel)) rfl (by decide) tg_248 ln_248 (fun g4 => ?_)
  refine q_if (c := .ge) (off := 20) (t := 36) (x := y1) (y := (mz_rd m 248 ((mz_rd m 239 18) : Int32).toNatClampNeg)) (st := []) (mz_fe (e := (16, .if_icmp .ge 20, 3, (0, 0, 0), [])) (by decide +kernel)) (fun _ => rfl) rfl rfl rfl (fun c5 => ?_) (fun c5 => ?_)
  · exact q_retV (mz_fe (e := (36, .return_, 1, (0, 0, 0), [])) (by decide +kernel)) (by decide +kernel)
  · refine q_o (mz_fe (e := (19, .aload_n 0, 1, (0, 0, 0), [])) (by decide +kernel)) (pc2 := 20) rfl ?_
    refine q_getR (b := 275) (mz_fe (e := (20, .getfield 125, 153, (12, 60, 2), [])) (by decide +kernel)) rfl tg_239 (by rw [ln_239]; decide) (mz_rfS (by decide +kernel)) ?_
    refine q_o (mz_fe (e := (23, .iload_n 1, 1, (0, 0, 0), [])) (by decide +kernel)) (pc2 := 24) rfl ?_
    refine q_o (mz_fe (e := (24, .aload_n 0, 1, (0, 0, 0), [])) (by decide +kernel)) (pc2 := 25) rfl ?_
    refine q_o (mz_fe (e := (25, .iload_n 1, 1, (0, 0, 0), [])) (by decide +kernel)) (pc2 := 26) rfl ?_
    refine q_callI (N := 236) (vs := [.ref 239, .int y1]) (rest := [.int y1, .ref 275]) (L' := [some (.ref 239), some (.int y1)]) (f := fun v7 m6 => mz_g (mz_ok y1 6) (H_X12_fillsFoes_6 d (y1 + 1) (mz_wr m6 275 (y1 : Int32).toNatClampNeg v7))) rfl (mz_fe (e := (26, .invokevirtual 384, 217, (236, 2, 18), [])) (by decide +kernel)) rfl (mz_inv_virt (N := 236) (k := 2) (t := 18) (st := [.int y1, .ref 239, .int y1, .ref 275]) (rest := [.int y1, .ref 275]) (b := 239) (vs := [.int y1]) (h := (mz_S0, m)) rfl rfl (Nat.le_of_ble_eq_true rfl) (Nat.le_of_ble_eq_true rfl) tg_239 (by decide)) (mz_dc_lt (n := 2) rfl (by decide +kernel) (by decide +kernel)) (by decide +kernel) (Or.inl (by decide +kernel)) (fun v7 m6 => ?_)
    refine q_stAg (f := (fun x => x)) rfl (mz_fe (e := (29, .iastore, 1, (0, 0, 0), [])) (by decide +kernel)) (fun _ => rfl) rfl tg_275 ln_275 (fun g9 => ?_)
    refine q_iinc (v := y1) (c := 1) (L3 := [some (.ref 239), some (.int (y1 + 1))]) (mz_fe (e := (30, .iinc 1 1, 3, (0, 0, 0), [])) (by decide +kernel)) rfl rfl (by decide) rfl ?_
    refine q_o (mz_fe (e := (33, .goto (-27), 3, (0, 0, 0), [])) (by decide +kernel)) (pc2 := 6) rfl ?_
    exact congrArg mz_cV (mz_At_msk (L := [some (.ref 239), some (.int (y1 + 1))]) (L2 := [some (.ref 239), some (.int (y1 + 1))]) (mz_fe (e := (6, .iload_n 1, 1, (0, 0, 0), [true, true])) (by decide +kernel)) rfl rfl)
set_option maxRecDepth 10000 in
theorem R_X12_isPeace_eq (d : Nat) (x0 : Int32) (m : MzM)  : R_X12_isPeace d x0 m = H_X12_isPeace_2 d x0 0 m := by
  show mz_cI (mz_T d 266 0 (mz_en (mz_xl 266) [.ref 239, .int x0]) [] m) = _
  rw [show mz_en (mz_xl 266) [.ref 239, .int x0] = [some (.ref 239), some (.int x0), none] from by rw [show mz_xl 266 = 3 from by decide +kernel]; rfl]
  refine q_ic (v := 0) (mz_fe (e := (0, .iconst 0, 1, (0, 0, 0), [])) (by decide +kernel)) (by decide) ?_
  refine q_s (mz_fe (e := (1, .istore_n 2, 1, (0, 0, 0), [])) (by decide +kernel)) (pc' := 2) (L' := [some (.ref 239), some (.int x0), some (.int 0)]) (st' := []) rfl ?_
  exact congrArg mz_cI (mz_At_msk (L := [some (.ref 239), some (.int x0), some (.int 0)]) (L2 := [some (.ref 239), some (.int x0), some (.int 0)]) (mz_fe (e := (2, .iload_n 2, 1, (0, 0, 0), [true, true, true])) (by decide +kernel)) rfl rfl)
set_option maxRecDepth 10000 in
theorem H_X12_isPeace_2_eq (d : Nat) (y1 : Int32) (y2 : Int32) (m : MzM)  : H_X12_isPeace_2 d y1 y2 m = mz_g (mz_ok (mz_rd m 239 18) 2) (if (mz_rd m 248 ((mz_rd m 239 18) : Int32).toNatClampNeg) ≤ y2 then (some (1, m)) else (if ¬ ((y1 >>> (y2 &&& 31)) &&& 1) = 0 then (H_X12_isPeace_2 d y1 (y2 + 1) m) else (mz_g (mz_ok y2 6) (if ((mz_rd m 275 (y2 : Int32).toNatClampNeg) &&& (y1 ^^^ (-1))) = 0 then (H_X12_isPeace_2 d y1 (y2 + 1) m) else (some (0, m)))))) := by
  show mz_cI (mz_T d 266 2 [some (.ref 239), some (.int y1), some (.int y2)] [] m) = _
  refine q_s (mz_fe (e := (2, .iload_n 2, 1, (0, 0, 0), [true, true, true])) (by decide +kernel)) (pc' := 3) (L' := [some (.ref 239), some (.int y1), some (.int y2)]) (st' := [.int y2]) rfl ?_
  refine q_o (mz_fe (e := (3, .aload_n 0, 1, (0, 0, 0), [])) (by decide +kernel)) (pc2 := 4) rfl ?_
  refine q_getR (b := 248) (mz_fe (e := (4, .getfield 43, 126, (12, 21, 2), [])) (by decide +kernel)) rfl tg_239 (by rw [ln_239]; decide) (mz_rfS (by decide +kernel)) ?_
  refine q_o (mz_fe (e := (7, .aload_n 0, 1, (0, 0, 0), [])) (by decide +kernel)) (pc2 := 8) rfl ?_
  refine q_getI (mz_fe (e := (8, .getfield 233, 171, (12, 18, 0), [])) (by decide +kernel)) rfl (by decide) tg_239 (by rw [ln_239]; decide) ?_
  refine q_ialdg rfl (mz_fe (e := (11, .iaload, 1, (0, 0, 0), [])) (by decide +kernel)) rfl (by decide) tg_248 ln_248 (fun g1 => ?_)
  refine q_if (c := .ge) (off := 32) (t := 44) (x := y2) (y := (mz_rd m 248 ((mz_rd m 239 18) : Int32).toNatClampNeg)) (st := []) (mz_fe (e := (12, .if_icmp .ge 32, 3, (0, 0, 0), [])) (by decide +kernel)) (fun _ => rfl) rfl rfl rfl (fun c2 => ?_) (fun c2 => ?_)
  · refine q_ic (v := 1) (mz_fe (e := (44, .iconst 1, 1, (0, 0, 0), [])) (by decide +kernel)) (by decide) ?_
    exact q_retZ (mz_fe (e := (45, .ireturn, 1, (0, 0, 0), [])) (by decide +kernel)) (by decide +kernel) (by decide)
  · refine q_o (mz_fe (e := (15, .iload_n 1, 1, (0, 0, 0), [])) (by decide +kernel)) (pc2 := 16) rfl ?_
    refine q_o (mz_fe (e := (16, .iload_n 2, 1, (0, 0, 0), [])) (by decide +kernel)) (pc2 := 17) rfl ?_
    refine q_o (mz_fe (e := (17, .ishr, 1, (0, 0, 0), [])) (by decide +kernel)) (pc2 := 18) rfl ?_
    refine q_ic (v := 1) (mz_fe (e := (18, .iconst 1, 1, (0, 0, 0), [])) (by decide +kernel)) (by decide) ?_
    refine q_o (mz_fe (e := (19, .iand, 1, (0, 0, 0), [])) (by decide +kernel)) (pc2 := 20) rfl ?_
    refine q_if (c := .ne) (off := 18) (t := 38) (x := ((y1 >>> (y2 &&& 31)) &&& 1)) (y := 0) (st := []) (mz_fe (e := (20, .ifCond .ne 18, 3, (0, 0, 0), [])) (by decide +kernel)) (fun _ => rfl) rfl rfl rfl (fun c3 => ?_) (fun c3 => ?_)
    · refine q_iinc (v := y2) (c := 1) (L3 := [some (.ref 239), some (.int y1), some (.int (y2 + 1))]) (mz_fe (e := (38, .iinc 2 1, 3, (0, 0, 0), [])) (by decide +kernel)) rfl rfl (by decide) rfl ?_
      refine q_o (mz_fe (e := (41, .goto (-39), 3, (0, 0, 0), [])) (by decide +kernel)) (pc2 := 2) rfl ?_
      exact congrArg mz_cI (mz_At_msk (L := [some (.ref 239), some (.int y1), some (.int (y2 + 1))]) (L2 := [some (.ref 239), some (.int y1), some (.int (y2 + 1))]) (mz_fe (e := (2, .iload_n 2, 1, (0, 0, 0), [true, true, true])) (by decide +kernel)) rfl rfl)
    · refine q_o (mz_fe (e := (23, .aload_n 0, 1, (0, 0, 0), [])) (by decide +kernel)) (pc2 := 24) rfl ?_
      refine q_getR (b := 275) (mz_fe (e := (24, .getfield 125, 153, (12, 60, 2), [])) (by decide +kernel)) rfl tg_239 (by rw [ln_239]; decide) (mz_rfS (by decide +kernel)) ?_
      refine q_o (mz_fe (e := (27, .iload_n 2, 1, (0, 0, 0), [])) (by decide +kernel)) (pc2 := 28) rfl ?_
      refine q_ialdg rfl (mz_fe (e := (28, .iaload, 1, (0, 0, 0), [])) (by decide +kernel)) rfl (by decide) tg_275 ln_275 (fun g4 => ?_)
      refine q_o (mz_fe (e := (29, .iload_n 1, 1, (0, 0, 0), [])) (by decide +kernel)) (pc2 := 30) rfl ?_
      refine q_ic (v := (-1)) (mz_fe (e := (30, .iconst (-1), 1, (0, 0, 0), [])) (by decide +kernel)) (by decide) ?_
      refine q_o (mz_fe (e := (31, .ixor, 1, (0, 0, 0), [])) (by decide +kernel)) (pc2 := 32) rfl ?_
      refine q_o (mz_fe (e := (32, .iand, 1, (0, 0, 0), [])) (by decide +kernel)) (pc2 := 33) rfl ?_
      refine q_if (c := .eq) (off := 5) (t := 38) (x := ((mz_rd m 275 (y2 : Int32).toNatClampNeg) &&& (y1 ^^^ (-1)))) (y := 0) (st := []) (mz_fe (e := (33, .ifCond .eq 5, 3, (0, 0, 0), [])) (by decide +kernel)) (fun _ => rfl) rfl rfl rfl (fun c5 => ?_) (fun c5 => ?_)
      · refine q_iinc (v := y2) (c := 1) (L3 := [some (.ref 239), some (.int y1), some (.int (y2 + 1))]) (mz_fe (e := (38, .iinc 2 1, 3, (0, 0, 0), [])) (by decide +kernel)) rfl rfl (by decide) rfl ?_
        refine q_o (mz_fe (e := (41, .goto (-39), 3, (0, 0, 0), [])) (by decide +kernel)) (pc2 := 2) rfl ?_
        exact congrArg mz_cI (mz_At_msk (L := [some (.ref 239), some (.int y1), some (.int (y2 + 1))]) (L2 := [some (.ref 239), some (.int y1), some (.int (y2 + 1))]) (mz_fe (e := (2, .iload_n 2, 1, (0, 0, 0), [true, true, true])) (by decide +kernel)) rfl rfl)
      · refine q_ic (v := 0) (mz_fe (e := (36, .iconst 0, 1, (0, 0, 0), [])) (by decide +kernel)) (by decide) ?_
        exact q_retZ (mz_fe (e := (37, .ireturn, 1, (0, 0, 0), [])) (by decide +kernel)) (by decide +kernel) (by decide)
set_option maxRecDepth 10000 in
theorem R_X12_lowestOf_eq (d : Nat) (x0 : Int32) (m : MzM)  : R_X12_lowestOf d x0 m = H_X12_lowestOf_2 d x0 0 m := by
  show mz_cI (mz_T d 268 0 (mz_en (mz_xl 268) [.int x0]) [] m) = _
  rw [show mz_en (mz_xl 268) [.int x0] = [some (.int x0), none] from by rw [show mz_xl 268 = 2 from by decide +kernel]; rfl]
  refine q_ic (v := 0) (mz_fe (e := (0, .iconst 0, 1, (0, 0, 0), [])) (by decide +kernel)) (by decide) ?_
  refine q_s (mz_fe (e := (1, .istore_n 1, 1, (0, 0, 0), [])) (by decide +kernel)) (pc' := 2) (L' := [some (.int x0), some (.int 0)]) (st' := []) rfl ?_
  exact congrArg mz_cI (mz_At_msk (L := [some (.int x0), some (.int 0)]) (L2 := [some (.int x0), some (.int 0)]) (mz_fe (e := (2, .iload_n 0, 1, (0, 0, 0), [true, true])) (by decide +kernel)) rfl rfl)
set_option maxRecDepth 10000 in
theorem H_X12_lowestOf_2_eq (d : Nat) (y0 : Int32) (y1 : Int32) (m : MzM)  : H_X12_lowestOf_2 d y0 y1 m = if ¬ ((y0 >>> (y1 &&& 31)) &&& 1) = 0 then (some (y1, m)) else (H_X12_lowestOf_2 d y0 (y1 + 1) m) := by
  show mz_cI (mz_T d 268 2 [some (.int y0), some (.int y1)] [] m) = _
  refine q_s (mz_fe (e := (2, .iload_n 0, 1, (0, 0, 0), [true, true])) (by decide +kernel)) (pc' := 3) (L' := [some (.int y0), some (.int y1)]) (st' := [.int y0]) rfl ?_
  refine q_o (mz_fe (e := (3, .iload_n 1, 1, (0, 0, 0), [])) (by decide +kernel)) (pc2 := 4) rfl ?_
  refine q_o (mz_fe (e := (4, .ishr, 1, (0, 0, 0), [])) (by decide +kernel)) (pc2 := 5) rfl ?_
  refine q_ic (v := 1) (mz_fe (e := (5, .iconst 1, 1, (0, 0, 0), [])) (by decide +kernel)) (by decide) ?_
  refine q_o (mz_fe (e := (6, .iand, 1, (0, 0, 0), [])) (by decide +kernel)) (pc2 := 7) rfl ?_
  refine q_if (c := .ne) (off := 9) (t := 16) (x := ((y0 >>> (y1 &&& 31)) &&& 1)) (y := 0) (st := []) (mz_fe (e := (7, .ifCond .ne 9, 3, (0, 0, 0), [])) (by decide +kernel)) (fun _ => rfl) rfl rfl rfl (fun c1 => ?_) (fun c1 => ?_)
  · refine q_o (mz_fe (e := (16, .iload_n 1, 1, (0, 0, 0), [])) (by decide +kernel)) (pc2 := 17) rfl ?_
    exact q_retI (mz_fe (e := (17, .ireturn, 1, (0, 0, 0), [])) (by decide +kernel)) (by decide +kernel)
  · refine q_iinc (v := y1) (c := 1) (L3 := [some (.int y0), some (.int (y1 + 1))]) (mz_fe (e := (10, .iinc 1 1, 3, (0, 0, 0), [])) (by decide +kernel)) rfl rfl (by decide) rfl ?_
    refine q_o (mz_fe (e := (13, .goto (-11), 3, (0, 0, 0), [])) (by decide +kernel)) (pc2 := 2) rfl ?_
    exact congrArg mz_cI (mz_At_msk (L := [some (.int y0), some (.int (y1 + 1))]) (L2 := [some (.int y0), some (.int (y1 + 1))]) (mz_fe (e := (2, .iload_n 0, 1, (0, 0, 0), [true, true])) (by decide +kernel)) rfl rfl)
set_option maxRecDepth 10000 in
theorem R_X12_pairedOf_eq (d : Nat) (x0 : Int32) (m : MzM)  : R_X12_pairedOf d x0 m = (R_X12_lowestOf d x0 m).bind (fun u3 => mz_g (mz_ok (x0 &&& (((1 : Int32) <<< (u3.1 &&& 31)) ^^^ (-1))) 64) (mz_g (mz_ok x0 64) (if ¬ (mz_rd u3.2 276 ((x0 &&& (((1 : Int32) <<< (u3.1 &&& 31)) ^^^ (-1))) : Int32).toNatClampNeg) = (mz_rd u3.2 276 (x0 : Int32).toNatClampNeg) then (H_X12_pairedOf_36 d x0 u3.1 (x0 &&& (((1 : Int32) <<< (u3.1 &&& 31)) ^^^ (-1))) (u3.1 + 1) u3.2) else (some ((-2), u3.2))))) := by
  show mz_cI (mz_T d 270 0 (mz_en (mz_xl 270) [.ref 239, .int x0]) [] m) = _
  rw [show mz_en (mz_xl 270) [.ref 239, .int x0] = [some (.ref 239), some (.int x0), none, none, none] from by rw [show mz_xl 270 = 5 from by decide +kernel]; rfl]
  refine q_o (mz_fe (e := (0, .iload_n 1, 1, (0, 0, 0), [])) (by decide +kernel)) (pc2 := 1) rfl ?_
  refine q_callI (N := 268) (vs := [.int x0]) (rest := []) (L' := [some (.ref 239), some (.int x0), none, none, none]) (f := fun v2 m1 => mz_g (mz_ok (x0 &&& (((1 : Int32) <<< (v2 &&& 31)) ^^^ (-1))) 64) (mz_g (mz_ok x0 64) (if ¬ (mz_rd m1 276 ((x0 &&& (((1 : Int32) <<< (v2 &&& 31)) ^^^ (-1))) : Int32).toNatClampNeg) = (mz_rd m1 276 (x0 : Int32).toNatClampNeg) then (H_X12_pairedOf_36 d x0 v2 (x0 &&& (((1 : Int32) <<< (v2 &&& 31)) ^^^ (-1))) (v2 + 1) m1) else (some ((-2), m1))))) rfl (mz_fe (e := (1, .invokestatic 451, 234, (268, 1, 1000), [])) (by decide +kernel)) rfl (mz_inv_stat (N := 268) (k := 1) (st := [.int x0]) (rest := []) (vs := [.int x0]) (h := (mz_S0, m)) rfl rfl (Nat.le_of_ble_eq_true rfl) (Nat.le_of_ble_eq_true rfl)) (mz_dc_lt (n := 1) rfl (by decide +kernel) (by decide +kernel)) (by decide +kernel) (Or.inl (by decide +kernel)) (fun v2 m1 => ?_)
  refine q_s (mz_fe (e := (4, .istore_n 2, 1, (0, 0, 0), [])) (by decide +kernel)) (pc' := 5) (L' := [some (.ref 239), some (.int x0), some (.int v2), none, none]) (st' := []) rfl ?_
  refine q_o (mz_fe (e := (5, .iload_n 1, 1, (0, 0, 0), [])) (by decide +kernel)) (pc2 := 6) rfl ?_
  refine q_ic (v := 1) (mz_fe (e := (6, .iconst 1, 1, (0, 0, 0), [])) (by decide +kernel)) (by decide) ?_
  refine q_o (mz_fe (e := (7, .iload_n 2, 1, (0, 0, 0), [])) (by decide +kernel)) (pc2 := 8) rfl ?_
  refine q_o (mz_fe (e := (8, .ishl, 1, (0, 0, 0), [])) (by decide +kernel)) (pc2 := 9) rfl ?_
  refine q_ic (v := (-1)) (mz_fe (e := (9, .iconst (-1), 1, (0, 0, 0), [])) (by decide +kernel)) (by decide) ?_
  refine q_o (mz_fe (e := (10, .ixor, 1, (0, 0, 0), [])) (by decide +kernel)) (pc2 := 11) rfl ?_
  refine q_o (mz_fe (e := (11, .iand, 1, (0, 0, 0), [])) (by decide +kernel)) (pc2 := 12) rfl ?_
  refine q_s (mz_fe (e := (12, .istore_n 3, 1, (0, 0, 0), [])) (by decide +kernel)) (pc' := 13) (L' := [some (.ref 239), some (.int x0), some (.int v2), some (.int (x0 &&& (((1 : Int32) <<< (v2 &&& 31)) ^^^ (-1)))), none]) (st' := []) rfl ?_
  refine q_o (mz_fe (e := (13, .aload_n 0, 1, (0, 0, 0), [])) (by decide +kernel)) (pc2 := 14) rfl ?_
  refine q_getR (b := 276) (mz_fe (e := (14, .getfield 128, 154, (12, 61, 2), [])) (by decide +kernel)) rfl tg_239 (by rw [ln_239]; decide) (mz_rfS (by decide +kernel)) ?_
  refine q_o (mz_fe (e := (17, .iload_n 3, 1, (0, 0, 0), [])) (by decide +kernel)) (pc2 := 18) rfl ?_
  refine q_ialdg rfl (mz_fe (e := (18, .iaload, 1, (0, 0, 0), [])) (by decide +kernel)) rfl (by decide) tg_276 ln_276 (fun g4 => ?_)
  refine q_o (mz_fe (e := (19, .aload_n 0, 1, (0, 0, 0), [])) (by decide +kernel)) (pc2 := 20) rfl ?_
  refine q_getR (b := 276) (mz_fe (e := (20, .getfield 128, 154, (12, 61, 2), [])) (by decide +kernel)) rfl tg_239 (by rw [ln_239]; decide) (mz_rfS (by decide +kernel)) ?_
  refine q_o (mz_fe (e := (23, .iload_n 1, 1, (0, 0, 0), [])) (by decide +kernel)) (pc2 := 24) rfl ?_
  refine q_ialdg rfl (mz_fe (e := (24, .iaload, 1, (0, 0, 0), [])) (by decide +kernel)) rfl (by decide) tg_276 ln_276 (fun g5 => ?_)
  refine q_if (c := .ne) (off := 6) (t := 31) (x := (mz_rd m1 276 ((x0 &&& (((1 : Int32) <<< (v2 &&& 31)) ^^^ (-1))) : Int32).toNatClampNeg)) (y := (mz_rd m1 276 (x0 : Int32).toNatClampNeg)) (st := []) (mz_fe (e := (25, .if_icmp .ne 6, 3, (0, 0, 0), [])) (by decide +kernel)) (fun _ => rfl) rfl rfl rfl (fun c6 => ?_) (fun c6 => ?_)
  · refine q_o (mz_fe (e := (31, .iload_n 2, 1, (0, 0, 0), [])) (by decide +kernel)) (pc2 := 32) rfl ?_
    refine q_ic (v := 1) (mz_fe (e := (32, .iconst 1, 1, (0, 0, 0), [])) (by decide +kernel)) (by decide) ?_
    refine q_o (mz_fe (e := (33, .iadd, 1, (0, 0, 0), [])) (by decide +kernel)) (pc2 := 34) rfl ?_
    refine q_s (mz_fe (e := (34, .istore 4, 2, (0, 0, 0), [])) (by decide +kernel)) (pc' := 36) (L' := [some (.ref 239), some (.int x0), some (.int v2), some (.int (x0 &&& (((1 : Int32) <<< (v2 &&& 31)) ^^^ (-1)))), some (.int (v2 + 1))]) (st' := []) rfl ?_
    exact congrArg mz_cI (mz_At_msk (L := [some (.ref 239), some (.int x0), some (.int v2), some (.int (x0 &&& (((1 : Int32) <<< (v2 &&& 31)) ^^^ (-1)))), some (.int (v2 + 1))]) (L2 := [some (.ref 239), some (.int x0), some (.int v2), some (.int (x0 &&& (((1 : Int32) <<< (v2 &&& 31)) ^^^ (-1)))), some (.int (v2 + 1))]) (mz_fe (e := (36, .iload_n 3, 1, (0, 0, 0), [true, true, true, true, true])) (by decide +kernel)) rfl rfl)
  · refine q_bi (v := (-2)) (mz_fe (e := (28, .bipush (-2), 2, (0, 0, 0), [])) (by decide +kernel)) (by decide) ?_
    exact q_retI (mz_fe (e := (30, .ireturn, 1, (0, 0, 0), [])) (by decide +kernel)) (by decide +kernel)
set_option maxRecDepth 10000 in
theorem H_X12_pairedOf_36_eq (d : Nat) (y1 : Int32) (y2 : Int32) (y3 : Int32) (y4 : Int32) (m : MzM)  : H_X12_pairedOf_36 d y1 y2 y3 y4 m = mz_g (mz_ok y2 6) (if ((y3 &&& (mz_rd m 275 (y2 : Int32).toNatClampNeg)) &&& ((1 : Int32) <<< (y4 &&& 31))) = 0 then (H_X12_pairedOf_36 d y1 y2 y3 (y4 + 1) m) else (mz_g (mz_ok (y3 &&& (((1 : Int32) <<< (y4 &&& 31)) ^^^ (-1))) 64) (mz_g (mz_ok y1 64) (if ((1 : Int32) + (mz_rd m 276 ((y3 &&& (((1 : Int32) <<< (y4 &&& 31)) ^^^ (-1))) : Int32).toNatClampNeg)) = (mz_rd m 276 (y1 : Int32).toNatClampNeg) then (some (y4, m)) else (H_X12_pairedOf_36 d y1 y2 y3 (y4 + 1) m))))) := by
  show mz_cI (mz_T d 270 36 [some (.ref 239), some (.int y1), some (.int y2), some (.int y3), some (.int y4)] [] m) = _
  refine q_s (mz_fe (e := (36, .iload_n 3, 1, (0, 0, 0), [true, true, true, true, true])) (by decide +kernel)) (pc' := 37) (L' := [some (.ref 239), some (.int y1), some (.int y2), some (.int y3), some (.int y4)]) (st' := [.int y3]) rfl ?_
  refine q_o (mz_fe (e := (37, .aload_n 0, 1, (0, 0, 0), [])) (by decide +kernel)) (pc2 := 38) rfl ?_
  refine q_getR (b := 275) (mz_fe (e := (38, .getfield 125, 153, (12, 60, 2), [])) (by decide +kernel)) rfl tg_239 (by rw [ln_239]; decide) (mz_rfS (by decide +kernel)) ?_
  refine q_o (mz_fe (e := (41, .iload_n 2, 1, (0, 0, 0), [])) (by decide +kernel)) (pc2 := 42) rfl ?_
  refine q_ialdg rfl (mz_fe (e := (42, .iaload, 1, (0, 0, 0), [])) (by decide +kernel)) rfl (by decide) tg_275 ln_275 (fun g7 => ?_)
  refine q_o (mz_fe (e := (43, .iand, 1, (0, 0, 0), [])) (by decide +kernel)) (pc2 := 44) rfl ?_
  refine q_ic (v := 1) (mz_fe (e := (44, .iconst 1, 1, (0, 0, 0), [])) (by decide +kernel)) (by decide) ?_
  refine q_o (mz_fe (e := (45, .iload 4, 2, (0, 0, 0), [])) (by decide +kernel)) (pc2 := 47) rfl ?_
  refine q_o (mz_fe (e := (47, .ishl, 1, (0, 0, 0), [])) (by decide +kernel)) (pc2 := 48) rfl ?_
  refine q_o (mz_fe (e := (48, .iand, 1, (0, 0, 0), [])) (by decide +kernel)) (pc2 := 49) rfl ?_
  refine q_if (c := .eq) (off := 27) (t := 76) (x := ((y3 &&& (mz_rd m 275 (y2 : Int32).toNatClampNeg)) &&& ((1 : Int32) <<< (y4 &&& 31)))) (y := 0) (st := []) (mz_fe (e := (49, .ifCond .eq 27, 3, (0, 0, 0), [])) (by decide +kernel)) (fun _ => rfl) rfl rfl rfl (fun c8 => ?_) (fun c8 => ?_)
  · refine q_iinc (v := y4) (c := 1) (L3 := [some (.ref 239), some (.int y1), some (.int y2), some (.int y3), some (.int (y4 + 1))]) (mz_fe (e := (76, .iinc 4 1, 3, (0, 0, 0), [])) (by decide +kernel)) rfl rfl (by decide) rfl ?_
    refine q_o (mz_fe (e := (79, .goto (-43), 3, (0, 0, 0), [])) (by decide +kernel)) (pc2 := 36) rfl ?_
    exact congrArg mz_cI (mz_At_msk (L := [some (.ref 239), some (.int y1), some (.int y2), some (.int y3), some (.int (y4 + 1))]) (L2 := [some (.ref 239), some (.int y1), some (.int y2), some (.int y3), some (.int (y4 + 1))]) (mz_fe (e := (36, .iload_n 3, 1, (0, 0, 0), [true, true, true, true, true])) (by decide +kernel)) rfl rfl)
  · refine q_ic (v := 1) (mz_fe (e := (52, .iconst 1, 1, (0, 0, 0), [])) (by decide +kernel)) (by decide) ?_
    refine q_o (mz_fe (e := (53, .aload_n 0, 1, (0, 0, 0), [])) (by decide +kernel)) (pc2 := 54) rfl ?_
    refine q_getR (b := 276) (mz_fe (e := (54, .getfield 128, 154, (12, 61, 2), [])) (by decide +kernel)) rfl tg_239 (by rw [ln_239]; decide) (mz_rfS (by decide +kernel)) ?_
    refine q_o (mz_fe (e := (57, .iload_n 3, 1, (0, 0, 0), [])) (by decide +kernel)) (pc2 := 58) rfl ?_
    refine q_ic (v := 1) (mz_fe (e := (58, .iconst 1, 1, (0, 0, 0), [])) (by decide +kernel)) (by decide) ?_
    refine q_o (mz_fe (e := (59, .iload 4, 2, (0, 0, 0), [])) (by decide +kernel)) (pc2 := 61) rfl ?_
    refine q_o (mz_fe (e := (61, .ishl, 1, (0, 0, 0), [])) (by decide +kernel)) (pc2 := 62) rfl ?_
    refine q_ic (v := (-1)) (mz_fe (e := (62, .iconst (-1), 1, (0, 0, 0), [])) (by decide +kernel)) (by decide) ?_
    refine q_o (mz_fe (e := (63, .ixor, 1, (0, 0, 0), [])) (by decide +kernel)) (pc2 := 64) rfl ?_
    refine q_o (mz_fe (e := (64, .iand, 1, (0, 0, 0), [])) (by decide +kernel)) (pc2 := 65) rfl ?_
    refine q_ialdg rfl (mz_fe (e := (65, .iaload, 1, (0, 0, 0), [])) (by decide +kernel)) rfl (by decide) tg_276 ln_276 (fun g9 => ?_)
    refine q_o (mz_fe (e := (66, .iadd, 1, (0, 0, 0), [])) (by decide +kernel)) (pc2 := 67) rfl ?_
    refine q_o (mz_fe (e := (67, .aload_n 0, 1, (0, 0, 0), [])) (by decide +kernel)) (pc2 := 68) rfl ?_
    refine q_getR (b := 276) (mz_fe (e := (68, .getfield 128, 154, (12, 61, 2), [])) (by decide +kernel)) rfl tg_239 (by rw [ln_239]; decide) (mz_rfS (by decide +kernel)) ?_
    refine q_o (mz_fe (e := (71, .iload_n 1, 1, (0, 0, 0), [])) (by decide +kernel)) (pc2 := 72) rfl ?_
    refine q_ialdg rfl (mz_fe (e := (72, .iaload, 1, (0, 0, 0), [])) (by decide +kernel)) rfl (by decide) tg_276 ln_276 (fun g10 => ?_)
    refine q_if (c := .eq) (off := 9) (t := 82) (x := ((1 : Int32) + (mz_rd m 276 ((y3 &&& (((1 : Int32) <<< (y4 &&& 31)) ^^^ (-1))) : Int32).toNatClampNeg))) (y := (mz_rd m 276 (y1 : Int32).toNatClampNeg)) (st := []) (mz_fe (e := (73, .if_icmp .eq 9, 3, (0, 0, 0), [])) (by decide +kernel)) (fun _ => rfl) rfl rfl rfl (fun c11 => ?_) (fun c11 => ?_)
    · refine q_o (mz_fe (e := (82, .iload 4, 2, (0, 0, 0), [])) (by decide +kernel)) (pc2 := 84) rfl ?_
      exact q_retI (mz_fe (e := (84, .ireturn, 1, (0, 0, 0), [])) (by decide +kernel)) (by decide +kernel)
    · refine q_iinc (v := y4) (c := 1) (L3 := [some (.ref 239), some (.int y1), some (.int y2), some (.int y3), some (.int (y4 + 1))]) (mz_fe (e := (76, .iinc 4 1, 3, (0, 0, 0), [])) (by decide +kernel)) rfl rfl (by decide) rfl ?_
      refine q_o (mz_fe (e := (79, .goto (-43), 3, (0, 0, 0), [])) (by decide +kernel)) (pc2 := 36) rfl ?_
      exact congrArg mz_cI (mz_At_msk (L := [some (.ref 239), some (.int y1), some (.int y2), some (.int y3), some (.int (y4 + 1))]) (L2 := [some (.ref 239), some (.int y1), some (.int y2), some (.int y3), some (.int (y4 + 1))]) (mz_fe (e := (36, .iload_n 3, 1, (0, 0, 0), [true, true, true, true, true])) (by decide +kernel)) rfl rfl)
set_option maxRecDepth 10000 in
theorem R_X12_most_eq (d : Nat) (x0 : Int32) (x1 : Int32) (m : MzM)  : R_X12_most d x0 x1 m = (R_X12_isStuff d x0 m).bind (fun u3 => if u3.1 = 0 then (some ((-1), u3.2)) else ((R_X12_in d x1 0 1 u3.2).bind (fun u7 => if ¬ u7.1 = 0 then (H_X12_most_24 d x0 x1 (-2) 0 u7.2) else (some ((-1), u7.2))))) := by
  show mz_cI (mz_T d 272 0 (mz_en (mz_xl 272) [.ref 239, .int x0, .int x1]) [] m) = _
  rw [show mz_en (mz_xl 272) [.ref 239, .int x0, .int x1] = [some (.ref 239), some (.int x0), some (.int x1), none, none] from by rw [show mz_xl 272 = 5 from by decide +kernel]; rfl]
  refine q_o (mz_fe (e := (0, .iload_n 1, 1, (0, 0, 0), [])) (by decide +kernel)) (pc2 := 1) rfl ?_
  refine q_callI (N := 214) (vs := [.int x0]) (rest := []) (L' := [some (.ref 239), some (.int x0), some (.int x1), none, none]) (f := fun v2 m1 => if v2 = 0 then (some ((-1), m1)) else ((R_X12_in d x1 0 1 m1).bind (fun u7 => if ¬ u7.1 = 0 then (H_X12_most_24 d x0 x1 (-2) 0 u7.2) else (some ((-1), u7.2))))) rfl (mz_fe (e := (1, .invokestatic 387, 218, (214, 1, 1000), [])) (by decide +kernel)) rfl (mz_inv_stat (N := 214) (k := 1) (st := [.int x0]) (rest := []) (vs := [.int x0]) (h := (mz_S0, m)) rfl rfl (Nat.le_of_ble_eq_true rfl) (Nat.le_of_ble_eq_true rfl)) (mz_dc_lt (n := 1) rfl (by decide +kernel) (by decide +kernel)) (by decide +kernel) (Or.inr (by decide +kernel)) (fun v2 m1 => ?_)
  refine q_if (c := .eq) (off := 12) (t := 16) (x := v2) (y := 0) (st := []) (mz_fe (e := (4, .ifCond .eq 12, 3, (0, 0, 0), [])) (by decide +kernel)) (fun _ => rfl) rfl rfl rfl (fun c4 => ?_) (fun c4 => ?_)
  · refine q_ic (v := (-1)) (mz_fe (e := (16, .iconst (-1), 1, (0, 0, 0), [])) (by decide +kernel)) (by decide) ?_
    exact q_retI (mz_fe (e := (17, .ireturn, 1, (0, 0, 0), [])) (by decide +kernel)) (by decide +kernel)
  · refine q_o (mz_fe (e := (7, .iload_n 2, 1, (0, 0, 0), [])) (by decide +kernel)) (pc2 := 8) rfl ?_
    refine q_ic (v := 0) (mz_fe (e := (8, .iconst 0, 1, (0, 0, 0), [])) (by decide +kernel)) (by decide) ?_
    refine q_ic (v := 1) (mz_fe (e := (9, .iconst 1, 1, (0, 0, 0), [])) (by decide +kernel)) (by decide) ?_
    refine q_callI (N := 208) (vs := [.int x1, .int 0, .int 1]) (rest := []) (L' := [some (.ref 239), some (.int x0), some (.int x1), none, none]) (f := fun v6 m5 => if ¬ v6 = 0 then (H_X12_most_24 d x0 x1 (-2) 0 m5) else (some ((-1), m5))) rfl (mz_fe (e := (10, .invokestatic 310, 196, (208, 3, 1000), [])) (by decide +kernel)) rfl (mz_inv_stat (N := 208) (k := 3) (st := [.int 1, .int 0, .int x1]) (rest := []) (vs := [.int x1, .int 0, .int 1]) (h := (mz_S0, m1)) rfl rfl (Nat.le_of_ble_eq_true rfl) (Nat.le_of_ble_eq_true rfl)) (mz_dc_lt (n := 3) rfl (by decide +kernel) (by decide +kernel)) (by decide +kernel) (Or.inr (by decide +kernel)) (fun v6 m5 => ?_)
    refine q_if (c := .ne) (off := 5) (t := 18) (x := v6) (y := 0) (st := []) (mz_fe (e := (13, .ifCond .ne 5, 3, (0, 0, 0), [])) (by decide +kernel)) (fun _ => rfl) rfl rfl rfl (fun c8 => ?_) (fun c8 => ?_)
    · refine q_bi (v := (-2)) (mz_fe (e := (18, .bipush (-2), 2, (0, 0, 0), [])) (by decide +kernel)) (by decide) ?_
      refine q_s (mz_fe (e := (20, .istore_n 3, 1, (0, 0, 0), [])) (by decide +kernel)) (pc' := 21) (L' := [some (.ref 239), some (.int x0), some (.int x1), some (.int (-2)), none]) (st' := []) rfl ?_
      refine q_ic (v := 0) (mz_fe (e := (21, .iconst 0, 1, (0, 0, 0), [])) (by decide +kernel)) (by decide) ?_
      refine q_s (mz_fe (e := (22, .istore 4, 2, (0, 0, 0), [])) (by decide +kernel)) (pc' := 24) (L' := [some (.ref 239), some (.int x0), some (.int x1), some (.int (-2)), some (.int 0)]) (st' := []) rfl ?_
      exact congrArg mz_cI (mz_At_msk (L := [some (.ref 239), some (.int x0), some (.int x1), some (.int (-2)), some (.int 0)]) (L2 := [some (.ref 239), some (.int x0), some (.int x1), some (.int (-2)), some (.int 0)]) (mz_fe (e := (24, .iload 4, 2, (0, 0, 0), [true, true, true, true, true])) (by decide +kernel)) rfl rfl)
    · refine q_ic (v := (-1)) (mz_fe (e := (16, .iconst (-1), 1, (0, 0, 0), [])) (by decide +kernel)) (by decide) ?_
      exact q_retI (mz_fe (e := (17, .ireturn, 1, (0, 0, 0), [])) (by decide +kernel)) (by decide +kernel)
set_option maxRecDepth 10000 in
theorem H_X12_most_24_eq (d : Nat) (y1 : Int32) (y2 : Int32) (y3 : Int32) (y4 : Int32) (m : MzM)  : H_X12_most_24 d y1 y2 y3 y4 m = mz_g (mz_ok (mz_rd m 239 18) 2) (if (mz_rd m 248 ((mz_rd m 239 18) : Int32).toNatClampNeg) ≤ y4 then (if y3 < 0 then (some (y3, m)) else (if ¬ y2 = 0 then (mz_g (mz_ok (((4 : Int32) * y3) + y1) 39) (some ((mz_rd m 270 ((((4 : Int32) * y3) + y1) : Int32).toNatClampNeg), m))) else (some (y3, m)))) else (if y3 < 0 then (H_X12_most_24 d y1 y2 y4 (y4 + 1) m) else (mz_g (mz_ok (((4 : Int32) * y4) + y1) 39) (mz_g (mz_ok (((4 : Int32) * y3) + y1) 39) (if (mz_rd m 270 ((((4 : Int32) * y4) + y1) : Int32).toNatClampNeg) ≤ (mz_rd m 270 ((((4 : Int32) * y3) + y1) : Int32).toNatClampNeg) then (H_X12_most_24 d y1 y2 y3 (y4 + 1) m) else (H_X12_most_24 d y1 y2 y4 (y4 + 1) m)))))) := by
  show mz_cI (mz_T d 272 24 [some (.ref 239), some (.int y1), some (.int y2), some (.int y3), some (.int y4)] [] m) = _
  refine q_s (mz_fe (e := (24, .iload 4, 2, (0, 0, 0), [true, true, true, true, true])) (by decide +kernel)) (pc' := 26) (L' := [some (.ref 239), some (.int y1), some (.int y2), some (.int y3), some (.int y4)]) (st' := [.int y4]) rfl ?_
  refine q_o (mz_fe (e := (26, .aload_n 0, 1, (0, 0, 0), [])) (by decide +kernel)) (pc2 := 27) rfl ?_
  refine q_getR (b := 248) (mz_fe (e := (27, .getfield 43, 126, (12, 21, 2), [])) (by decide +kernel)) rfl tg_239 (by rw [ln_239]; decide) (mz_rfS (by decide +kernel)) ?_
  refine q_o (mz_fe (e := (30, .aload_n 0, 1, (0, 0, 0), [])) (by decide +kernel)) (pc2 := 31) rfl ?_
  refine q_getI (mz_fe (e := (31, .getfield 233, 171, (12, 18, 0), [])) (by decide +kernel)) rfl (by decide) tg_239 (by rw [ln_239]; decide) ?_
  refine q_ialdg rfl (mz_fe (e := (34, .iaload, 1, (0, 0, 0), [])) (by decide +kernel)) rfl (by decide) tg_248 ln_248 (fun g9 => ?_)
  refine q_if (c := .ge) (off := 40) (t := 75) (x := y4) (y := (mz_rd m 248 ((mz_rd m 239 18) : Int32).toNatClampNeg)) (st := []) (mz_fe (e := (35, .if_icmp .ge 40, 3, (0, 0, 0), [])) (by decide +kernel)) (fun _ => rfl) rfl rfl rfl (fun c10 => ?_) (fun c10 => ?_)
  · refine q_o (mz_fe (e := (75, .iload_n 3, 1, (0, 0, 0), [])) (by decide +kernel)) (pc2 := 76) rfl ?_
    refine q_if (c := .lt) (off := 7) (t := 83) (x := y3) (y := 0) (st := []) (mz_fe (e := (76, .ifCond .lt 7, 3, (0, 0, 0), [])) (by decide +kernel)) (fun _ => rfl) rfl rfl rfl (fun c11 => ?_) (fun c11 => ?_)
    · refine q_o (mz_fe (e := (83, .iload_n 3, 1, (0, 0, 0), [])) (by decide +kernel)) (pc2 := 84) rfl ?_
      refine q_o (mz_fe (e := (84, .goto 13, 3, (0, 0, 0), [])) (by decide +kernel)) (pc2 := 97) rfl ?_
      exact q_retI (mz_fe (e := (97, .ireturn, 1, (0, 0, 0), [])) (by decide +kernel)) (by decide +kernel)
    · refine q_o (mz_fe (e := (79, .iload_n 2, 1, (0, 0, 0), [])) (by decide +kernel)) (pc2 := 80) rfl ?_
      refine q_if (c := .ne) (off := 7) (t := 87) (x := y2) (y := 0) (st := []) (mz_fe (e := (80, .ifCond .ne 7, 3, (0, 0, 0), [])) (by decide +kernel)) (fun _ => rfl) rfl rfl rfl (fun c12 => ?_) (fun c12 => ?_)
      · refine q_o (mz_fe (e := (87, .aload_n 0, 1, (0, 0, 0), [])) (by decide +kernel)) (pc2 := 88) rfl ?_
        refine q_getR (b := 270) (mz_fe (e := (88, .getfield 110, 148, (12, 47, 2), [])) (by decide +kernel)) rfl tg_239 (by rw [ln_239]; decide) (mz_rfS (by decide +kernel)) ?_
        refine q_ic (v := 4) (mz_fe (e := (91, .iconst 4, 1, (0, 0, 0), [])) (by decide +kernel)) (by decide) ?_
        refine q_o (mz_fe (e := (92, .iload_n 3, 1, (0, 0, 0), [])) (by decide +kernel)) (pc2 := 93) rfl ?_
        refine q_o (mz_fe (e := (93, .imul, 1, (0, 0, 0), [])) (by decide +kernel)) (pc2 := 94) rfl ?_
        refine q_o (mz_fe (e := (94, .iload_n 1, 1, (0, 0, 0), [])) (by decide +kernel)) (pc2 := 95) rfl ?_
        refine q_o (mz_fe (e := (95, .iadd, 1, (0, 0, 0), [])) (by decide +kernel)) (pc2 := 96) rfl ?_
        refine q_ialdg rfl (mz_fe (e := (96, .iaload, 1, (0, 0, 0), [])) (by decide +kernel)) rfl (by decide) tg_270 ln_270 (fun g13 => ?_)
        exact q_retI (mz_fe (e := (97, .ireturn, 1, (0, 0, 0), [])) (by decide +kernel)) (by decide +kernel)
      · refine q_o (mz_fe (e := (83, .iload_n 3, 1, (0, 0, 0), [])) (by decide +kernel)) (pc2 := 84) rfl ?_
        refine q_o (mz_fe (e := (84, .goto 13, 3, (0, 0, 0), [])) (by decide +kernel)) (pc2 := 97) rfl ?_
        exact q_retI (mz_fe (e := (97, .ireturn, 1, (0, 0, 0), [])) (by decide +kernel)) (by decide +kernel)
  · refine q_o (mz_fe (e := (38, .iload_n 3, 1, (0, 0, 0), [])) (by decide +kernel)) (pc2 := 39) rfl ?_
    refine q_if (c := .lt) (off := 27) (t := 66) (x := y3) (y := 0) (st := []) (mz_fe (e := (39, .ifCond .lt 27, 3, (0, 0, 0), [])) (by decide +kernel)) (fun _ => rfl) rfl rfl rfl (fun c14 => ?_) (fun c14 => ?_)
    · refine q_o (mz_fe (e := (66, .iload 4, 2, (0, 0, 0), [])) (by decide +kernel)) (pc2 := 68) rfl ?_
      refine q_s (mz_fe (e := (68, .istore_n 3, 1, (0, 0, 0), [])) (by decide +kernel)) (pc' := 69) (L' := [some (.ref 239), some (.int y1), some (.int y2), some (.int y4), some (.int y4)]) (st' := []) rfl ?_
      refine q_iinc (v := y4) (c := 1) (L3 := [some (.ref 239), some (.int y1), some (.int y2), some (.int y4), some (.int (y4 + 1))]) (mz_fe (e := (69, .iinc 4 1, 3, (0, 0, 0), [])) (by decide +kernel)) rfl rfl (by decide) rfl ?_
      refine q_o (mz_fe (e := (72, .goto (-48), 3, (0, 0, 0), [])) (by decide +kernel)) (pc2 := 24) rfl ?_
      exact congrArg mz_cI (mz_At_msk (L := [some (.ref 239), some (.int y1), some (.int y2), some (.int y4), some (.int (y4 + 1))]) (L2 := [some (.ref 239), some (.int y1), some (.int y2), some (.int y4), some (.int (y4 + 1))]) (mz_fe (e := (24, .iload 4, 2, (0, 0, 0), [true, true, true, true, true])) (by decide +kernel)) rfl rfl)
    · refine q_o (mz_fe (e := (42, .aload_n 0, 1, (0, 0, 0), [])) (by decide +kernel)) (pc2 := 43) rfl ?_
      refine q_getR (b := 270) (mz_fe (e := (43, .getfield 110, 148, (12, 47, 2), [])) (by decide +kernel)) rfl tg_239 (by rw [ln_239]; decide) (mz_rfS (by decide +kernel)) ?_
      refine q_ic (v := 4) (mz_fe (e := (46, .iconst 4, 1, (0, 0, 0), [])) (by decide +kernel)) (by decide) ?_
      refine q_o (mz_fe (e := (47, .iload 4, 2, (0, 0, 0), [])) (by decide +kernel)) (pc2 := 49) rfl ?_
      refine q_o (mz_fe (e := (49, .imul, 1, (0, 0, 0), [])) (by decide +kernel)) (pc2 := 50) rfl ?_
      refine q_o (mz_fe (e := (50, .iload_n 1, 1, (0, 0, 0), [])) (by decide +kernel)) (pc2 := 51) rfl ?_
      refine q_o (mz_fe (e := (51, .iadd, 1, (0, 0, 0), [])) (by decide +kernel)) (pc2 := 52) rfl ?_
      refine q_ialdg rfl (mz_fe (e := (52, .iaload, 1, (0, 0, 0), [])) (by decide +kernel)) rfl (by decide) tg_270 ln_270 (fun g15 => ?_)
      refine q_o (mz_fe (e := (53, .aload_n 0, 1, (0, 0, 0), [])) (by decide +kernel)) (pc2 := 54) rfl ?_
      refine q_getR (b := 270) (mz_fe (e := (54, .getfield 110, 148, (12, 47, 2), [])) (by decide +kernel)) rfl tg_239 (by rw [ln_239]; decide) (mz_rfS (by decide +kernel)) ?_
      refine q_ic (v := 4) (mz_fe (e := (57, .iconst 4, 1, (0, 0, 0), [])) (by decide +kernel)) (by decide) ?_
      refine q_o (mz_fe (e := (58, .iload_n 3, 1, (0, 0, 0), [])) (by decide +kernel)) (pc2 := 59) rfl ?_
      refine q_o (mz_fe (e := (59, .imul, 1, (0, 0, 0), [])) (by decide +kernel)) (pc2 := 60) rfl ?_
      refine q_o (mz_fe (e := (60, .iload_n 1, 1, (0, 0, 0), [])) (by decide +kernel)) (pc2 := 61) rfl ?_
      refine q_o (mz_fe (e := (61, .iadd, 1, (0, 0, 0), [])) (by decide +kernel)) (pc2 := 62) rfl ?_
      refine q_ialdg rfl (mz_fe (e := (62, .iaload, 1, (0, 0, 0), [])) (by decide +kernel)) rfl (by decide) tg_270 ln_270 (fun g16 => ?_)
      refine q_if (c := .le) (off := 6) (t := 69) (x := (mz_rd m 270 ((((4 : Int32) * y4) + y1) : Int32).toNatClampNeg)) (y := (mz_rd m 270 ((((4 : Int32) * y3) + y1) : Int32).toNatClampNeg)) (st := []) (mz_fe (e := (63, .if_icmp .le 6, 3, (0, 0, 0), [])) (by decide +kernel)) (fun _ => rfl) rfl rfl rfl (fun c17 => ?_) (fun c17 => ?_)
      · refine q_iinc (v := y4) (c := 1) (L3 := [some (.ref 239), some (.int y1), some (.int y2), some (.int y3), some (.int (y4 + 1))]) (mz_fe (e := (69, .iinc 4 1, 3, (0, 0, 0), [])) (by decide +kernel)) rfl rfl (by decide) rfl ?_
        refine q_o (mz_fe (e := (72, .goto (-48), 3, (0, 0, 0), [])) (by decide +kernel)) (pc2 := 24) rfl ?_
        exact congrArg mz_cI (mz_At_msk (L := [some (.ref 239), some (.int y1), some (.int y2), some (.int y3), some (.int (y4 + 1))]) (L2 := [some (.ref 239), some (.int y1), some (.int y2), some (.int y3), some (.int (y4 + 1))]) (mz_fe (e := (24, .iload 4, 2, (0, 0, 0), [true, true, true, true, true])) (by decide +kernel)) rfl rfl)
      · refine q_o (mz_fe (e := (66, .iload 4, 2, (0, 0, 0), [])) (by decide +kernel)) (pc2 := 68) rfl ?_
        refine q_s (mz_fe (e := (68, .istore_n 3, 1, (0, 0, 0), [])) (by decide +kernel)) (pc' := 69) (L' := [some (.ref 239), some (.int y1), some (.int y2), some (.int y4), some (.int y4)]) (st' := []) rfl ?_
        refine q_iinc (v := y4) (c := 1) (L3 := [some (.ref 239), some (.int y1), some (.int y2), some (.int y4), some (.int (y4 + 1))]) (mz_fe (e := (69, .iinc 4 1, 3, (0, 0, 0), [])) (by decide +kernel)) rfl rfl (by decide) rfl ?_
        refine q_o (mz_fe (e := (72, .goto (-48), 3, (0, 0, 0), [])) (by decide +kernel)) (pc2 := 24) rfl ?_
        exact congrArg mz_cI (mz_At_msk (L := [some (.ref 239), some (.int y1), some (.int y2), some (.int y4), some (.int (y4 + 1))]) (L2 := [some (.ref 239), some (.int y1), some (.int y2), some (.int y4), some (.int (y4 + 1))]) (mz_fe (e := (24, .iload 4, 2, (0, 0, 0), [true, true, true, true, true])) (by decide +kernel)) rfl rfl)
set_option maxRecDepth 10000 in
theorem R_X12_fair_eq (d : Nat) (x0 : Int32) (m : MzM)  : R_X12_fair d x0 m = (R_X12_isStuff d x0 m).bind (fun u3 => if ¬ u3.1 = 0 then (mz_g (mz_ok (mz_rd u3.2 239 18) 2) (if ¬ (mz_rd u3.2 248 ((mz_rd u3.2 239 18) : Int32).toNatClampNeg) = 0 then (mz_g (mz_ok x0 39) (mz_g (mz_ok x0 39) (H_X12_fair_40 d x0 (mz_rd u3.2 270 (x0 : Int32).toNatClampNeg) (mz_rd u3.2 270 (x0 : Int32).toNatClampNeg) 1 u3.2))) else (some (0, u3.2)))) else (some ((-1), u3.2))) := by
  show mz_cI (mz_T d 274 0 (mz_en (mz_xl 274) [.ref 239, .int x0]) [] m) = _
  rw [show mz_en (mz_xl 274) [.ref 239, .int x0] = [some (.ref 239), some (.int x0), none, none, none] from by rw [show mz_xl 274 = 5 from by decide +kernel]; rfl]
  refine q_o (mz_fe (e := (0, .iload_n 1, 1, (0, 0, 0), [])) (by decide +kernel)) (pc2 := 1) rfl ?_
  refine q_callI (N := 214) (vs := [.int x0]) (rest := []) (L' := [some (.ref 239), some (.int x0), none, none, none]) (f := fun v2 m1 => if ¬ v2 = 0 then (mz_g (mz_ok (mz_rd m1 239 18) 2) (if ¬ (mz_rd m1 248 ((mz_rd m1 239 18) : Int32).toNatClampNeg) = 0 then (mz_g (mz_ok x0 39) (mz_g (mz_ok x0 39) (H_X12_fair_40 d x0 (mz_rd m1 270 (x0 : Int32).toNatClampNeg) (mz_rd m1 270 (x0 : Int32).toNatClampNeg) 1 m1))) else (some (0, m1)))) else (some ((-1), m1))) rfl (mz_fe (e := (1, .invokestatic 387, 218, (214, 1, 1000), [])) (by decide +kernel)) rfl (mz_inv_stat (N := 214) (k := 1) (st := [.int x0]) (rest := []) (vs := [.int x0]) (h := (mz_S0, m)) rfl rfl (Nat.le_of_ble_eq_true rfl) (Nat.le_of_ble_eq_true rfl)) (mz_dc_lt (n := 1) rfl (by decide +kernel) (by decide +kernel)) (by decide +kernel) (Or.inr (by decide +kernel)) (fun v2 m1 => ?_)
  refine q_if (c := .ne) (off := 5) (t := 9) (x := v2) (y := 0) (st := []) (mz_fe (e := (4, .ifCond .ne 5, 3, (0, 0, 0), [])) (by decide +kernel)) (fun _ => rfl) rfl rfl rfl (fun c4 => ?_) (fun c4 => ?_)
  · refine q_o (mz_fe (e := (9, .aload_n 0, 1, (0, 0, 0), [])) (by decide +kernel)) (pc2 := 10) rfl ?_
    refine q_getR (b := 248) (mz_fe (e := (10, .getfield 43, 126, (12, 21, 2), [])) (by decide +kernel)) rfl tg_239 (by rw [ln_239]; decide) (mz_rfS (by decide +kernel)) ?_
    refine q_o (mz_fe (e := (13, .aload_n 0, 1, (0, 0, 0), [])) (by decide +kernel)) (pc2 := 14) rfl ?_
    refine q_getI (mz_fe (e := (14, .getfield 233, 171, (12, 18, 0), [])) (by decide +kernel)) rfl (by decide) tg_239 (by rw [ln_239]; decide) ?_
    refine q_ialdg rfl (mz_fe (e := (17, .iaload, 1, (0, 0, 0), [])) (by decide +kernel)) rfl (by decide) tg_248 ln_248 (fun g5 => ?_)
    refine q_if (c := .ne) (off := 5) (t := 23) (x := (mz_rd m1 248 ((mz_rd m1 239 18) : Int32).toNatClampNeg)) (y := 0) (st := []) (mz_fe (e := (18, .ifCond .ne 5, 3, (0, 0, 0), [])) (by decide +kernel)) (fun _ => rfl) rfl rfl rfl (fun c6 => ?_) (fun c6 => ?_)
    · refine q_o (mz_fe (e := (23, .aload_n 0, 1, (0, 0, 0), [])) (by decide +kernel)) (pc2 := 24) rfl ?_
      refine q_getR (b := 270) (mz_fe (e := (24, .getfield 110, 148, (12, 47, 2), [])) (by decide +kernel)) rfl tg_239 (by rw [ln_239]; decide) (mz_rfS (by decide +kernel)) ?_
      refine q_o (mz_fe (e := (27, .iload_n 1, 1, (0, 0, 0), [])) (by decide +kernel)) (pc2 := 28) rfl ?_
      refine q_ialdg rfl (mz_fe (e := (28, .iaload, 1, (0, 0, 0), [])) (by decide +kernel)) rfl (by decide) tg_270 ln_270 (fun g7 => ?_)
      refine q_s (mz_fe (e := (29, .istore_n 2, 1, (0, 0, 0), [])) (by decide +kernel)) (pc' := 30) (L' := [some (.ref 239), some (.int x0), some (.int (mz_rd m1 270 (x0 : Int32).toNatClampNeg)), none, none]) (st' := []) rfl ?_
      refine q_o (mz_fe (e := (30, .aload_n 0, 1, (0, 0, 0), [])) (by decide +kernel)) (pc2 := 31) rfl ?_
      refine q_getR (b := 270) (mz_fe (e := (31, .getfield 110, 148, (12, 47, 2), [])) (by decide +kernel)) rfl tg_239 (by rw [ln_239]; decide) (mz_rfS (by decide +kernel)) ?_
      refine q_o (mz_fe (e := (34, .iload_n 1, 1, (0, 0, 0), [])) (by decide +kernel)) (pc2 := 35) rfl ?_
      refine q_ialdg rfl (mz_fe (e := (35, .iaload, 1, (0, 0, 0), [])) (by decide +kernel)) rfl (by decide) tg_270 ln_270 (fun g8 => ?_)
      refine q_s (mz_fe (e := (36, .istore_n 3, 1, (0, 0, 0), [])) (by decide +kernel)) (pc' := 37) (L' := [some (.ref 239), some (.int x0), some (.int (mz_rd m1 270 (x0 : Int32).toNatClampNeg)), some (.int (mz_rd m1 270 (x0 : Int32).toNatClampNeg)), none]) (st' := []) rfl ?_
      refine q_ic (v := 1) (mz_fe (e := (37, .iconst 1, 1, (0, 0, 0), [])) (by decide +kernel)) (by decide) ?_
      refine q_s (mz_fe (e := (38, .istore 4, 2, (0, 0, 0), [])) (by decide +kernel)) (pc' := 40) (L' := [some (.ref 239), some (.int x0), some (.int (mz_rd m1 270 (x0 : Int32).toNatClampNeg)), some (.int (mz_rd m1 270 (x0 : Int32).toNatClampNeg)), some (.int 1)]) (st' := []) rfl ?_
      exact congrArg mz_cI (mz_At_msk (L := [some (.ref 239), some (.int x0), some (.int (mz_rd m1 270 (x0 : Int32).toNatClampNeg)), some (.int (mz_rd m1 270 (x0 : Int32).toNatClampNeg)), some (.int 1)]) (L2 := [some (.ref 239), some (.int x0), some (.int (mz_rd m1 270 (x0 : Int32).toNatClampNeg)), some (.int (mz_rd m1 270 (x0 : Int32).toNatClampNeg)), some (.int 1)]) (mz_fe (e := (40, .iload 4, 2, (0, 0, 0), [true, true, true, true, true])) (by decide +kernel)) rfl rfl)
    · refine q_ic (v := 0) (mz_fe (e := (21, .iconst 0, 1, (0, 0, 0), [])) (by decide +kernel)) (by decide) ?_
      exact q_retI (mz_fe (e := (22, .ireturn, 1, (0, 0, 0), [])) (by decide +kernel)) (by decide +kernel)
  · refine q_ic (v := (-1)) (mz_fe (e := (7, .iconst (-1), 1, (0, 0, 0), [])) (by decide +kernel)) (by decide) ?_
    exact q_retI (mz_fe (e := (8, .ireturn, 1, (0, 0, 0), [])) (by decide +kernel)) (by decide +kernel)
set_option maxRecDepth 10000 in
theorem H_X12_fair_40_eq (d : Nat) (y1 : Int32) (y2 : Int32) (y3 : Int32) (y4 : Int32) (m : MzM)  : H_X12_fair_40 d y1 y2 y3 y4 m = mz_g (mz_ok (mz_rd m 239 18) 2) (if (mz_rd m 248 ((mz_rd m 239 18) : Int32).toNatClampNeg) ≤ y4 then (some ((y3 - y2), m)) else (mz_g (mz_ok (((4 : Int32) * y4) + y1) 39) (if y2 ≤ (mz_rd m 270 ((((4 : Int32) * y4) + y1) : Int32).toNatClampNeg) then (mz_g (mz_ok (((4 : Int32) * y4) + y1) 39) (if (mz_rd m 270 ((((4 : Int32) * y4) + y1) : Int32).toNatClampNeg) ≤ y3 then (H_X12_fair_40 d y1 y2 y3 (y4 + 1) m) else (mz_g (mz_ok (((4 : Int32) * y4) + y1) 39) (H_X12_fair_40 d y1 y2 (mz_rd m 270 ((((4 : Int32) * y4) + y1) : Int32).toNatClampNeg) (y4 + 1) m)))) else (mz_g (mz_ok (((4 : Int32) * y4) + y1) 39) (mz_g (mz_ok (((4 : Int32) * y4) + y1) 39) (if (mz_rd m 270 ((((4 : Int32) * y4) + y1) : Int32).toNatClampNeg) ≤ y3 then (H_X12_fair_40 d y1 (mz_rd m 270 ((((4 : Int32) * y4) + y1) : Int32).toNatClampNeg) y3 (y4 + 1) m) else (mz_g (mz_ok (((4 : Int32) * y4) + y1) 39) (H_X12_fair_40 d y1 (mz_rd m 270 ((((4 : Int32) * y4) + y1) : Int32).toNatClampNeg) (mz_rd m 270 ((((4 : Int32) * y4) + y1) : Int32).toNatClampNeg) (y4 + 1) m)))))))) := by
  show mz_cI (mz_T d 274 40 [some (.ref 239), some (.int y1), some (.int y2), some (.int y3), some (.int y4)] [] m) = _
  refine q_s (mz_fe (e := (40, .iload 4, 2, (0, 0, 0), [true, true, true, true, true])) (by decide +kernel)) (pc' := 42) (L' := [some (.ref 239), some (.int y1), some (.int y2), some (.int y3), some (.int y4)]) (st' := [.int y4]) rfl ?_
  refine q_o (mz_fe (e := (42, .aload_n 0, 1, (0, 0, 0), [])) (by decide +kernel)) (pc2 := 43) rfl ?_
  refine q_getR (b := 248) (mz_fe (e := (43, .getfield 43, 126, (12, 21, 2), [])) (by decide +kernel)) rfl tg_239 (by rw [ln_239]; decide) (mz_rfS (by decide +kernel)) ?_
  refine q_o (mz_fe (e := (46, .aload_n 0, 1, (0, 0, 0), [])) (by decide +kernel)) (pc2 := 47) rfl ?_
  refine q_getI (mz_fe (e := (47, .getfield 233, 171, (12, 18, 0), [])) (by decide +kernel)) rfl (by decide) tg_239 (by rw [ln_239]; decide) ?_
  refine q_ialdg rfl (mz_fe (e := (50, .iaload, 1, (0, 0, 0), [])) (by decide +kernel)) rfl (by decide) tg_248 ln_248 (fun g9 => ?_)
  refine q_if (c := .ge) (off := 63) (t := 114) (x := y4) (y := (mz_rd m 248 ((mz_rd m 239 18) : Int32).toNatClampNeg)) (st := []) (mz_fe (e := (51, .if_icmp .ge 63, 3, (0, 0, 0), [])) (by decide +kernel)) (fun _ => rfl) rfl rfl rfl (fun c10 => ?_) (fun c10 => ?_)
  · refine q_o (mz_fe (e := (114, .iload_n 3, 1, (0, 0, 0), [])) (by decide +kernel)) (pc2 := 115) rfl ?_
    refine q_o (mz_fe (e := (115, .iload_n 2, 1, (0, 0, 0), [])) (by decide +kernel)) (pc2 := 116) rfl ?_
    refine q_o (mz_fe (e := (116, .isub, 1, (0, 0, 0), [])) (by decide +kernel)) (pc2 := 117) rfl ?_
    exact q_retI (mz_fe (e := (117, .ireturn, 1, (0, 0, 0), [])) (by decide +kernel)) (by decide +kernel)
  · refine q_o (mz_fe (e := (54, .aload_n 0, 1, (0, 0, 0), [])) (by decide +kernel)) (pc2 := 55) rfl ?_
    refine q_getR (b := 270) (mz_fe (e := (55, .getfield 110, 148, (12, 47, 2), [])) (by decide +kernel)) rfl tg_239 (by rw [ln_239]; decide) (mz_rfS (by decide +kernel)) ?_
    refine q_ic (v := 4) (mz_fe (e := (58, .iconst 4, 1, (0, 0, 0), [])) (by decide +kernel)) (by decide) ?_
    refine q_o (mz_fe (e := (59, .iload 4, 2, (0, 0, 0), [])) (by decide +kernel)) (pc2 := 61) rfl ?_
    refine q_o (mz_fe (e := (61, .imul, 1, (0, 0, 0), [])) (by decide +kernel)) (pc2 := 62) rfl ?_
    refine q_o (mz_fe (e := (62, .iload_n 1, 1, (0, 0, 0), [])) (by decide +kernel)) (pc2 := 63) rfl ?_
    refine q_o (mz_fe (e := (63, .iadd, 1, (0, 0, 0), [])) (by decide +kernel)) (pc2 := 64) rfl ?_
    refine q_ialdg rfl (mz_fe (e := (64, .iaload, 1, (0, 0, 0), [])) (by decide +kernel)) rfl (by decide) tg_270 ln_270 (fun g11 => ?_)
    refine q_o (mz_fe (e := (65, .iload_n 2, 1, (0, 0, 0), [])) (by decide +kernel)) (pc2 := 66) rfl ?_
    refine q_if (c := .ge) (off := 15) (t := 81) (x := (mz_rd m 270 ((((4 : Int32) * y4) + y1) : Int32).toNatClampNeg)) (y := y2) (st := []) (mz_fe (e := (66, .if_icmp .ge 15, 3, (0, 0, 0), [])) (by decide +kernel)) (fun _ => rfl) rfl rfl rfl (fun c12 => ?_) (fun c12 => ?_)
    · refine q_o (mz_fe (e := (81, .aload_n 0, 1, (0, 0, 0), [])) (by decide +kernel)) (pc2 := 82) rfl ?_
      refine q_getR (b := 270) (mz_fe (e := (82, .getfield 110, 148, (12, 47, 2), [])) (by decide +kernel)) rfl tg_239 (by rw [ln_239]; decide) (mz_rfS (by decide +kernel)) ?_
      refine q_ic (v := 4) (mz_fe (e := (85, .iconst 4, 1, (0, 0, 0), [])) (by decide +kernel)) (by decide) ?_
      refine q_o (mz_fe (e := (86, .iload 4, 2, (0, 0, 0), [])) (by decide +kernel)) (pc2 := 88) rfl ?_
      refine q_o (mz_fe (e := (88, .imul, 1, (0, 0, 0), [])) (by decide +kernel)) (pc2 := 89) rfl ?_
      refine q_o (mz_fe (e := (89, .iload_n 1, 1, (0, 0, 0), [])) (by decide +kernel)) (pc2 := 90) rfl ?_
      refine q_o (mz_fe (e := (90, .iadd, 1, (0, 0, 0), [])) (by decide +kernel)) (pc2 := 91) rfl ?_
      refine q_ialdg rfl (mz_fe (e := (91, .iaload, 1, (0, 0, 0), [])) (by decide +kernel)) rfl (by decide) tg_270 ln_270 (fun g13 => ?_)
      refine q_o (mz_fe (e := (92, .iload_n 3, 1, (0, 0, 0), [])) (by decide +kernel)) (pc2 := 93) rfl ?_
      refine q_if (c := .le) (off := 15) (t := 108) (x := (mz_rd m 270 ((((4 : Int32) * y4) + y1) : Int32).toNatClampNeg)) (y := y3) (st := []) (mz_fe (e := (93, .if_icmp .le 15, 3, (0, 0, 0), [])) (by decide +kernel)) (fun _ => rfl) rfl rfl rfl (fun c14 => ?_) (fun c14 => ?_)
      · refine q_iinc (v := y4) (c := 1) (L3 := [some (.ref 239), some (.int y1), some (.int y2), some (.int y3), some (.int (y4 + 1))]) (mz_fe (e := (108, .iinc 4 1, 3, (0, 0, 0), [])) (by decide +kernel)) rfl rfl (by decide) rfl ?_
        refine q_o (mz_fe (e := (111, .goto (-71), 3, (0, 0, 0), [])) (by decide +kernel)) (pc2 := 40) rfl ?_
        exact congrArg mz_cI (mz_At_msk (L := [some (.ref 239), some (.int y1), some (.int y2), some (.int y3), some (.int (y4 + 1))]) (L2 := [some (.ref 239), some (.int y1), some (.int y2), some (.int y3), some (.int (y4 + 1))]) (mz_fe (e := (40, .iload 4, 2, (0, 0, 0), [true, true, true, true, true])) (by decide +kernel)) rfl rfl)
      · refine q_o (mz_fe (e := (96, .aload_n 0, 1, (0, 0, 0), [])) (by decide +kernel)) (pc2 := 97) rfl ?_
        refine q_getR (b := 270) (mz_fe (e := (97, .getfield 110, 148, (12, 47, 2), [])) (by decide +kernel)) rfl tg_239 (by rw [ln_239]; decide) (mz_rfS (by decide +kernel)) ?_
        refine q_ic (v := 4) (mz_fe (e := (100, .iconst 4, 1, (0, 0, 0), [])) (by decide +kernel)) (by decide) ?_
        refine q_o (mz_fe (e := (101, .iload 4, 2, (0, 0, 0), [])) (by decide +kernel)) (pc2 := 103) rfl ?_
        refine q_o (mz_fe (e := (103, .imul, 1, (0, 0, 0), [])) (by decide +kernel)) (pc2 := 104) rfl ?_
        refine q_o (mz_fe (e := (104, .iload_n 1, 1, (0, 0, 0), [])) (by decide +kernel)) (pc2 := 105) rfl ?_
        refine q_o (mz_fe (e := (105, .iadd, 1, (0, 0, 0), [])) (by decide +kernel)) (pc2 := 106) rfl ?_
        refine q_ialdg rfl (mz_fe (e := (106, .iaload, 1, (0, 0, 0), [])) (by decide +kernel)) rfl (by decide) tg_270 ln_270 (fun g15 => ?_)
        refine q_s (mz_fe (e := (107, .istore_n 3, 1, (0, 0, 0), [])) (by decide +kernel)) (pc' := 108) (L' := [some (.ref 239), some (.int y1), some (.int y2), some (.int (mz_rd m 270 ((((4 : Int32) * y4) + y1) : Int32).toNatClampNeg)), some (.int y4)]) (st' := []) rfl ?_
        refine q_iinc (v := y4) (c := 1) (L3 := [some (.ref 239), some (.int y1), some (.int y2), some (.int (mz_rd m 270 ((((4 : Int32) * y4) + y1) : Int32).toNatClampNeg)), some (.int (y4 + 1))]) (mz_fe (e := (108, .iinc 4 1, 3, (0, 0, 0), [])) (by decide +kernel)) rfl rfl (by decide) rfl ?_
        refine q_o (mz_fe (e := (111, .goto (-71), 3, (0, 0, 0), [])) (by decide +kernel)) (pc2 := 40) rfl ?_
        exact congrArg mz_cI (mz_At_msk (L := [some (.ref 239), some (.int y1), some (.int y2), some (.int (mz_rd m 270 ((((4 : Int32) * y4) + y1) : Int32).toNatClampNeg)), some (.int (y4 + 1))]) (L2 := [some (.ref 239), some (.int y1), some (.int y2), some (.int (mz_rd m 270 ((((4 : Int32) * y4) + y1) : Int32).toNatClampNeg)), some (.int (y4 + 1))]) (mz_fe (e := (40, .iload 4, 2, (0, 0, 0), [true, true, true, true, true])) (by decide +kernel)) rfl rfl)
    · refine q_o (mz_fe (e := (69, .aload_n 0, 1, (0, 0, 0), [])) (by decide +kernel)) (pc2 := 70) rfl ?_
      refine q_getR (b := 270) (mz_fe (e := (70, .getfield 110, 148, (12, 47, 2), [])) (by decide +kernel)) rfl tg_239 (by rw [ln_239]; decide) (mz_rfS (by decide +kernel)) ?_
      refine q_ic (v := 4) (mz_fe (e := (73, .iconst 4, 1, (0, 0, 0), [])) (by decide +kernel)) (by decide) ?_
      refine q_o (mz_fe (e := (74, .iload 4, 2, (0, 0, 0), [])) (by decide +kernel)) (pc2 := 76) rfl ?_
      refine q_o (mz_fe (e := (76, .imul, 1, (0, 0, 0), [])) (by decide +kernel)) (pc2 := 77) rfl ?_
      refine q_o (mz_fe (e := (77, .iload_n 1, 1, (0, 0, 0), [])) (by decide +kernel)) (pc2 := 78) rfl ?_
      refine q_o (mz_fe (e := (78, .iadd, 1, (0, 0, 0), [])) (by decide +kernel)) (pc2 := 79) rfl ?_
      refine q_ialdg rfl (mz_fe (e := (79, .iaload, 1, (0, 0, 0), [])) (by decide +kernel)) rfl (by decide) tg_270 ln_270 (fun g16 => ?_)
      refine q_s (mz_fe (e := (80, .istore_n 2, 1, (0, 0, 0), [])) (by decide +kernel)) (pc' := 81) (L' := [some (.ref 239), some (.int y1), some (.int (mz_rd m 270 ((((4 : Int32) * y4) + y1) : Int32).toNatClampNeg)), some (.int y3), some (.int y4)]) (st' := []) rfl ?_
      refine q_o (mz_fe (e := (81, .aload_n 0, 1, (0, 0, 0), [])) (by decide +kernel)) (pc2 := 82) rfl ?_
      refine q_getR (b := 270) (mz_fe (e := (82, .getfield 110, 148, (12, 47, 2), [])) (by decide +kernel)) rfl tg_239 (by rw [ln_239]; decide) (mz_rfS (by decide +kernel)) ?_
      refine q_ic (v := 4) (mz_fe (e := (85, .iconst 4, 1, (0, 0, 0), [])) (by decide +kernel)) (by decide) ?_
      refine q_o (mz_fe (e := (86, .iload 4, 2, (0, 0, 0), [])) (by decide +kernel)) (pc2 := 88) rfl ?_
      refine q_o (mz_fe (e := (88, .imul, 1, (0, 0, 0), [])) (by decide +kernel)) (pc2 := 89) rfl ?_
      refine q_o (mz_fe (e := (89, .iload_n 1, 1, (0, 0, 0), [])) (by decide +kernel)) (pc2 := 90) rfl ?_
      refine q_o (mz_fe (e := (90, .iadd, 1, (0, 0, 0), [])) (by decide +kernel)) (pc2 := 91) rfl ?_
      refine q_ialdg rfl (mz_fe (e := (91, .iaload, 1, (0, 0, 0), [])) (by decide +kernel)) rfl (by decide) tg_270 ln_270 (fun g17 => ?_)
      refine q_o (mz_fe (e := (92, .iload_n 3, 1, (0, 0, 0), [])) (by decide +kernel)) (pc2 := 93) rfl ?_
      refine q_if (c := .le) (off := 15) (t := 108) (x := (mz_rd m 270 ((((4 : Int32) * y4) + y1) : Int32).toNatClampNeg)) (y := y3) (st := []) (mz_fe (e := (93, .if_icmp .le 15, 3, (0, 0, 0), [])) (by decide +kernel)) (fun _ => rfl) rfl rfl rfl (fun c18 => ?_) (fun c18 => ?_)
      · refine q_iinc (v := y4) (c := 1) (L3 := [some (.ref 239), some (.int y1), some (.int (mz_rd m 270 ((((4 : Int32) * y4) + y1) : Int32).toNatClampNeg)), some (.int y3), some (.int (y4 + 1))]) (mz_fe (e := (108, .iinc 4 1, 3, (0, 0, 0), [])) (by decide +kernel)) rfl rfl (by decide) rfl ?_
        refine q_o (mz_fe (e := (111, .goto (-71), 3, (0, 0, 0), [])) (by decide +kernel)) (pc2 := 40) rfl ?_
        exact congrArg mz_cI (mz_At_msk (L := [some (.ref 239), some (.int y1), some (.int (mz_rd m 270 ((((4 : Int32) * y4) + y1) : Int32).toNatClampNeg)), some (.int y3), some (.int (y4 + 1))]) (L2 := [some (.ref 239), some (.int y1), some (.int (mz_rd m 270 ((((4 : Int32) * y4) + y1) : Int32).toNatClampNeg)), some (.int y3), some (.int (y4 + 1))]) (mz_fe (e := (40, .iload 4, 2, (0, 0, 0), [true, true, true, true, true])) (by decide +kernel)) rfl rfl)
      · refine q_o (mz_fe (e := (96, .aload_n 0, 1, (0, 0, 0), [])) (by decide +kernel)) (pc2 := 97) rfl ?_
        refine q_getR (b := 270) (mz_fe (e := (97, .getfield 110, 148, (12, 47, 2), [])) (by decide +kernel)) rfl tg_239 (by rw [ln_239]; decide) (mz_rfS (by decide +kernel)) ?_
        refine q_ic (v := 4) (mz_fe (e := (100, .iconst 4, 1, (0, 0, 0), [])) (by decide +kernel)) (by decide) ?_
        refine q_o (mz_fe (e := (101, .iload 4, 2, (0, 0, 0), [])) (by decide +kernel)) (pc2 := 103) rfl ?_
        refine q_o (mz_fe (e := (103, .imul, 1, (0, 0, 0), [])) (by decide +kernel)) (pc2 := 104) rfl ?_
        refine q_o (mz_fe (e := (104, .iload_n 1, 1, (0, 0, 0), [])) (by decide +kernel)) (pc2 := 105) rfl ?_
        refine q_o (mz_fe (e := (105, .iadd, 1, (0, 0, 0), [])) (by decide +kernel)) (pc2 := 106) rfl ?_
        refine q_ialdg rfl (mz_fe (e := (106, .iaload, 1, (0, 0, 0), [])) (by decide +kernel)) rfl (by decide) tg_270 ln_270 (fun g19 => ?_)
        refine q_s (mz_fe (e := (107, .istore_n 3, 1, (0, 0, 0), [])) (by decide +kernel)) (pc' := 108) (L' := [some (.ref 239), some (.int y1), some (.int (mz_rd m 270 ((((4 : Int32) * y4) + y1) : Int32).toNatClampNeg)), some (.int (mz_rd m 270 ((((4 : Int32) * y4) + y1) : Int32).toNatClampNeg)), some (.int y4)]) (st' := []) rfl ?_
        refine q_iinc (v := y4) (c := 1) (L3 := [some (.ref 239), some (.int y1), some (.int (mz_rd m 270 ((((4 : Int32) * y4) + y1) : Int32).toNatClampNeg)), some (.int (mz_rd m 270 ((((4 : Int32) * y4) + y1) : Int32).toNatClampNeg)), some (.int (y4 + 1))]) (mz_fe (e := (108, .iinc 4 1, 3, (0, 0, 0), [])) (by decide +kernel)) rfl rfl (by decide) rfl ?_
        refine q_o (mz_fe (e := (111, .goto (-71), 3, (0, 0, 0), [])) (by decide +kernel)) (pc2 := 40) rfl ?_
        exact congrArg mz_cI (mz_At_msk (L := [some (.ref 239), some (.int y1), some (.int (mz_rd m 270 ((((4 : Int32) * y4) + y1) : Int32).toNatClampNeg)), some (.int (mz_rd m 270 ((((4 : Int32) * y4) + y1) : Int32).toNatClampNeg)), some (.int (y4 + 1))]) (L2 := [some (.ref 239), some (.int y1), some (.int (mz_rd m 270 ((((4 : Int32) * y4) + y1) : Int32).toNatClampNeg)), some (.int (mz_rd m 270 ((((4 : Int32) * y4) + y1) : Int32).toNatClampNeg)), some (.int (y4 + 1))]) (mz_fe (e := (40, .iload 4, 2, (0, 0, 0), [true, true, true, true, true])) (by decide +kernel)) rfl rfl)
set_option maxRecDepth 10000 in
theorem R_X12_ends_eq (d : Nat)  (m : MzM)  : R_X12_ends d  m = (R_X12_copiesStill d  m).bind (fun m1 => H_X12_ends_6 d 0 m1) := by
  show mz_cI (mz_T d 276 0 (mz_en (mz_xl 276) [.ref 239]) [] m) = _
  rw [show mz_en (mz_xl 276) [.ref 239] = [some (.ref 239), none] from by rw [show mz_xl 276 = 2 from by decide +kernel]; rfl]
  refine q_o (mz_fe (e := (0, .aload_n 0, 1, (0, 0, 0), [])) (by decide +kernel)) (pc2 := 1) rfl ?_
  refine q_callV (N := 218) (vs := [.ref 239]) (rest := []) (L' := [some (.ref 239), none]) rfl (mz_fe (e := (1, .invokevirtual 460, 237, (218, 1, 18), [])) (by decide +kernel)) rfl (mz_inv_virt (N := 218) (k := 1) (t := 18) (st := [.ref 239]) (rest := []) (b := 239) (vs := []) (h := (mz_S0, m)) rfl rfl (Nat.le_of_ble_eq_true rfl) (Nat.le_of_ble_eq_true rfl) tg_239 (by decide)) (mz_dc_lt (n := 1) rfl (by decide +kernel) (by decide +kernel)) (by decide +kernel) (by decide +kernel) (fun m1 => ?_)
  refine q_ic (v := 0) (mz_fe (e := (4, .iconst 0, 1, (0, 0, 0), [])) (by decide +kernel)) (by decide) ?_
  refine q_s (mz_fe (e := (5, .istore_n 1, 1, (0, 0, 0), [])) (by decide +kernel)) (pc' := 6) (L' := [some (.ref 239), some (.int 0)]) (st' := []) rfl ?_
  exact congrArg mz_cI (mz_At_msk (L := [some (.ref 239), some (.int 0)]) (L2 := [some (.ref 239), some (.int 0)]) (mz_fe (e := (6, .iload_n 1, 1, (0, 0, 0), [true, true])) (by decide +kernel)) rfl rfl)
set_option maxRecDepth 10000 in
theorem H_X12_ends_6_eq (d : Nat) (y1 : Int32) (m : MzM)  : H_X12_ends_6 d y1 m = if (200 : Int32) < y1 then (some ((-2), m)) else ((R_X12_isEnded d  m).bind (fun u7 => if u7.1 = 0 then ((R_X12_dayGoes d  u7.2).bind (fun m9 => H_X12_ends_6 d (y1 + 1) m9)) else (some (y1, u7.2)))) := by
  show mz_cI (mz_T d 276 6 [some (.ref 239), some (.int y1)] [] m) = _
  refine q_s (mz_fe (e := (6, .iload_n 1, 1, (0, 0, 0), [true, true])) (by decide +kernel)) (pc' := 7) (L' := [some (.ref 239), some (.int y1)]) (st' := [.int y1]) rfl ?_
  refine q_si (v := 200) (mz_fe (e := (7, .sipush 200, 3, (0, 0, 0), [])) (by decide +kernel)) (by decide) ?_
  refine q_if (c := .gt) (off := 22) (t := 32) (x := y1) (y := 200) (st := []) (mz_fe (e := (10, .if_icmp .gt 22, 3, (0, 0, 0), [])) (by decide +kernel)) (fun _ => rfl) rfl rfl rfl (fun c4 => ?_) (fun c4 => ?_)
  · refine q_bi (v := (-2)) (mz_fe (e := (32, .bipush (-2), 2, (0, 0, 0), [])) (by decide +kernel)) (by decide) ?_
    exact q_retI (mz_fe (e := (34, .ireturn, 1, (0, 0, 0), [])) (by decide +kernel)) (by decide +kernel)
  · refine q_o (mz_fe (e := (13, .aload_n 0, 1, (0, 0, 0), [])) (by decide +kernel)) (pc2 := 14) rfl ?_
    refine q_callI (N := 275) (vs := [.ref 239]) (rest := []) (L' := [some (.ref 239), some (.int y1)]) (f := fun v6 m5 => if v6 = 0 then ((R_X12_dayGoes d  m5).bind (fun m9 => H_X12_ends_6 d (y1 + 1) m9)) else (some (y1, m5))) rfl (mz_fe (e := (14, .invokevirtual 463, 238, (275, 1, 18), [])) (by decide +kernel)) rfl (mz_inv_virt (N := 275) (k := 1) (t := 18) (st := [.ref 239]) (rest := []) (b := 239) (vs := []) (h := (mz_S0, m)) rfl rfl (Nat.le_of_ble_eq_true rfl) (Nat.le_of_ble_eq_true rfl) tg_239 (by decide)) (mz_dc_lt (n := 1) rfl (by decide +kernel) (by decide +kernel)) (by decide +kernel) (Or.inr (by decide +kernel)) (fun v6 m5 => ?_)
    refine q_if (c := .eq) (off := 5) (t := 22) (x := v6) (y := 0) (st := []) (mz_fe (e := (17, .ifCond .eq 5, 3, (0, 0, 0), [])) (by decide +kernel)) (fun _ => rfl) rfl rfl rfl (fun c8 => ?_) (fun c8 => ?_)
    · refine q_o (mz_fe (e := (22, .aload_n 0, 1, (0, 0, 0), [])) (by decide +kernel)) (pc2 := 23) rfl ?_
      refine q_callV (N := 233) (vs := [.ref 239]) (rest := []) (L' := [some (.ref 239), some (.int y1)]) rfl (mz_fe (e := (23, .invokevirtual 381, 216, (233, 1, 18), [])) (by decide +kernel)) rfl (mz_inv_virt (N := 233) (k := 1) (t := 18) (st := [.ref 239]) (rest := []) (b := 239) (vs := []) (h := (mz_S0, m5)) rfl rfl (Nat.le_of_ble_eq_true rfl) (Nat.le_of_ble_eq_true rfl) tg_239 (by decide)) (mz_dc_lt (n := 1) rfl (by decide +kernel) (by decide +kernel)) (by decide +kernel) (by decide +kernel) (fun m9 => ?_)
      refine q_iinc (v := y1) (c := 1) (L3 := [some (.ref 239), some (.int (y1 + 1))]) (mz_fe (e := (26, .iinc 1 1, 3, (0, 0, 0), [])) (by decide +kernel)) rfl rfl (by decide) rfl ?_
      refine q_o (mz_fe (e := (29, .goto (-23), 3, (0, 0, 0), [])) (by decide +kernel)) (pc2 := 6) rfl ?_
      exact congrArg mz_cI (mz_At_msk (L := [some (.ref 239), some (.int (y1 + 1))]) (L2 := [some (.ref 239), some (.int (y1 + 1))]) (mz_fe (e := (6, .iload_n 1, 1, (0, 0, 0), [true, true])) (by decide +kernel)) rfl rfl)
    · refine q_o (mz_fe (e := (20, .iload_n 1, 1, (0, 0, 0), [])) (by decide +kernel)) (pc2 := 21) rfl ?_
      exact q_retI (mz_fe (e := (21, .ireturn, 1, (0, 0, 0), [])) (by decide +kernel)) (by decide +kernel)
set_option maxRecDepth 10000 in
theorem R_X12_then_eq (d : Nat) (x0 : Int32) (x1 : Int32) (x2 : Int32) (m : MzM)  : R_X12_then d x0 x1 x2 m = if x0 = (-1) then ((R_X12_isStuff d x1 m).bind (fun u4 => if u4.1 = 0 then (some ((-1), u4.2)) else ((R_X12_isLong d x2 u4.2).bind (fun u8 => if ¬ u8.1 = 0 then ((R_X12_copies d  u8.2).bind (fun m10 => (R_X12_goes d x2 m10).bind (fun m13 => if ¬ x0 = (-1) then (mz_g (mz_ok (((4 : Int32) * x0) + x1) 39) (some ((mz_rd m13 271 ((((4 : Int32) * x0) + x1) : Int32).toNatClampNeg), m13))) else (mz_g (mz_ok ((30 : Int32) + x1) 39) (some ((mz_rd m13 271 (((30 : Int32) + x1) : Int32).toNatClampNeg), m13)))))) else (some ((-1), u8.2)))))) else ((R_X12_isPerson d x0 m).bind (fun u21 => if u21.1 = 0 then (some ((-1), u21.2)) else ((R_X12_isStuff d x1 u21.2).bind (fun u25 => if u25.1 = 0 then (some ((-1), u25.2)) else ((R_X12_isLong d x2 u25.2).bind (fun u29 => if ¬ u29.1 = 0 then ((R_X12_copies d  u29.2).bind (fun m31 => (R_X12_goes d x2 m31).bind (fun m34 => if ¬ x0 = (-1) then (mz_g (mz_ok (((4 : Int32) * x0) + x1) 39) (some ((mz_rd m34 271 ((((4 : Int32) * x0) + x1) : Int32).toNatClampNeg), m34))) else (mz_g (mz_ok ((30 : Int32) + x1) 39) (some ((mz_rd m34 271 (((30 : Int32) + x1) : Int32).toNatClampNeg), m34)))))) else (some ((-1), u29.2)))))))) := by
  show mz_cI (mz_T d 278 0 (mz_en (mz_xl 278) [.ref 239, .int x0, .int x1, .int x2]) [] m) = _
  rw [show mz_en (mz_xl 278) [.ref 239, .int x0, .int x1, .int x2] = [some (.ref 239), some (.int x0), some (.int x1), some (.int x2)] from by rw [show mz_xl 278 = 4 from by decide +kernel]; rfl]
  refine q_o (mz_fe (e := (0, .iload_n 1, 1, (0, 0, 0), [])) (by decide +kernel)) (pc2 := 1) rfl ?_
  refine q_ic (v := (-1)) (mz_fe (e := (1, .iconst (-1), 1, (0, 0, 0), [])) (by decide +kernel)) (by decide) ?_
  refine q_if (c := .eq) (off := 11) (t := 13) (x := x0) (y := (-1)) (st := []) (mz_fe (e := (2, .if_icmp .eq 11, 3, (0, 0, 0), [])) (by decide +kernel)) (fun _ => rfl) rfl rfl rfl (fun c1 => ?_) (fun c1 => ?_)
  · refine q_o (mz_fe (e := (13, .iload_n 2, 1, (0, 0, 0), [])) (by decide +kernel)) (pc2 := 14) rfl ?_
    refine q_callI (N := 214) (vs := [.int x1]) (rest := []) (L' := [some (.ref 239), some (.int x0), some (.int x1), some (.int x2)]) (f := fun v3 m2 => if v3 = 0 then (some ((-1), m2)) else ((R_X12_isLong d x2 m2).bind (fun u8 => if ¬ u8.1 = 0 then ((R_X12_copies d  u8.2).bind (fun m10 => (R_X12_goes d x2 m10).bind (fun m13 => if ¬ x0 = (-1) then (mz_g (mz_ok (((4 : Int32) * x0) + x1) 39) (some ((mz_rd m13 271 ((((4 : Int32) * x0) + x1) : Int32).toNatClampNeg), m13))) else (mz_g (mz_ok ((30 : Int32) + x1) 39) (some ((mz_rd m13 271 (((30 : Int32) + x1) : Int32).toNatClampNeg), m13)))))) else (some ((-1), u8.2))))) rfl (mz_fe (e := (14, .invokestatic 387, 218, (214, 1, 1000), [])) (by decide +kernel)) rfl (mz_inv_stat (N := 214) (k := 1) (st := [.int x1]) (rest := []) (vs := [.int x1]) (h := (mz_S0, m)) rfl rfl (Nat.le_of_ble_eq_true rfl) (Nat.le_of_ble_eq_true rfl)) (mz_dc_lt (n := 1) rfl (by decide +kernel) (by decide +kernel)) (by decide +kernel) (Or.inr (by decide +kernel)) (fun v3 m2 => ?_)
    refine q_if (c := .eq) (off := 10) (t := 27) (x := v3) (y := 0) (st := []) (mz_fe (e := (17, .ifCond .eq 10, 3, (0, 0, 0), [])) (by decide +kernel)) (fun _ => rfl) rfl rfl rfl (fun c5 => ?_) (fun c5 => ?_)
    · refine q_ic (v := (-1)) (mz_fe (e := (27, .iconst (-1), 1, (0, 0, 0), [])) (by decide +kernel)) (by decide) ?_
      exact q_retI (mz_fe (e := (28, .ireturn, 1, (0, 0, 0), [])) (by decide +kernel)) (by decide +kernel)
    · refine q_o (mz_fe (e := (20, .iload_n 3, 1, (0, 0, 0), [])) (by decide +kernel)) (pc2 := 21) rfl ?_
      refine q_callI (N := 246) (vs := [.int x2]) (rest := []) (L' := [some (.ref 239), some (.int x0), some (.int x1), some (.int x2)]) (f := fun v7 m6 => if ¬ v7 = 0 then ((R_X12_copies d  m6).bind (fun m10 => (R_X12_goes d x2 m10).bind (fun m13 => if ¬ x0 = (-1) then (mz_g (mz_ok (((4 : Int32) * x0) + x1) 39) (some ((mz_rd m13 271 ((((4 : Int32) * x0) + x1) : Int32).toNatClampNeg), m13))) else (mz_g (mz_ok ((30 : Int32) + x1) 39) (some ((mz_rd m13 271 (((30 : Int32) + x1) : Int32).toNatClampNeg), m13)))))) else (some ((-1), m6))) rfl (mz_fe (e := (21, .invokestatic 396, 221, (246, 1, 1000), [])) (by decide +kernel)) rfl (mz_inv_stat (N := 246) (k := 1) (st := [.int x2]) (rest := []) (vs := [.int x2]) (h := (mz_S0, m2)) rfl rfl (Nat.le_of_ble_eq_true rfl) (Nat.le_of_ble_eq_true rfl)) (mz_dc_lt (n := 1) rfl (by decide +kernel) (by decide +kernel)) (by decide +kernel) (Or.inr (by decide +kernel)) (fun v7 m6 => ?_)
      refine q_if (c := .ne) (off := 5) (t := 29) (x := v7) (y := 0) (st := []) (mz_fe (e := (24, .ifCond .ne 5, 3, (0, 0, 0), [])) (by decide +kernel)) (fun _ => rfl) rfl rfl rfl (fun c9 => ?_) (fun c9 => ?_)
      · refine q_o (mz_fe (e := (29, .aload_n 0, 1, (0, 0, 0), [])) (by decide +kernel)) (pc2 := 30) rfl ?_
        refine q_callV (N := 217) (vs := [.ref 239]) (rest := []) (L' := [some (.ref 239), some (.int x0), some (.int x1), some (.int x2)]) rfl (mz_fe (e := (30, .invokevirtual 323, 198, (217, 1, 18), [])) (by decide +kernel)) rfl (mz_inv_virt (N := 217) (k := 1) (t := 18) (st := [.ref 239]) (rest := []) (b := 239) (vs := []) (h := (mz_S0, m6)) rfl rfl (Nat.le_of_ble_eq_true rfl) (Nat.le_of_ble_eq_true rfl) tg_239 (by decide)) (mz_dc_lt (n := 1) rfl (by decide +kernel) (by decide +kernel)) (by decide +kernel) (by decide +kernel) (fun m10 => ?_)
        refine q_o (mz_fe (e := (33, .aload_n 0, 1, (0, 0, 0), [])) (by decide +kernel)) (pc2 := 34) rfl ?_
        refine q_o (mz_fe (e := (34, .iload_n 3, 1, (0, 0, 0), [])) (by decide +kernel)) (pc2 := 35) rfl ?_
        refine q_callV (N := 234) (vs := [.ref 239, .int x2]) (rest := []) (L' := [some (.ref 239), some (.int x0), some (.int x1), some (.int x2)]) rfl (mz_fe (e := (35, .invokevirtual 399, 222, (234, 2, 18), [])) (by decide +kernel)) rfl (mz_inv_virt (N := 234) (k := 2) (t := 18) (st := [.int x2, .ref 239]) (rest := []) (b := 239) (vs := [.int x2]) (h := (mz_S0, m10)) rfl rfl (Nat.le_of_ble_eq_true rfl) (Nat.le_of_ble_eq_true rfl) tg_239 (by decide)) (mz_dc_lt (n := 2) rfl (by decide +kernel) (by decide +kernel)) (by decide +kernel) (by decide +kernel) (fun m13 => ?_)
        refine q_o (mz_fe (e := (38, .iload_n 1, 1, (0, 0, 0), [])) (by decide +kernel)) (pc2 := 39) rfl ?_
        refine q_ic (v := (-1)) (mz_fe (e := (39, .iconst (-1), 1, (0, 0, 0), [])) (by decide +kernel)) (by decide) ?_
        refine q_if (c := .ne) (off := 15) (t := 55) (x := x0) (y := (-1)) (st := []) (mz_fe (e := (40, .if_icmp .ne 15, 3, (0, 0, 0), [])) (by decide +kernel)) (fun _ => rfl) rfl rfl rfl (fun c16 => ?_) (fun c16 => ?_)
        · refine q_o (mz_fe (e := (55, .aload_n 0, 1, (0, 0, 0), [])) (by decide +kernel)) (pc2 := 56) rfl ?_
          refine q_getR (b := 271) (mz_fe (e := (56, .getfield 113, 149, (12, 48, 2), [])) (by decide +kernel)) rfl tg_239 (by rw [ln_239]; decide) (mz_rfS (by decide +kernel)) ?_
          refine q_ic (v := 4) (mz_fe (e := (59, .iconst 4, 1, (0, 0, 0), [])) (by decide +kernel)) (by decide) ?_
          refine q_o (mz_fe (e := (60, .iload_n 1, 1, (0, 0, 0), [])) (by decide +kernel)) (pc2 := 61) rfl ?_
          refine q_o (mz_fe (e := (61, .imul, 1, (0, 0, 0), [])) (by decide +kernel)) (pc2 := 62) rfl ?_
          refine q_o (mz_fe (e := (62, .iload_n 2, 1, (0, 0, 0), [])) (by decide +kernel)) (pc2 := 63) rfl ?_
          refine q_o (mz_fe (e := (63, .iadd, 1, (0, 0, 0), [])) (by decide +kernel)) (pc2 := 64) rfl ?_
          refine q_ialdg rfl (mz_fe (e := (64, .iaload, 1, (0, 0, 0), [])) (by decide +kernel)) rfl (by decide) tg_271 ln_271 (fun g17 => ?_)
          exact q_retI (mz_fe (e := (65, .ireturn, 1, (0, 0, 0), [])) (by decide +kernel)) (by decide +kernel)
        · refine q_o (mz_fe (e := (43, .aload_n 0, 1, (0, 0, 0), [])) (by decide +kernel)) (pc2 := 44) rfl ?_
          refine q_getR (b := 271) (mz_fe (e := (44, .getfield 113, 149, (12, 48, 2), [])) (by decide +kernel)) rfl tg_239 (by rw [ln_239]; decide) (mz_rfS (by decide +kernel)) ?_
          refine q_bi (v := 30) (mz_fe (e := (47, .bipush 30, 2, (0, 0, 0), [])) (by decide +kernel)) (by decide) ?_
          refine q_o (mz_fe (e := (49, .iload_n 2, 1, (0, 0, 0), [])) (by decide +kernel)) (pc2 := 50) rfl ?_
          refine q_o (mz_fe (e := (50, .iadd, 1, (0, 0, 0), [])) (by decide +kernel)) (pc2 := 51) rfl ?_
          refine q_ialdg rfl (mz_fe (e := (51, .iaload, 1, (0, 0, 0), [])) (by decide +kernel)) rfl (by decide) tg_271 ln_271 (fun g18 => ?_)
          refine q_o (mz_fe (e := (52, .goto 13, 3, (0, 0, 0), [])) (by decide +kernel)) (pc2 := 65) rfl ?_
          exact q_retI (mz_fe (e := (65, .ireturn, 1, (0, 0, 0), [])) (by decide +kernel)) (by decide +kernel)
      · refine q_ic (v := (-1)) (mz_fe (e := (27, .iconst (-1), 1, (0, 0, 0), [])) (by decide +kernel)) (by decide) ?_
        exact q_retI (mz_fe (e := (28, .ireturn, 1, (0, 0, 0), [])) (by decide +kernel)) (by decide +kernel)
  · refine q_o (mz_fe (e := (5, .aload_n 0, 1, (0, 0, 0), [])) (by decide +kernel)) (pc2 := 6) rfl ?_
    refine q_o (mz_fe (e := (6, .iload_n 1, 1, (0, 0, 0), [])) (by decide +kernel)) (pc2 := 7) rfl ?_
    refine q_callI (N := 212) (vs := [.ref 239, .int x0]) (rest := []) (L' := [some (.ref 239), some (.int x0), some (.int x1), some (.int x2)]) (f := fun v20 m19 => if v20 = 0 then (some ((-1), m19)) else ((R_X12_isStuff d x1 m19).bind (fun u25 => if u25.1 = 0 then (some ((-1), u25.2)) else ((R_X12_isLong d x2 u25.2).bind (fun u29 => if ¬ u29.1 = 0 then ((R_X12_copies d  u29.2).bind (fun m31 => (R_X12_goes d x2 m31).bind (fun m34 => if ¬ x0 = (-1) then (mz_g (mz_ok (((4 : Int32) * x0) + x1) 39) (some ((mz_rd m34 271 ((((4 : Int32) * x0) + x1) : Int32).toNatClampNeg), m34))) else (mz_g (mz_ok ((30 : Int32) + x1) 39) (some ((mz_rd m34 271 (((30 : Int32) + x1) : Int32).toNatClampNeg), m34)))))) else (some ((-1), u29.2))))))) rfl (mz_fe (e := (7, .invokevirtual 314, 197, (212, 2, 18), [])) (by decide +kernel)) rfl (mz_inv_virt (N := 212) (k := 2) (t := 18) (st := [.int x0, .ref 239]) (rest := []) (b := 239) (vs := [.int x0]) (h := (mz_S0, m)) rfl rfl (Nat.le_of_ble_eq_true rfl) (Nat.le_of_ble_eq_true rfl) tg_239 (by decide)) (mz_dc_lt (n := 2) rfl (by decide +kernel) (by decide +kernel)) (by decide +kernel) (Or.inr (by decide +kernel)) (fun v20 m19 => ?_)
    refine q_if (c := .eq) (off := 17) (t := 27) (x := v20) (y := 0) (st := []) (mz_fe (e := (10, .ifCond .eq 17, 3, (0, 0, 0), [])) (by decide +kernel)) (fun _ => rfl) rfl rfl rfl (fun c22 => ?_) (fun c22 => ?_)
    · refine q_ic (v := (-1)) (mz_fe (e := (27, .iconst (-1), 1, (0, 0, 0), [])) (by decide +kernel)) (by decide) ?_
      exact q_retI (mz_fe (e := (28, .ireturn, 1, (0, 0, 0), [])) (by decide +kernel)) (by decide +kernel)
    · refine q_o (mz_fe (e := (13, .iload_n 2, 1, (0, 0, 0), [])) (by decide +kernel)) (pc2 := 14) rfl ?_
      refine q_callI (N := 214) (vs := [.int x1]) (rest := []) (L' := [some (.ref 239), some (.int x0), some (.int x1), some (.int x2)]) (f := fun v24 m23 => if v24 = 0 then (some ((-1), m23)) else ((R_X12_isLong d x2 m23).bind (fun u29 => if ¬ u29.1 = 0 then ((R_X12_copies d  u29.2).bind (fun m31 => (R_X12_goes d x2 m31).bind (fun m34 => if ¬ x0 = (-1) then (mz_g (mz_ok (((4 : Int32) * x0) + x1) 39) (some ((mz_rd m34 271 ((((4 : Int32) * x0) + x1) : Int32).toNatClampNeg), m34))) else (mz_g (mz_ok ((30 : Int32) + x1) 39) (some ((mz_rd m34 271 (((30 : Int32) + x1) : Int32).toNatClampNeg), m34)))))) else (some ((-1), u29.2))))) rfl (mz_fe (e := (14, .invokestatic 387, 218, (214, 1, 1000), [])) (by decide +kernel)) rfl (mz_inv_stat (N := 214) (k := 1) (st := [.int x1]) (rest := []) (vs := [.int x1]) (h := (mz_S0, m19)) rfl rfl (Nat.le_of_ble_eq_true rfl) (Nat.le_of_ble_eq_true rfl)) (mz_dc_lt (n := 1) rfl (by decide +kernel) (by decide +kernel)) (by decide +kernel) (Or.inr (by decide +kernel)) (fun v24 m23 => ?_)
      refine q_if (c := .eq) (off := 10) (t := 27) (x := v24) (y := 0) (st := []) (mz_fe (e := (17, .ifCond .eq 10, 3, (0, 0, 0), [])) (by decide +kernel)) (fun _ => rfl) rfl rfl rfl (fun c26 => ?_) (fun c26 => ?_)
      · refine q_ic (v := (-1)) (mz_fe (e := (27, .iconst (-1), 1, (0, 0, 0), [])) (by decide +kernel)) (by decide) ?_
        exact q_retI (mz_fe (e := (28, .ireturn, 1, (0, 0, 0), [])) (by decide +kernel)) (by decide +kernel)
      · refine q_o (mz_fe (e := (20, .iload_n 3, 1, (0, 0, 0), [])) (by decide +kernel)) (pc2 := 21) rfl ?_
        refine q_callI (N := 246) (vs := [.int x2]) (rest := []) (L' := [some (.ref 239), some (.int x0), some (.int x1), some (.int x2)]) (f := fun v28 m27 => if ¬ v28 = 0 then ((R_X12_copies d  m27).bind (fun m31 => (R_X12_goes d x2 m31).bind (fun m34 => if ¬ x0 = (-1) then (mz_g (mz_ok (((4 : Int32) * x0) + x1) 39) (some ((mz_rd m34 271 ((((4 : Int32) * x0) + x1) : Int32).toNatClampNeg), m34))) else (mz_g (mz_ok ((30 : Int32) + x1) 39) (some ((mz_rd m34 271 (((30 : Int32) + x1) : Int32).toNatClampNeg), m34)))))) else (some ((-1), m27))) rfl (mz_fe (e := (21, .invokestatic 396, 221, (246, 1, 1000), [])) (by decide +kernel)) rfl (mz_inv_stat (N := 246) (k := 1) (st := [.int x2]) (rest := []) (vs := [.int x2]) (h := (mz_S0, m23)) rfl rfl (Nat.le_of_ble_eq_true rfl) (Nat.le_of_ble_eq_true rfl)) (mz_dc_lt (n := 1) rfl (by decide +kernel) (by decide +kernel)) (by decide +kernel) (Or.inr (by decide +kernel)) (fun v28 m27 => ?_)
        refine q_if (c := .ne) (off := 5) (t := 29) (x := v28) (y := 0) (st := []) (mz_fe (e := (24, .ifCond .ne 5, 3, (0, 0, 0), [])) (by decide +kernel)) (fun _ => rfl) rfl rfl rfl (fun c30 => ?_) (fun c30 => ?_)
        · refine q_o (mz_fe (e := (29, .aload_n 0, 1, (0, 0, 0), [])) (by decide +kernel)) (pc2 := 30) rfl ?_
          refine q_callV (N := 217) (vs := [.ref 239]) (rest := []) (L' := [some (.ref 239), some (.int x0), some (.int x1), some (.int x2)]) rfl (mz_fe (e := (30, .invokevirtual 323, 198, (217, 1, 18), [])) (by decide +kernel)) rfl (mz_inv_virt (N := 217) (k := 1) (t := 18) (st := [.ref 239]) (rest := []) (b := 239) (vs := []) (h := (mz_S0, m27)) rfl rfl (Nat.le_of_ble_eq_true rfl) (Nat.le_of_ble_eq_true rfl) tg_239 (by decide)) (mz_dc_lt (n := 1) rfl (by decide +kernel) (by decide +kernel)) (by decide +kernel) (by decide +kernel) (fun m31 => ?_)
          refine q_o (mz_fe (e := (33, .aload_n 0, 1, (0, 0, 0), [])) (by decide +kernel)) (pc2 := 34) rfl ?_
          refine q_o (mz_fe (e := (34, .iload_n 3, 1, (0, 0, 0), [])) (by decide +kernel)) (pc2 := 35) rfl ?_
          refine q_callV (N := 234) (vs := [.ref 239, .int x2]) (rest := []) (L' := [some (.ref 239), some (.int x0), some (.int x1), some (.int x2)]) rfl (mz_fe (e := (35, .invokevirtual 399, 222, (234, 2, 18), [])) (by decide +kernel)) rfl (mz_inv_virt (N := 234) (k := 2) (t := 18) (st := [.int x2, .ref 239]) (rest := []) (b := 239) (vs := [.int x2]) (h := (mz_S0, m31)) rfl rfl (Nat.le_of_ble_eq_true rfl) (Nat.le_of_ble_eq_true rfl) tg_239 (by decide)) (mz_dc_lt (n := 2) rfl (by decide +kernel) (by decide +kernel)) (by decide +kernel) (by decide +kernel) (fun m34 => ?_)
          refine q_o (mz_fe (e := (38, .iload_n 1, 1, (0, 0, 0), [])) (by decide +kernel)) (pc2 := 39) rfl ?_
          refine q_ic (v := (-1)) (mz_fe (e := (39, .iconst (-1), 1, (0, 0, 0), [])) (by decide +kernel)) (by decide) ?_
          refine q_if (c := .ne) (off := 15) (t := 55) (x := x0) (y := (-1)) (st := []) (mz_fe (e := (40, .if_icmp .ne 15, 3, (0, 0, 0), [])) (by decide +kernel)) (fun _ => rfl) rfl rfl rfl (fun c37 => ?_) (fun c37 => ?_)
          · refine q_o (mz_fe (e := (55, .aload_n 0, 1, (0, 0, 0), [])) (by decide +kernel)) (pc2 := 56) rfl ?_
            refine q_getR (b := 271) (mz_fe (e := (56, .getfield 113, 149, (12, 48, 2), [])) (by decide +kernel)) rfl tg_239 (by rw [ln_239]; decide) (mz_rfS (by decide +kernel)) ?_
            refine q_ic (v := 4) (mz_fe (e := (59, .iconst 4, 1, (0, 0, 0), [])) (by decide +kernel)) (by decide) ?_
            refine q_o (mz_fe (e := (60, .iload_n 1, 1, (0, 0, 0), [])) (by decide +kernel)) (pc2 := 61) rfl ?_
            refine q_o (mz_fe (e := (61, .imul, 1, (0, 0, 0), [])) (by decide +kernel)) (pc2 := 62) rfl ?_
            refine q_o (mz_fe (e := (62, .iload_n 2, 1, (0, 0, 0), [])) (by decide +kernel)) (pc2 := 63) rfl ?_
            refine q_o (mz_fe (e := (63, .iadd, 1, (0, 0, 0), [])) (by decide +kernel)) (pc2 := 64) rfl ?_
            refine q_ialdg rfl (mz_fe (e := (64, .iaload, 1, (0, 0, 0), [])) (by decide +kernel)) rfl (by decide) tg_271 ln_271 (fun g38 => ?_)
            exact q_retI (mz_fe (e := (65, .ireturn, 1, (0, 0, 0), [])) (by decide +kernel)) (by decide +kernel)
          · refine q_o (mz_fe (e := (43, .aload_n 0, 1, (0, 0, 0), [])) (by decide +kernel)) (pc2 := 44) rfl ?_
            refine q_getR (b := 271) (mz_fe (e := (44, .getfield 113, 149, (12, 48, 2), [])) (by decide +kernel)) rfl tg_239 (by rw [ln_239]; decide) (mz_rfS (by decide +kernel)) ?_
            refine q_bi (v := 30) (mz_fe (e := (47, .bipush 30, 2, (0, 0, 0), [])) (by decide +kernel)) (by decide) ?_
            refine q_o (mz_fe (e := (49, .iload_n 2, 1, (0, 0, 0), [])) (by decide +kernel)) (pc2 := 50) rfl ?_
            refine q_o (mz_fe (e := (50, .iadd, 1, (0, 0, 0), [])) (by decide +kernel)) (pc2 := 51) rfl ?_
            refine q_ialdg rfl (mz_fe (e := (51, .iaload, 1, (0, 0, 0), [])) (by decide +kernel)) rfl (by decide) tg_271 ln_271 (fun g39 => ?_)
            refine q_o (mz_fe (e := (52, .goto 13, 3, (0, 0, 0), [])) (by decide +kernel)) (pc2 := 65) rfl ?_
            exact q_retI (mz_fe (e := (65, .ireturn, 1, (0, 0, 0), [])) (by decide +kernel)) (by decide +kernel)
        · refine q_ic (v := (-1)) (mz_fe (e := (27, .iconst (-1), 1, (0, 0, 0), [])) (by decide +kernel)) (by decide) ?_
          exact q_retI (mz_fe (e := (28, .ireturn, 1, (0, 0, 0), [])) (by decide +kernel)) (by decide +kernel)
set_option maxRecDepth 10000 in
theorem R_X12_turnsIn_eq (d : Nat) (x0 : Int32) (m : MzM)  : R_X12_turnsIn d x0 m = (R_X12_isLong d x0 m).bind (fun u3 => if ¬ u3.1 = 0 then ((R_X12_copies d  u3.2).bind (fun m5 => (R_X12_goes d x0 m5).bind (fun m8 => some ((mz_rd m8 271 36), m8)))) else (some ((-1), u3.2))) := by
  show mz_cI (mz_T d 280 0 (mz_en (mz_xl 280) [.ref 239, .int x0]) [] m) = _
  rw [show mz_en (mz_xl 280) [.ref 239, .int x0] = [some (.ref 239), some (.int x0)] from by rw [show mz_xl 280 = 2 from by decide +kernel]; rfl]
  refine q_o (mz_fe (e := (0, .iload_n 1, 1, (0, 0, 0), [])) (by decide +kernel)) (pc2 := 1) rfl ?_
  refine q_callI (N := 246) (vs := [.int x0]) (rest := []) (L' := [some (.ref 239), some (.int x0)]) (f := fun v2 m1 => if ¬ v2 = 0 then ((R_X12_copies d  m1).bind (fun m5 => (R_X12_goes d x0 m5).bind (fun m8 => some ((mz_rd m8 271 36), m8)))) else (some ((-1), m1))) rfl (mz_fe (e := (1, .invokestatic 396, 221, (246, 1, 1000), [])) (by decide +kernel)) rfl (mz_inv_stat (N := 246) (k := 1) (st := [.int x0]) (rest := []) (vs := [.int x0]) (h := (mz_S0, m)) rfl rfl (Nat.le_of_ble_eq_true rfl) (Nat.le_of_ble_eq_true rfl)) (mz_dc_lt (n := 1) rfl (by decide +kernel) (by decide +kernel)) (by decide +kernel) (Or.inr (by decide +kernel)) (fun v2 m1 => ?_)
  refine q_if (c := .ne) (off := 5) (t := 9) (x := v2) (y := 0) (st := []) (mz_fe (e := (4, .ifCond .ne 5, 3, (0, 0, 0), [])) (by decide +kernel)) (fun _ => rfl) rfl rfl rfl (fun c4 => ?_) (fun c4 => ?_)
  · refine q_o (mz_fe (e := (9, .aload_n 0, 1, (0, 0, 0), [])) (by decide +kernel)) (pc2 := 10) rfl ?_
    refine q_callV (N := 217) (vs := [.ref 239]) (rest := []) (L' := [some (.ref 239), some (.int x0)]) rfl (mz_fe (e := (10, .invokevirtual 323, 198, (217, 1, 18), [])) (by decide +kernel)) rfl (mz_inv_virt (N := 217) (k := 1) (t := 18) (st := [.ref 239]) (rest := []) (b := 239) (vs := []) (h := (mz_S0, m1)) rfl rfl (Nat.le_of_ble_eq_true rfl) (Nat.le_of_ble_eq_true rfl) tg_239 (by decide)) (mz_dc_lt (n := 1) rfl (by decide +kernel) (by decide +kernel)) (by decide +kernel) (by decide +kernel) (fun m5 => ?_)
    refine q_o (mz_fe (e := (13, .aload_n 0, 1, (0, 0, 0), [])) (by decide +kernel)) (pc2 := 14) rfl ?_
    refine q_o (mz_fe (e := (14, .iload_n 1, 1, (0, 0, 0), [])) (by decide +kernel)) (pc2 := 15) rfl ?_
    refine q_callV (N := 234) (vs := [.ref 239, .int x0]) (rest := []) (L' := [some (.ref 239), some (.int x0)]) rfl (mz_fe (e := (15, .invokevirtual 399, 222, (234, 2, 18), [])) (by decide +kernel)) rfl (mz_inv_virt (N := 234) (k := 2) (t := 18) (st := [.int x0, .ref 239]) (rest := []) (b := 239) (vs := [.int x0]) (h := (mz_S0, m5)) rfl rfl (Nat.le_of_ble_eq_true rfl) (Nat.le_of_ble_eq_true rfl) tg_239 (by decide)) (mz_dc_lt (n := 2) rfl (by decide +kernel) (by decide +kernel)) (by decide +kernel) (by decide +kernel) (fun m8 => ?_)
    refine q_o (mz_fe (e := (18, .aload_n 0, 1, (0, 0, 0), [])) (by decide +kernel)) (pc2 := 19) rfl ?_
    refine q_getR (b := 271) (mz_fe (e := (19, .getfield 113, 149, (12, 48, 2), [])) (by decide +kernel)) rfl tg_239 (by rw [ln_239]; decide) (mz_rfS (by decide +kernel)) ?_
    refine q_bi (v := 36) (mz_fe (e := (22, .bipush 36, 2, (0, 0, 0), [])) (by decide +kernel)) (by decide) ?_
    refine q_iald (j := 36) (mz_fe (e := (24, .iaload, 1, (0, 0, 0), [])) (by decide +kernel)) rfl (by decide) tg_271 ln_271 (by decide) (by decide) ?_
    exact q_retI (mz_fe (e := (25, .ireturn, 1, (0, 0, 0), [])) (by decide +kernel)) (by decide +kernel)
  · refine q_ic (v := (-1)) (mz_fe (e := (7, .iconst (-1), 1, (0, 0, 0), [])) (by decide +kernel)) (by decide) ?_
    exact q_retI (mz_fe (e := (8, .ireturn, 1, (0, 0, 0), [])) (by decide +kernel)) (by decide +kernel)
set_option maxRecDepth 10000 in
theorem R_X12_tell_eq (d : Nat) (x0 : Int32) (x1 : Int32) (x2 : Int32) (x3 : Int32) (m : MzM)  : R_X12_tell d x0 x1 x2 x3 m = if (mz_rd m 239 62) = 20 then (some ((-1), m)) else ((R_X12_isPerson d x0 m).bind (fun u4 => if u4.1 = 0 then (some ((-1), u4.2)) else ((R_X12_isStuff d x1 u4.2).bind (fun u8 => if u8.1 = 0 then (some ((-1), u8.2)) else ((R_X12_in d x2 0 999 u8.2).bind (fun u12 => if ¬ u12.1 = 0 then (mz_g (mz_ok (mz_rd u12.2 239 62) 20) (mz_g (mz_ok (mz_rd (mz_wr u12.2 277 ((mz_rd u12.2 239 62) : Int32).toNatClampNeg (((4 : Int32) * x0) + x1)) 239 62) 20) (mz_g (mz_ok (mz_rd (mz_wr (mz_wr u12.2 277 ((mz_rd u12.2 239 62) : Int32).toNatClampNeg (((4 : Int32) * x0) + x1)) 278 ((mz_rd (mz_wr u12.2 277 ((mz_rd u12.2 239 62) : Int32).toNatClampNeg (((4 : Int32) * x0) + x1)) 239 62) : Int32).toNatClampNeg x2) 239 62) 20) (some (((mz_rd (mz_wr (mz_wr (mz_wr (mz_wr u12.2 277 ((mz_rd u12.2 239 62) : Int32).toNatClampNeg (((4 : Int32) * x0) + x1)) 278 ((mz_rd (mz_wr u12.2 277 ((mz_rd u12.2 239 62) : Int32).toNatClampNeg (((4 : Int32) * x0) + x1)) 239 62) : Int32).toNatClampNeg x2) 279 ((mz_rd (mz_wr (mz_wr u12.2 277 ((mz_rd u12.2 239 62) : Int32).toNatClampNeg (((4 : Int32) * x0) + x1)) 278 ((mz_rd (mz_wr u12.2 277 ((mz_rd u12.2 239 62) : Int32).toNatClampNeg (((4 : Int32) * x0) + x1)) 239 62) : Int32).toNatClampNeg x2) 239 62) : Int32).toNatClampNeg (vp_nar .boolean x3)) 239 62 ((mz_rd (mz_wr (mz_wr (mz_wr u12.2 277 ((mz_rd u12.2 239 62) : Int32).toNatClampNeg (((4 : Int32) * x0) + x1)) 278 ((mz_rd (mz_wr u12.2 277 ((mz_rd u12.2 239 62) : Int32).toNatClampNeg (((4 : Int32) * x0) + x1)) 239 62) : Int32).toNatClampNeg x2) 279 ((mz_rd (mz_wr (mz_wr u12.2 277 ((mz_rd u12.2 239 62) : Int32).toNatClampNeg (((4 : Int32) * x0) + x1)) 278 ((mz_rd (mz_wr u12.2 277 ((mz_rd u12.2 239 62) : Int32).toNatClampNeg (((4 : Int32) * x0) + x1)) 239 62) : Int32).toNatClampNeg x2) 239 62) : Int32).toNatClampNeg (vp_nar .boolean x3)) 239 62) + 1)) 239 62) - 1), (mz_wr (mz_wr (mz_wr (mz_wr u12.2 277 ((mz_rd u12.2 239 62) : Int32).toNatClampNeg (((4 : Int32) * x0) + x1)) 278 ((mz_rd (mz_wr u12.2 277 ((mz_rd u12.2 239 62) : Int32).toNatClampNeg (((4 : Int32) * x0) + x1)) 239 62) : Int32).toNatClampNeg x2) 279 ((mz_rd (mz_wr (mz_wr u12.2 277 ((mz_rd u12.2 239 62) : Int32).toNatClampNeg (((4 : Int32) * x0) + x1)) 278 ((mz_rd (mz_wr u12.2 277 ((mz_rd u12.2 239 62) : Int32).toNatClampNeg (((4 : Int32) * x0) + x1)) 239 62) : Int32).toNatClampNeg x2) 239 62) : Int32).toNatClampNeg (vp_nar .boolean x3)) 239 62 ((mz_rd (mz_wr (mz_wr (mz_wr u12.2 277 ((mz_rd u12.2 239 62) : Int32).toNatClampNeg (((4 : Int32) * x0) + x1)) 278 ((mz_rd (mz_wr u12.2 277 ((mz_rd u12.2 239 62) : Int32).toNatClampNeg (((4 : Int32) * x0) + x1)) 239 62) : Int32).toNatClampNeg x2) 279 ((mz_rd (mz_wr (mz_wr u12.2 277 ((mz_rd u12.2 239 62) : Int32).toNatClampNeg (((4 : Int32) * x0) + x1)) 278 ((mz_rd (mz_wr u12.2 277 ((mz_rd u12.2 239 62) : Int32).toNatClampNeg (((4 : Int32) * x0) + x1)) 239 62) : Int32).toNatClampNeg x2) 239 62) : Int32).toNatClampNeg (vp_nar .boolean x3)) 239 62) + 1))))))) else (some ((-1), u12.2)))))))) := by
  show mz_cI (mz_T d 282 0 (mz_en (mz_xl 282) [.ref 239, .int x0, .int x1, .int x2, .int x3]) [] m) = _
  rw [show mz_en (mz_xl 282) [.ref 239, .int x0, .int x1, .int x2, .int x3] = [some (.ref 239), some (.int x0), some (.int x1), some (.int x2), some (.int x3)] from by rw [show mz_xl 282 = 5 from by decide +kernel]; rfl]
  refine q_o (mz_fe (e := (0, .aload_n 0, 1, (0, 0, 0), [])) (by decide +kernel)) (pc2 := 1) rfl ?_
  refine q_getI (mz_fe (e := (1, .getfield 251, 176, (12, 62, 0), [])) (by decide +kernel)) rfl (by decide) tg_239 (by rw [ln_239]; decide) ?_
  refine q_bi (v := 20) (mz_fe (e := (4, .bipush 20, 2, (0, 0, 0), [])) (by decide +kernel)) (by decide) ?_
  refine q_if (c := .eq) (off := 29) (t := 35) (x := (mz_rd m 239 62)) (y := 20) (st := []) (mz_fe (e := (6, .if_icmp .eq 29, 3, (0, 0, 0), [])) (by decide +kernel)) (fun _ => rfl) rfl rfl rfl (fun c1 => ?_) (fun c1 => ?_)
  · refine q_ic (v := (-1)) (mz_fe (e := (35, .iconst (-1), 1, (0, 0, 0), [])) (by decide +kernel)) (by decide) ?_
    exact q_retI (mz_fe (e := (36, .ireturn, 1, (0, 0, 0), [])) (by decide +kernel)) (by decide +kernel)
  · refine q_o (mz_fe (e := (9, .aload_n 0, 1, (0, 0, 0), [])) (by decide +kernel)) (pc2 := 10) rfl ?_
    refine q_o (mz_fe (e := (10, .iload_n 1, 1, (0, 0, 0), [])) (by decide +kernel)) (pc2 := 11) rfl ?_
    refine q_callI (N := 212) (vs := [.ref 239, .int x0]) (rest := []) (L' := [some (.ref 239), some (.int x0), some (.int x1), some (.int x2), some (.int x3)]) (f := fun v3 m2 => if v3 = 0 then (some ((-1), m2)) else ((R_X12_isStuff d x1 m2).bind (fun u8 => if u8.1 = 0 then (some ((-1), u8.2)) else ((R_X12_in d x2 0 999 u8.2).bind (fun u12 => if ¬ u12.1 = 0 then (mz_g (mz_ok (mz_rd u12.2 239 62) 20) (mz_g (mz_ok (mz_rd (mz_wr u12.2 277 ((mz_rd u12.2 239 62) : Int32).toNatClampNeg (((4 : Int32) * x0) + x1)) 239 62) 20) (mz_g (mz_ok (mz_rd (mz_wr (mz_wr u12.2 277 ((mz_rd u12.2 239 62) : Int32).toNatClampNeg (((4 : Int32) * x0) + x1)) 278 ((mz_rd (mz_wr u12.2 277 ((mz_rd u12.2 239 62) : Int32).toNatClampNeg (((4 : Int32) * x0) + x1)) 239 62) : Int32).toNatClampNeg x2) 239 62) 20) (some (((mz_rd (mz_wr (mz_wr (mz_wr (mz_wr u12.2 277 ((mz_rd u12.2 239 62) : Int32).toNatClampNeg (((4 : Int32) * x0) + x1)) 278 ((mz_rd (mz_wr u12.2 277 ((mz_rd u12.2 239 62) : Int32).toNatClampNeg (((4 : Int32) * x0) + x1)) 239 62) : Int32).toNatClampNeg x2) 279 ((mz_rd (mz_wr (mz_wr u12.2 277 ((mz_rd u12.2 239 62) : Int32).toNatClampNeg (((4 : Int32) * x0) + x1)) 278 ((mz_rd (mz_wr u12.2 277 ((mz_rd u12.2 239 62) : Int32).toNatClampNeg (((4 : Int32) * x0) + x1)) 239 62) : Int32).toNatClampNeg x2) 239 62) : Int32).toNatClampNeg (vp_nar .boolean x3)) 239 62 ((mz_rd (mz_wr (mz_wr (mz_wr u12.2 277 ((mz_rd u12.2 239 62) : Int32).toNatClampNeg (((4 : Int32) * x0) + x1)) 278 ((mz_rd (mz_wr u12.2 277 ((mz_rd u12.2 239 62) : Int32).toNatClampNeg (((4 : Int32) * x0) + x1)) 239 62) : Int32).toNatClampNeg x2) 279 ((mz_rd (mz_wr (mz_wr u12.2 277 ((mz_rd u12.2 239 62) : Int32).toNatClampNeg (((4 : Int32) * x0) + x1)) 278 ((mz_rd (mz_wr u12.2 277 ((mz_rd u12.2 239 62) : Int32).toNatClampNeg (((4 : Int32) * x0) + x1)) 239 62) : Int32).toNatClampNeg x2) 239 62) : Int32).toNatClampNeg (vp_nar .boolean x3)) 239 62) + 1)) 239 62) - 1), (mz_wr (mz_wr (mz_wr (mz_wr u12.2 277 ((mz_rd u12.2 239 62) : Int32).toNatClampNeg (((4 : Int32) * x0) + x1)) 278 ((mz_rd (mz_wr u12.2 277 ((mz_rd u12.2 239 62) : Int32).toNatClampNeg (((4 : Int32) * x0) + x1)) 239 62) : Int32).toNatClampNeg x2) 279 ((mz_rd (mz_wr (mz_wr u12.2 277 ((mz_rd u12.2 239 62) : Int32).toNatClampNeg (((4 : Int32) * x0) + x1)) 278 ((mz_rd (mz_wr u12.2 277 ((mz_rd u12.2 239 62) : Int32).toNatClampNeg (((4 : Int32) * x0) + x1)) 239 62) : Int32).toNatClampNeg x2) 239 62) : Int32).toNatClampNeg (vp_nar .boolean x3)) 239 62 ((mz_rd (mz_wr (mz_wr (mz_wr u12.2 277 ((mz_rd u12.2 239 62) : Int32).toNatClampNeg (((4 : Int32) * x0) + x1)) 278 ((mz_rd (mz_wr u12.2 277 ((mz_rd u12.2 239 62) : Int32).toNatClampNeg (((4 : Int32) * x0) + x1)) 239 62) : Int32).toNatClampNeg x2) 279 ((mz_rd (mz_wr (mz_wr u12.2 277 ((mz_rd u12.2 239 62) : Int32).toNatClampNeg (((4 : Int32) * x0) + x1)) 278 ((mz_rd (mz_wr u12.2 277 ((mz_rd u12.2 239 62) : Int32).toNatClampNeg (((4 : Int32) * x0) + x1)) 239 62) : Int32).toNatClampNeg x2) 239 62) : Int32).toNatClampNeg (vp_nar .boolean x3)) 239 62) + 1))))))) else (some ((-1), u12.2))))))) rfl (mz_fe (e := (11, .invokevirtual 314, 197, (212, 2, 18), [])) (by decide +kernel)) rfl (mz_inv_virt (N := 212) (k := 2) (t := 18) (st := [.int x0, .ref 239]) (rest := []) (b := 239) (vs := [.int x0]) (h := (mz_S0, m)) rfl rfl (Nat.le_of_ble_eq_true rfl) (Nat.le_of_ble_eq_true rfl) tg_239 (by decide)) (mz_dc_lt (n := 2) rfl (by decide +kernel) (by decide +kernel)) (by decide +kernel) (Or.inr (by decide +kernel)) (fun v3 m2 => ?_)
    refine q_if (c := .eq) (off := 21) (t := 35) (x := v3) (y := 0) (st := []) (mz_fe (e := (14, .ifCond .eq 21, 3, (0, 0, 0), [])) (by decide +kernel)) (fun _ => rfl) rfl rfl rfl (fun c5 => ?_) (fun c5 => ?_)
    · refine q_ic (v := (-1)) (mz_fe (e := (35, .iconst (-1), 1, (0, 0, 0), [])) (by decide +kernel)) (by decide) ?_
      exact q_retI (mz_fe (e := (36, .ireturn, 1, (0, 0, 0), [])) (by decide +kernel)) (by decide +kernel)
    · refine q_o (mz_fe (e := (17, .iload_n 2, 1, (0, 0, 0), [])) (by decide +kernel)) (pc2 := 18) rfl ?_
      refine q_callI (N := 214) (vs := [.int x1]) (rest := []) (L' := [some (.ref 239), some (.int x0), some (.int x1), some (.int x2), some (.int x3)]) (f := fun v7 m6 => if v7 = 0 then (some ((-1), m6)) else ((R_X12_in d x2 0 999 m6).bind (fun u12 => if ¬ u12.1 = 0 then (mz_g (mz_ok (mz_rd u12.2 239 62) 20) (mz_g (mz_ok (mz_rd (mz_wr u12.2 277 ((mz_rd u12.2 239 62) : Int32).toNatClampNeg (((4 : Int32) * x0) + x1)) 239 62) 20) (mz_g (mz_ok (mz_rd (mz_wr (mz_wr u12.2 277 ((mz_rd u12.2 239 62) : Int32).toNatClampNeg (((4 : Int32) * x0) + x1)) 278 ((mz_rd (mz_wr u12.2 277 ((mz_rd u12.2 239 62) : Int32).toNatClampNeg (((4 : Int32) * x0) + x1)) 239 62) : Int32).toNatClampNeg x2) 239 62) 20) (some (((mz_rd (mz_wr (mz_wr (mz_wr (mz_wr u12.2 277 ((mz_rd u12.2 239 62) : Int32).toNatClampNeg (((4 : Int32) * x0) + x1)) 278 ((mz_rd (mz_wr u12.2 277 ((mz_rd u12.2 239 62) : Int32).toNatClampNeg (((4 : Int32) * x0) + x1)) 239 62) : Int32).toNatClampNeg x2) 279 ((mz_rd (mz_wr (mz_wr u12.2 277 ((mz_rd u12.2 239 62) : Int32).toNatClampNeg (((4 : Int32) * x0) + x1)) 278 ((mz_rd (mz_wr u12.2 277 ((mz_rd u12.2 239 62) : Int32).toNatClampNeg (((4 : Int32) * x0) + x1)) 239 62) : Int32).toNatClampNeg x2) 239 62) : Int32).toNatClampNeg (vp_nar .boolean x3)) 239 62 ((mz_rd (mz_wr (mz_wr (mz_wr u12.2 277 ((mz_rd u12.2 239 62) : Int32).toNatClampNeg (((4 : Int32) * x0) + x1)) 278 ((mz_rd (mz_wr u12.2 277 ((mz_rd u12.2 239 62) : Int32).toNatClampNeg (((4 : Int32) * x0) + x1)) 239 62) : Int32).toNatClampNeg x2) 279 ((mz_rd (mz_wr (mz_wr u12.2 277 ((mz_rd u12.2 239 62) : Int32).toNatClampNeg (((4 : Int32) * x0) + x1)) 278 ((mz_rd (mz_wr u12.2 277 ((mz_rd u12.2 239 62) : Int32).toNatClampNeg (((4 : Int32) * x0) + x1)) 239 62) : Int32).toNatClampNeg x2) 239 62) : Int32).toNatClampNeg (vp_nar .boolean x3)) 239 62) + 1)) 239 62) - 1), (mz_wr (mz_wr (mz_wr (mz_wr u12.2 277 ((mz_rd u12.2 239 62) : Int32).toNatClampNeg (((4 : Int32) * x0) + x1)) 278 ((mz_rd (mz_wr u12.2 277 ((mz_rd u12.2 239 62) : Int32).toNatClampNeg (((4 : Int32) * x0) + x1)) 239 62) : Int32).toNatClampNeg x2) 279 ((mz_rd (mz_wr (mz_wr u12.2 277 ((mz_rd u12.2 239 62) : Int32).toNatClampNeg (((4 : Int32) * x0) + x1)) 278 ((mz_rd (mz_wr u12.2 277 ((mz_rd u12.2 239 62) : Int32).toNatClampNeg (((4 : Int32) * x0) + x1)) 239 62) : Int32).toNatClampNeg x2) 239 62) : Int32).toNatClampNeg (vp_nar .boolean x3)) 239 62 ((mz_rd (mz_wr (mz_wr (mz_wr u12.2 277 ((mz_rd u12.2 239 62) : Int32).toNatClampNeg (((4 : Int32) * x0) + x1)) 278 ((mz_rd (mz_wr u12.2 277 ((mz_rd u12.2 239 62) : Int32).toNatClampNeg (((4 : Int32) * x0) + x1)) 239 62) : Int32).toNatClampNeg x2) 279 ((mz_rd (mz_wr (mz_wr u12.2 277 ((mz_rd u12.2 239 62) : Int32).toNatClampNeg (((4 : Int32) * x0) + x1)) 278 ((mz_rd (mz_wr u12.2 277 ((mz_rd u12.2 239 62) : Int32).toNatClampNeg (((4 : Int32) * x0) + x1)) 239 62) : Int32).toNatClampNeg x2) 239 62) : Int32).toNatClampNeg (vp_nar .boolean x3)) 239 62) + 1))))))) else (some ((-1), u12.2))))) rfl (mz_fe (e := (18, .invokestatic 387, 218, (214, 1, 1000), [])) (by decide +kernel)) rfl (mz_inv_stat (N := 214) (k := 1) (st := [.int x1]) (rest := []) (vs := [.int x1]) (h := (mz_S0, m2)) rfl rfl (Nat.le_of_ble_eq_true rfl) (Nat.le_of_ble_eq_true rfl)) (mz_dc_lt (n := 1) rfl (by decide +kernel) (by decide +kernel)) (by decide +kernel) (Or.inr (by decide +kernel)) (fun v7 m6 => ?_)
      refine q_if (c := .eq) (off := 14) (t := 35) (x := v7) (y := 0) (st := []) (mz_fe (e := (21, .ifCond .eq 14, 3, (0, 0, 0), [])) (by decide +kernel)) (fun _ => rfl) rfl rfl rfl (fun c9 => ?_) (fun c9 => ?_)
      · refine q_ic (v := (-1)) (mz_fe (e := (35, .iconst (-1), 1, (0, 0, 0), [])) (by decide +kernel)) (by decide) ?_
        exact q_retI (mz_fe (e := (36, .ireturn, 1, (0, 0, 0), [])) (by decide +kernel)) (by decide +kernel)
      · refine q_o (mz_fe (e := (24, .iload_n 3, 1, (0, 0, 0), [])) (by decide +kernel)) (pc2 := 25) rfl ?_
        refine q_ic (v := 0) (mz_fe (e := (25, .iconst 0, 1, (0, 0, 0), [])) (by decide +kernel)) (by decide) ?_
        refine q_si (v := 999) (mz_fe (e := (26, .sipush 999, 3, (0, 0, 0), [])) (by decide +kernel)) (by decide) ?_
        refine q_callI (N := 208) (vs := [.int x2, .int 0, .int 999]) (rest := []) (L' := [some (.ref 239), some (.int x0), some (.int x1), some (.int x2), some (.int x3)]) (f := fun v11 m10 => if ¬ v11 = 0 then (mz_g (mz_ok (mz_rd m10 239 62) 20) (mz_g (mz_ok (mz_rd (mz_wr m10 277 ((mz_rd m10 239 62) : Int32).toNatClampNeg (((4 : Int32) * x0) + x1)) 239 62) 20) (mz_g (mz_ok (mz_rd (mz_wr (mz_wr m10 277 ((mz_rd m10 239 62) : Int32).toNatClampNeg (((4 : Int32) * x0) + x1)) 278 ((mz_rd (mz_wr m10 277 ((mz_rd m10 239 62) : Int32).toNatClampNeg (((4 : Int32) * x0) + x1)) 239 62) : Int32).toNatClampNeg x2) 239 62) 20) (some (((mz_rd (mz_wr (mz_wr (mz_wr (mz_wr m10 277 ((mz_rd m10 239 62) : Int32).toNatClampNeg (((4 : Int32) * x0) + x1)) 278 ((mz_rd (mz_wr m10 277 ((mz_rd m10 239 62) : Int32).toNatClampNeg (((4 : Int32) * x0) + x1)) 239 62) : Int32).toNatClampNeg x2) 279 ((mz_rd (mz_wr (mz_wr m10 277 ((mz_rd m10 239 62) : Int32).toNatClampNeg (((4 : Int32) * x0) + x1)) 278 ((mz_rd (mz_wr m10 277 ((mz_rd m10 239 62) : Int32).toNatClampNeg (((4 : Int32) * x0) + x1)) 239 62) : Int32).toNatClampNeg x2) 239 62) : Int32).toNatClampNeg (vp_nar .boolean x3)) 239 62 ((mz_rd (mz_wr (mz_wr (mz_wr m10 277 ((mz_rd m10 239 62) : Int32).toNatClampNeg (((4 : Int32) * x0) + x1)) 278 ((mz_rd (mz_wr m10 277 ((mz_rd m10 239 62) : Int32).toNatClampNeg (((4 : Int32) * x0) + x1)) 239 62) : Int32).toNatClampNeg x2) 279 ((mz_rd (mz_wr (mz_wr m10 277 ((mz_rd m10 239 62) : Int32).toNatClampNeg (((4 : Int32) * x0) + x1)) 278 ((mz_rd (mz_wr m10 277 ((mz_rd m10 239 62) : Int32).toNatClampNeg (((4 : Int32) * x0) + x1)) 239 62) : Int32).toNatClampNeg x2) 239 62) : Int32).toNatClampNeg (vp_nar .boolean x3)) 239 62) + 1)) 239 62) - 1), (mz_wr (mz_wr (mz_wr (mz_wr m10 277 ((mz_rd m10 239 62) : Int32).toNatClampNeg (((4 : Int32) * x0) + x1)) 278 ((mz_rd (mz_wr m10 277 ((mz_rd m10 239 62) : Int32).toNatClampNeg (((4 : Int32) * x0) + x1)) 239 62) : Int32).toNatClampNeg x2) 279 ((mz_rd (mz_wr (mz_wr m10 277 ((mz_rd m10 239 62) : Int32).toNatClampNeg (((4 : Int32) * x0) + x1)) 278 ((mz_rd (mz_wr m10 277 ((mz_rd m10 239 62) : Int32).toNatClampNeg (((4 : Int32) * x0) + x1)) 239 62) : Int32).toNatClampNeg x2) 239 62) : Int32).toNatClampNeg (vp_nar .boolean x3)) 239 62 ((mz_rd (mz_wr (mz_wr (mz_wr m10 277 ((mz_rd m10 239 62) : Int32).toNatClampNeg (((4 : Int32) * x0) + x1)) 278 ((mz_rd (mz_wr m10 277 ((mz_rd m10 239 62) : Int32).toNatClampNeg (((4 : Int32) * x0) + x1)) 239 62) : Int32).toNatClampNeg x2) 279 ((mz_rd (mz_wr (mz_wr m10 277 ((mz_rd m10 239 62) : Int32).toNatClampNeg (((4 : Int32) * x0) + x1)) 278 ((mz_rd (mz_wr m10 277 ((mz_rd m10 239 62) : Int32).toNatClampNeg (((4 : Int32) * x0) + x1)) 239 62) : Int32).toNatClampNeg x2) 239 62) : Int32).toNatClampNeg (vp_nar .boolean x3)) 239 62) + 1))))))) else (some ((-1), m10))) rfl (mz_fe (e := (29, .invokestatic 310, 196, (208, 3, 1000), [])) (by decide +kernel)) rfl (mz_inv_stat (N := 208) (k := 3) (st := [.int 999, .int 0, .int x2]) (rest := []) (vs := [.int x2, .int 0, .int 999]) (h := (mz_S0, m6)) rfl rfl (Nat.le_of_ble_eq_true rfl) (Nat.le_of_ble_eq_true rfl)) (mz_dc_lt (n := 3) rfl (by decide +kernel) (by decide +kernel)) (by decide +kernel) (Or.inr (by decide +kernel)) (fun v11 m10 => ?_)
        refine q_if (c := .ne) (off := 5) (t := 37) (x := v11) (y := 0) (st := []) (mz_fe (e := (32, .ifCond .ne 5, 3, (0, 0, 0), [])) (by decide +kernel)) (fun _ => rfl) rfl rfl rfl (fun c13 => ?_) (fun c13 => ?_)
        · refine q_o (mz_fe (e := (37, .aload_n 0, 1, (0, 0, 0), [])) (by decide +kernel)) (pc2 := 38) rfl ?_
          refine q_getR (b := 277) (mz_fe (e := (38, .getfield 131, 155, (12, 63, 2), [])) (by decide +kernel)) rfl tg_239 (by rw [ln_239]; decide) (mz_rfS (by decide +kernel)) ?_
          refine q_o (mz_fe (e := (41, .aload_n 0, 1, (0, 0, 0), [])) (by decide +kernel)) (pc2 := 42) rfl ?_
          refine q_getI (mz_fe (e := (42, .getfield 251, 176, (12, 62, 0), [])) (by decide +kernel)) rfl (by decide) tg_239 (by rw [ln_239]; decide) ?_
          refine q_ic (v := 4) (mz_fe (e := (45, .iconst 4, 1, (0, 0, 0), [])) (by decide +kernel)) (by decide) ?_
          refine q_o (mz_fe (e := (46, .iload_n 1, 1, (0, 0, 0), [])) (by decide +kernel)) (pc2 := 47) rfl ?_
          refine q_o (mz_fe (e := (47, .imul, 1, (0, 0, 0), [])) (by decide +kernel)) (pc2 := 48) rfl ?_
          refine q_o (mz_fe (e := (48, .iload_n 2, 1, (0, 0, 0), [])) (by decide +kernel)) (pc2 := 49) rfl ?_
          refine q_o (mz_fe (e := (49, .iadd, 1, (0, 0, 0), [])) (by decide +kernel)) (pc2 := 50) rfl ?_
          refine q_stAg (f := (fun x => x)) rfl (mz_fe (e := (50, .iastore, 1, (0, 0, 0), [])) (by decide +kernel)) (fun _ => rfl) rfl tg_277 ln_277 (fun g14 => ?_)
          refine q_o (mz_fe (e := (51, .aload_n 0, 1, (0, 0, 0), [])) (by decide +kernel)) (pc2 := 52) rfl ?_
          refine q_getR (b := 278) (mz_fe (e := (52, .getfield 134, 156, (12, 64, 2), [])) (by decide +kernel)) rfl tg_239 (by rw [ln_239]; decide) (mz_rfS (by decide +kernel)) ?_
          refine q_o (mz_fe (e := (55, .aload_n 0, 1, (0, 0, 0), [])) (by decide +kernel)) (pc2 := 56) rfl ?_
          refine q_getI (mz_fe (e := (56, .getfield 251, 176, (12, 62, 0), [])) (by decide +kernel)) rfl (by decide) tg_239 (by rw [ln_239]; decide) ?_
          refine q_o (mz_fe (e := (59, .iload_n 3, 1, (0, 0, 0), [])) (by decide +kernel)) (pc2 := 60) rfl ?_
          refine q_stAg (f := (fun x => x)) rfl (mz_fe (e := (60, .iastore, 1, (0, 0, 0), [])) (by decide +kernel)) (fun _ => rfl) rfl tg_278 ln_278 (fun g15 => ?_)
          refine q_o (mz_fe (e := (61, .aload_n 0, 1, (0, 0, 0), [])) (by decide +kernel)) (pc2 := 62) rfl ?_
          refine q_getR (b := 279) (mz_fe (e := (62, .getfield 137, 157, (12, 65, 2), [])) (by decide +kernel)) rfl tg_239 (by rw [ln_239]; decide) (mz_rfS (by decide +kernel)) ?_
          refine q_o (mz_fe (e := (65, .aload_n 0, 1, (0, 0, 0), [])) (by decide +kernel)) (pc2 := 66) rfl ?_
          refine q_getI (mz_fe (e := (66, .getfield 251, 176, (12, 62, 0), [])) (by decide +kernel)) rfl (by decide) tg_239 (by rw [ln_239]; decide) ?_
          refine q_o (mz_fe (e := (69, .iload 4, 2, (0, 0, 0), [])) (by decide +kernel)) (pc2 := 71) rfl ?_
          refine q_stAg (f := (vp_nar .boolean)) rfl (mz_fe (e := (71, .bastore, 1, (0, 0, 0), [])) (by decide +kernel)) (q_actZ tg_279) rfl tg_279 ln_279 (fun g16 => ?_)
          refine q_o (mz_fe (e := (72, .aload_n 0, 1, (0, 0, 0), [])) (by decide +kernel)) (pc2 := 73) rfl ?_
          refine q_o (mz_fe (e := (73, .dup, 1, (0, 0, 0), [])) (by decide +kernel)) (pc2 := 74) rfl ?_
          refine q_getI (mz_fe (e := (74, .getfield 251, 176, (12, 62, 0), [])) (by decide +kernel)) rfl (by decide) tg_239 (by rw [ln_239]; decide) ?_
          refine q_ic (v := 1) (mz_fe (e := (77, .iconst 1, 1, (0, 0, 0), [])) (by decide +kernel)) (by decide) ?_
          refine q_o (mz_fe (e := (78, .iadd, 1, (0, 0, 0), [])) (by decide +kernel)) (pc2 := 79) rfl ?_
          refine q_putI (mz_fe (e := (79, .putfield 251, 176, (12, 62, 0), [])) (by decide +kernel)) rfl tg_239 (by rw [ln_239]; decide) ?_
          refine q_o (mz_fe (e := (82, .aload_n 0, 1, (0, 0, 0), [])) (by decide +kernel)) (pc2 := 83) rfl ?_
          refine q_getI (mz_fe (e := (83, .getfield 251, 176, (12, 62, 0), [])) (by decide +kernel)) rfl (by decide) tg_239 (by rw [ln_239]; decide) ?_
          refine q_ic (v := 1) (mz_fe (e := (86, .iconst 1, 1, (0, 0, 0), [])) (by decide +kernel)) (by decide) ?_
          refine q_o (mz_fe (e := (87, .isub, 1, (0, 0, 0), [])) (by decide +kernel)) (pc2 := 88) rfl ?_
          exact q_retI (mz_fe (e := (88, .ireturn, 1, (0, 0, 0), [])) (by decide +kernel)) (by decide +kernel)
        · refine q_ic (v := (-1)) (mz_fe (e := (35, .iconst (-1), 1, (0, 0, 0), [])) (by decide +kernel)) (by decide) ?_
          exact q_retI (mz_fe (e := (36, .ireturn, 1, (0, 0, 0), [])) (by decide +kernel)) (by decide +kernel)
set_option maxRecDepth 10000 in
theorem R_X12_fillsTwo_eq (d : Nat) (x0 : Int32) (m : MzM)  : R_X12_fillsTwo d x0 m = (R_X12_fillsPairs d  m).bind (fun m1 => H_X12_fillsTwo_8 d x0 0 0 m1) := by
  show mz_cI (mz_T d 284 0 (mz_en (mz_xl 284) [.ref 239, .int x0]) [] m) = _
  rw [show mz_en (mz_xl 284) [.ref 239, .int x0] = [some (.ref 239), some (.int x0), none, none, none] from by rw [show mz_xl 284 = 5 from by decide +kernel]; rfl]
  refine q_o (mz_fe (e := (0, .aload_n 0, 1, (0, 0, 0), [])) (by decide +kernel)) (pc2 := 1) rfl ?_
  refine q_callV (N := 249) (vs := [.ref 239]) (rest := []) (L' := [some (.ref 239), some (.int x0), none, none, none]) rfl (mz_fe (e := (1, .invokevirtual 432, 228, (249, 1, 18), [])) (by decide +kernel)) rfl (mz_inv_virt (N := 249) (k := 1) (t := 18) (st := [.ref 239]) (rest := []) (b := 239) (vs := []) (h := (mz_S0, m)) rfl rfl (Nat.le_of_ble_eq_true rfl) (Nat.le_of_ble_eq_true rfl) tg_239 (by decide)) (mz_dc_lt (n := 1) rfl (by decide +kernel) (by decide +kernel)) (by decide +kernel) (by decide +kernel) (fun m1 => ?_)
  refine q_ic (v := 0) (mz_fe (e := (4, .iconst 0, 1, (0, 0, 0), [])) (by decide +kernel)) (by decide) ?_
  refine q_s (mz_fe (e := (5, .istore_n 2, 1, (0, 0, 0), [])) (by decide +kernel)) (pc' := 6) (L' := [some (.ref 239), some (.int x0), some (.int 0), none, none]) (st' := []) rfl ?_
  refine q_ic (v := 0) (mz_fe (e := (6, .iconst 0, 1, (0, 0, 0), [])) (by decide +kernel)) (by decide) ?_
  refine q_s (mz_fe (e := (7, .istore_n 3, 1, (0, 0, 0), [])) (by decide +kernel)) (pc' := 8) (L' := [some (.ref 239), some (.int x0), some (.int 0), some (.int 0), none]) (st' := []) rfl ?_
  exact congrArg mz_cI (mz_At_msk (L := [some (.ref 239), some (.int x0), some (.int 0), some (.int 0), none]) (L2 := [some (.ref 239), some (.int x0), some (.int 0), some (.int 0), none]) (mz_fe (e := (8, .iload_n 3, 1, (0, 0, 0), [true, true, true, true, false])) (by decide +kernel)) rfl rfl)
set_option maxRecDepth 10000 in
theorem H_X12_fillsTwo_8_eq (d : Nat) (y1 : Int32) (y2 : Int32) (y3 : Int32) (m : MzM)  : H_X12_fillsTwo_8 d y1 y2 y3 m = if (mz_rd m 239 54) ≤ y3 then (some (y2, m)) else ((R_X12_copies d  m).bind (fun m5 => mz_g (mz_ok y3 15) ((R_X12_turnsPair d (mz_rd m5 274 (y3 : Int32).toNatClampNeg) m5).bind (fun m9 => H_X12_fillsTwo_33 d y1 y2 y3 0 m9)))) := by
  show mz_cI (mz_T d 284 8 [some (.ref 239), some (.int y1), some (.int y2), some (.int y3), none] [] m) = _
  refine q_s (mz_fe (e := (8, .iload_n 3, 1, (0, 0, 0), [true, true, true, true, false])) (by decide +kernel)) (pc' := 9) (L' := [some (.ref 239), some (.int y1), some (.int y2), some (.int y3), none]) (st' := [.int y3]) rfl ?_
  refine q_o (mz_fe (e := (9, .aload_n 0, 1, (0, 0, 0), [])) (by decide +kernel)) (pc2 := 10) rfl ?_
  refine q_getI (mz_fe (e := (10, .getfield 402, 181, (12, 54, 0), [])) (by decide +kernel)) rfl (by decide) tg_239 (by rw [ln_239]; decide) ?_
  refine q_if (c := .ge) (off := 136) (t := 149) (x := y3) (y := (mz_rd m 239 54)) (st := []) (mz_fe (e := (13, .if_icmp .ge 136, 3, (0, 0, 0), [])) (by decide +kernel)) (fun _ => rfl) rfl rfl rfl (fun c4 => ?_) (fun c4 => ?_)
  · refine q_o (mz_fe (e := (149, .iload_n 2, 1, (0, 0, 0), [])) (by decide +kernel)) (pc2 := 150) rfl ?_
    exact q_retI (mz_fe (e := (150, .ireturn, 1, (0, 0, 0), [])) (by decide +kernel)) (by decide +kernel)
  · refine q_o (mz_fe (e := (16, .aload_n 0, 1, (0, 0, 0), [])) (by decide +kernel)) (pc2 := 17) rfl ?_
    refine q_callV (N := 217) (vs := [.ref 239]) (rest := []) (L' := [some (.ref 239), some (.int y1), some (.int y2), some (.int y3), none]) rfl (mz_fe (e := (17, .invokevirtual 323, 198, (217, 1, 18), [])) (by decide +kernel)) rfl (mz_inv_virt (N := 217) (k := 1) (t := 18) (st := [.ref 239]) (rest := []) (b := 239) (vs := []) (h := (mz_S0, m)) rfl rfl (Nat.le_of_ble_eq_true rfl) (Nat.le_of_ble_eq_true rfl) tg_239 (by decide)) (mz_dc_lt (n := 1) rfl (by decide +kernel) (by decide +kernel)) (by decide +kernel) (by decide +kernel) (fun m5 => ?_)
    refine q_o (mz_fe (e := (20, .aload_n 0, 1, (0, 0, 0), [])) (by decide +kernel)) (pc2 := 21) rfl ?_
    refine q_o (mz_fe (e := (21, .aload_n 0, 1, (0, 0, 0), [])) (by decide +kernel)) (pc2 := 22) rfl ?_
    refine q_getR (b := 274) (mz_fe (e := (22, .getfield 122, 152, (12, 55, 2), [])) (by decide +kernel)) rfl tg_239 (by rw [ln_239]; decide) (mz_rfS (by decide +kernel)) ?_
    refine q_o (mz_fe (e := (25, .iload_n 3, 1, (0, 0, 0), [])) (by decide +kernel)) (pc2 := 26) rfl ?_
    refine q_ialdg rfl (mz_fe (e := (26, .iaload, 1, (0, 0, 0), [])) (by decide +kernel)) rfl (by decide) tg_274 ln_274 (fun g8 => ?_)
    refine q_callV (N := 250) (vs := [.ref 239, .int (mz_rd m5 274 (y3 : Int32).toNatClampNeg)]) (rest := []) (L' := [some (.ref 239), some (.int y1), some (.int y2), some (.int y3), none]) rfl (mz_fe (e := (27, .invokevirtual 426, 226, (250, 2, 18), [])) (by decide +kernel)) rfl (mz_inv_virt (N := 250) (k := 2) (t := 18) (st := [.int (mz_rd m5 274 (y3 : Int32).toNatClampNeg), .ref 239]) (rest := []) (b := 239) (vs := [.int (mz_rd m5 274 (y3 : Int32).toNatClampNeg)]) (h := (mz_S0, m5)) rfl rfl (Nat.le_of_ble_eq_true rfl) (Nat.le_of_ble_eq_true rfl) tg_239 (by decide)) (mz_dc_lt (n := 2) rfl (by decide +kernel) (by decide +kernel)) (by decide +kernel) (by decide +kernel) (fun m9 => ?_)
    refine q_ic (v := 0) (mz_fe (e := (30, .iconst 0, 1, (0, 0, 0), [])) (by decide +kernel)) (by decide) ?_
    refine q_s (mz_fe (e := (31, .istore 4, 2, (0, 0, 0), [])) (by decide +kernel)) (pc' := 33) (L' := [some (.ref 239), some (.int y1), some (.int y2), some (.int y3), some (.int 0)]) (st' := []) rfl ?_
    exact congrArg mz_cI (mz_At_msk (L := [some (.ref 239), some (.int y1), some (.int y2), some (.int y3), some (.int 0)]) (L2 := [some (.ref 239), some (.int y1), some (.int y2), some (.int y3), some (.int 0)]) (mz_fe (e := (33, .iload 4, 2, (0, 0, 0), [true, true, true, true, true])) (by decide +kernel)) rfl rfl)
set_option maxRecDepth 10000 in
theorem H_X12_fillsTwo_33_eq (d : Nat) (y1 : Int32) (y2 : Int32) (y3 : Int32) (y4 : Int32) (m : MzM)  : H_X12_fillsTwo_33 d y1 y2 y3 y4 m = if (24 : Int32) ≤ y4 then (mz_g (mz_ok y3 15) (H_X12_fillsTwo_75 d y1 y2 y3 0 (mz_wr m 280 (y3 : Int32).toNatClampNeg (vp_nar .boolean 1)))) else (mz_g (mz_ok y4 39) (mz_g (mz_ok (((24 : Int32) * y3) + y4) 360) (H_X12_fillsTwo_33 d y1 y2 y3 (y4 + 1) (mz_wr m 281 ((((24 : Int32) * y3) + y4) : Int32).toNatClampNeg (mz_rd m 271 (y4 : Int32).toNatClampNeg))))) := by
  show mz_cI (mz_T d 284 33 [some (.ref 239), some (.int y1), some (.int y2), some (.int y3), some (.int y4)] [] m) = _
  refine q_s (mz_fe (e := (33, .iload 4, 2, (0, 0, 0), [true, true, true, true, true])) (by decide +kernel)) (pc' := 35) (L' := [some (.ref 239), some (.int y1), some (.int y2), some (.int y3), some (.int y4)]) (st' := [.int y4]) rfl ?_
  refine q_bi (v := 24) (mz_fe (e := (35, .bipush 24, 2, (0, 0, 0), [])) (by decide +kernel)) (by decide) ?_
  refine q_if (c := .ge) (off := 28) (t := 65) (x := y4) (y := 24) (st := []) (mz_fe (e := (37, .if_icmp .ge 28, 3, (0, 0, 0), [])) (by decide +kernel)) (fun _ => rfl) rfl rfl rfl (fun c12 => ?_) (fun c12 => ?_)
  · refine q_o (mz_fe (e := (65, .aload_n 0, 1, (0, 0, 0), [])) (by decide +kernel)) (pc2 := 66) rfl ?_
    refine q_getR (b := 280) (mz_fe (e := (66, .getfield 140, 158, (12, 66, 2), [])) (by decide +kernel)) rfl tg_239 (by rw [ln_239]; decide) (mz_rfS (by decide +kernel)) ?_
    refine q_o (mz_fe (e := (69, .iload_n 3, 1, (0, 0, 0), [])) (by decide +kernel)) (pc2 := 70) rfl ?_
    refine q_ic (v := 1) (mz_fe (e := (70, .iconst 1, 1, (0, 0, 0), [])) (by decide +kernel)) (by decide) ?_
    refine q_stAg (f := (vp_nar .boolean)) rfl (mz_fe (e := (71, .bastore, 1, (0, 0, 0), [])) (by decide +kernel)) (q_actZ tg_280) rfl tg_280 ln_280 (fun g13 => ?_)
    refine q_ic (v := 0) (mz_fe (e := (72, .iconst 0, 1, (0, 0, 0), [])) (by decide +kernel)) (by decide) ?_
    refine q_s (mz_fe (e := (73, .istore 4, 2, (0, 0, 0), [])) (by decide +kernel)) (pc' := 75) (L' := [some (.ref 239), some (.int y1), some (.int y2), some (.int y3), some (.int 0)]) (st' := []) rfl ?_
    exact congrArg mz_cI (mz_At_msk (L := [some (.ref 239), some (.int y1), some (.int y2), some (.int y3), some (.int 0)]) (L2 := [some (.ref 239), some (.int y1), some (.int y2), some (.int y3), some (.int 0)]) (mz_fe (e := (75, .iload 4, 2, (0, 0, 0), [true, true, true, true, true])) (by decide +kernel)) rfl rfl)
  · refine q_o (mz_fe (e := (40, .aload_n 0, 1, (0, 0, 0), [])) (by decide +kernel)) (pc2 := 41) rfl ?_
    refine q_getR (b := 281) (mz_fe (e := (41, .getfield 143, 159, (12, 67, 2), [])) (by decide +kernel)) rfl tg_239 (by rw [ln_239]; decide) (mz_rfS (by decide +kernel)) ?_
    refine q_bi (v := 24) (mz_fe (e := (44, .bipush 24, 2, (0, 0, 0), [])) (by decide +kernel)) (by decide) ?_
    refine q_o (mz_fe (e := (46, .iload_n 3, 1, (0, 0, 0), [])) (by decide +kernel)) (pc2 := 47) rfl ?_
    refine q_o (mz_fe (e := (47, .imul, 1, (0, 0, 0), [])) (by decide +kernel)) (pc2 := 48) rfl ?_
    refine q_o (mz_fe (e := (48, .iload 4, 2, (0, 0, 0), [])) (by decide +kernel)) (pc2 := 50) rfl ?_
    refine q_o (mz_fe (e := (50, .iadd, 1, (0, 0, 0), [])) (by decide +kernel)) (pc2 := 51) rfl ?_
    refine q_o (mz_fe (e := (51, .aload_n 0, 1, (0, 0, 0), [])) (by decide +kernel)) (pc2 := 52) rfl ?_
    refine q_getR (b := 271) (mz_fe (e := (52, .getfield 113, 149, (12, 48, 2), [])) (by decide +kernel)) rfl tg_239 (by rw [ln_239]; decide) (mz_rfS (by decide +kernel)) ?_
    refine q_o (mz_fe (e := (55, .iload 4, 2, (0, 0, 0), [])) (by decide +kernel)) (pc2 := 57) rfl ?_
    refine q_ialdg rfl (mz_fe (e := (57, .iaload, 1, (0, 0, 0), [])) (by decide +kernel)) rfl (by decide) tg_271 ln_271 (fun g14 => ?_)
    refine q_stAg (f := (fun x => x)) rfl (mz_fe (e := (58, .iastore, 1, (0, 0, 0), [])) (by decide +kernel)) (fun _ => rfl) rfl tg_281 ln_281 (fun g15 => ?_)
    refine q_iinc (v := y4) (c := 1) (L3 := [some (.ref 239), some (.int y1), some (.int y2), some (.int y3), some (.int (y4 + 1))]) (mz_fe (e := (59, .iinc 4 1, 3, (0, 0, 0), [])) (by decide +kernel)) rfl rfl (by decide) rfl ?_
    refine q_o (mz_fe (e := (62, .goto (-29), 3, (0, 0, 0), [])) (by decide +kernel)) (pc2 := 33) rfl ?_
    exact congrArg mz_cI (mz_At_msk (L := [some (.ref 239), some (.int y1), some (.int y2), some (.int y3), some (.int (y4 + 1))]) (L2 := [some (.ref 239), some (.int y1), some (.int y2), some (.int y3), some (.int (y4 + 1))]) (mz_fe (e := (33, .iload 4, 2, (0, 0, 0), [true, true, true, true, true])) (by decide +kernel)) rfl rfl)
set_option maxRecDepth 10000 in
theorem H_X12_fillsTwo_75_eq (d : Nat) (y1 : Int32) (y2 : Int32) (y3 : Int32) (y4 : Int32) (m : MzM)  : H_X12_fillsTwo_75 d y1 y2 y3 y4 m = if y1 ≤ y4 then (mz_g (mz_ok y3 15) (if (mz_rd m 280 (y3 : Int32).toNatClampNeg) = 0 then (H_X12_fillsTwo_8 d y1 y2 (y3 + 1) m) else (H_X12_fillsTwo_8 d y1 (y2 + 1) (y3 + 1) m))) else (mz_g (mz_ok y4 20) (mz_g (mz_ok (mz_rd m 277 (y4 : Int32).toNatClampNeg) 39) (mz_g (mz_ok y4 20) (if (mz_rd m 271 ((mz_rd m 277 (y4 : Int32).toNatClampNeg) : Int32).toNatClampNeg) < (mz_rd m 278 (y4 : Int32).toNatClampNeg) then (mz_g (mz_ok y4 20) (if (0 : Int32) = (mz_rd m 279 (y4 : Int32).toNatClampNeg) then (H_X12_fillsTwo_75 d y1 y2 y3 (y4 + 1) m) else (mz_g (mz_ok y3 15) (H_X12_fillsTwo_75 d y1 y2 y3 (y4 + 1) (mz_wr m 280 (y3 : Int32).toNatClampNeg (vp_nar .boolean 0)))))) else (mz_g (mz_ok y4 20) (if (1 : Int32) = (mz_rd m 279 (y4 : Int32).toNatClampNeg) then (H_X12_fillsTwo_75 d y1 y2 y3 (y4 + 1) m) else (mz_g (mz_ok y3 15) (H_X12_fillsTwo_75 d y1 y2 y3 (y4 + 1) (mz_wr m 280 (y3 : Int32).toNatClampNeg (vp_nar .boolean 0)))))))))) := by
  show mz_cI (mz_T d 284 75 [some (.ref 239), some (.int y1), some (.int y2), some (.int y3), some (.int y4)] [] m) = _
  refine q_s (mz_fe (e := (75, .iload 4, 2, (0, 0, 0), [true, true, true, true, true])) (by decide +kernel)) (pc' := 77) (L' := [some (.ref 239), some (.int y1), some (.int y2), some (.int y3), some (.int y4)]) (st' := [.int y4]) rfl ?_
  refine q_o (mz_fe (e := (77, .iload_n 1, 1, (0, 0, 0), [])) (by decide +kernel)) (pc2 := 78) rfl ?_
  refine q_if (c := .ge) (off := 53) (t := 131) (x := y4) (y := y1) (st := []) (mz_fe (e := (78, .if_icmp .ge 53, 3, (0, 0, 0), [])) (by decide +kernel)) (fun _ => rfl) rfl rfl rfl (fun c16 => ?_) (fun c16 => ?_)
  · refine q_o (mz_fe (e := (131, .aload_n 0, 1, (0, 0, 0), [])) (by decide +kernel)) (pc2 := 132) rfl ?_
    refine q_getR (b := 280) (mz_fe (e := (132, .getfield 140, 158, (12, 66, 2), [])) (by decide +kernel)) rfl tg_239 (by rw [ln_239]; decide) (mz_rfS (by decide +kernel)) ?_
    refine q_o (mz_fe (e := (135, .iload_n 3, 1, (0, 0, 0), [])) (by decide +kernel)) (pc2 := 136) rfl ?_
    refine q_baldg rfl (mz_fe (e := (136, .baload, 1, (0, 0, 0), [])) (by decide +kernel)) rfl (Or.inl tg_280) ln_280 (fun g17 => ?_)
    refine q_if (c := .eq) (off := 6) (t := 143) (x := (mz_rd m 280 (y3 : Int32).toNatClampNeg)) (y := 0) (st := []) (mz_fe (e := (137, .ifCond .eq 6, 3, (0, 0, 0), [])) (by decide +kernel)) (fun _ => rfl) rfl rfl rfl (fun c18 => ?_) (fun c18 => ?_)
    · refine q_iinc (v := y3) (c := 1) (L3 := [some (.ref 239), some (.int y1), some (.int y2), some (.int (y3 + 1)), some (.int y4)]) (mz_fe (e := (143, .iinc 3 1, 3, (0, 0, 0), [])) (by decide +kernel)) rfl rfl (by decide) rfl ?_
      refine q_o (mz_fe (e := (146, .goto (-138), 3, (0, 0, 0), [])) (by decide +kernel)) (pc2 := 8) rfl ?_
      exact congrArg mz_cI (mz_At_msk (L := [some (.ref 239), some (.int y1), some (.int y2), some (.int (y3 + 1)), some (.int y4)]) (L2 := [some (.ref 239), some (.int y1), some (.int y2), some (.int (y3 + 1)), none]) (mz_fe (e := (8, .iload_n 3, 1, (0, 0, 0), [true, true, true, true, false])) (by decide +kernel)) rfl rfl)
    · refine q_iinc (v := y2) (c := 1) (L3 := [some (.ref 239), some (.int y1), some (.int (y2 + 1)), some (.int y3), some (.int y4)]) (mz_fe (e := (140, .iinc 2 1, 3, (0, 0, 0), [])) (by decide +kernel)) rfl rfl (by decide) rfl ?_
      refine q_iinc (v := y3) (c := 1) (L3 := [some (.ref 239), some (.int y1), some (.int (y2 + 1)), some (.int (y3 + 1)), some (.int y4)]) (mz_fe (e := (143, .iinc 3 1, 3, (0, 0, 0), [])) (by decide +kernel)) rfl rfl (by decide) rfl ?_
      refine q_o (mz_fe (e := (146, .goto (-138), 3, (0, 0, 0), [])) (by decide +kernel)) (pc2 := 8) rfl ?_
      exact congrArg mz_cI (mz_At_msk (L := [some (.ref 239), some (.int y1), some (.int (y2 + 1)), some (.int (y3 + 1)), some (.int y4)]) (L2 := [some (.ref 239), some (.int y1), some (.int (y2 + 1)), some (.int (y3 + 1)), none]) (mz_fe (e := (8, .iload_n 3, 1, (0, 0, 0), [true, true, true, true, false])) (by decide +kernel)) rfl rfl)
  · refine q_o (mz_fe (e := (81, .aload_n 0, 1, (0, 0, 0), [])) (by decide +kernel)) (pc2 := 82) rfl ?_
    refine q_getR (b := 271) (mz_fe (e := (82, .getfield 113, 149, (12, 48, 2), [])) (by decide +kernel)) rfl tg_239 (by rw [ln_239]; decide) (mz_rfS (by decide +kernel)) ?_
    refine q_o (mz_fe (e := (85, .aload_n 0, 1, (0, 0, 0), [])) (by decide +kernel)) (pc2 := 86) rfl ?_
    refine q_getR (b := 277) (mz_fe (e := (86, .getfield 131, 155, (12, 63, 2), [])) (by decide +kernel)) rfl tg_239 (by rw [ln_239]; decide) (mz_rfS (by decide +kernel)) ?_
    refine q_o (mz_fe (e := (89, .iload 4, 2, (0, 0, 0), [])) (by decide +kernel)) (pc2 := 91) rfl ?_
    refine q_ialdg rfl (mz_fe (e := (91, .iaload, 1, (0, 0, 0), [])) (by decide +kernel)) rfl (by decide) tg_277 ln_277 (fun g19 => ?_)
    refine q_ialdg rfl (mz_fe (e := (92, .iaload, 1, (0, 0, 0), [])) (by decide +kernel)) rfl (by decide) tg_271 ln_271 (fun g20 => ?_)
    refine q_o (mz_fe (e := (93, .aload_n 0, 1, (0, 0, 0), [])) (by decide +kernel)) (pc2 := 94) rfl ?_
    refine q_getR (b := 278) (mz_fe (e := (94, .getfield 134, 156, (12, 64, 2), [])) (by decide +kernel)) rfl tg_239 (by rw [ln_239]; decide) (mz_rfS (by decide +kernel)) ?_
    refine q_o (mz_fe (e := (97, .iload 4, 2, (0, 0, 0), [])) (by decide +kernel)) (pc2 := 99) rfl ?_
    refine q_ialdg rfl (mz_fe (e := (99, .iaload, 1, (0, 0, 0), [])) (by decide +kernel)) rfl (by decide) tg_278 ln_278 (fun g21 => ?_)
    refine q_if (c := .lt) (off := 7) (t := 107) (x := (mz_rd m 271 ((mz_rd m 277 (y4 : Int32).toNatClampNeg) : Int32).toNatClampNeg)) (y := (mz_rd m 278 (y4 : Int32).toNatClampNeg)) (st := []) (mz_fe (e := (100, .if_icmp .lt 7, 3, (0, 0, 0), [])) (by decide +kernel)) (fun _ => rfl) rfl rfl rfl (fun c22 => ?_) (fun c22 => ?_)
    · refine q_ic (v := 0) (mz_fe (e := (107, .iconst 0, 1, (0, 0, 0), [])) (by decide +kernel)) (by decide) ?_
      refine q_o (mz_fe (e := (108, .aload_n 0, 1, (0, 0, 0), [])) (by decide +kernel)) (pc2 := 109) rfl ?_
      refine q_getR (b := 279) (mz_fe (e := (109, .getfield 137, 157, (12, 65, 2), [])) (by decide +kernel)) rfl tg_239 (by rw [ln_239]; decide) (mz_rfS (by decide +kernel)) ?_
      refine q_o (mz_fe (e := (112, .iload 4, 2, (0, 0, 0), [])) (by decide +kernel)) (pc2 := 114) rfl ?_
      refine q_baldg rfl (mz_fe (e := (114, .baload, 1, (0, 0, 0), [])) (by decide +kernel)) rfl (Or.inl tg_279) ln_279 (fun g23 => ?_)
      refine q_if (c := .eq) (off := 10) (t := 125) (x := 0) (y := (mz_rd m 279 (y4 : Int32).toNatClampNeg)) (st := []) (mz_fe (e := (115, .if_icmp .eq 10, 3, (0, 0, 0), [])) (by decide +kernel)) (fun _ => rfl) rfl rfl rfl (fun c24 => ?_) (fun c24 => ?_)
      · refine q_iinc (v := y4) (c := 1) (L3 := [some (.ref 239), some (.int y1), some (.int y2), some (.int y3), some (.int (y4 + 1))]) (mz_fe (e := (125, .iinc 4 1, 3, (0, 0, 0), [])) (by decide +kernel)) rfl rfl (by decide) rfl ?_
        refine q_o (mz_fe (e := (128, .goto (-53), 3, (0, 0, 0), [])) (by decide +kernel)) (pc2 := 75) rfl ?_
        exact congrArg mz_cI (mz_At_msk (L := [some (.ref 239), some (.int y1), some (.int y2), some (.int y3), some (.int (y4 + 1))]) (L2 := [some (.ref 239), some (.int y1), some (.int y2), some (.int y3), some (.int (y4 + 1))]) (mz_fe (e := (75, .iload 4, 2, (0, 0, 0), [true, true, true, true, true])) (by decide +kernel)) rfl rfl)
      · refine q_o (mz_fe (e := (118, .aload_n 0, 1, (0, 0, 0), [])) (by decide +kernel)) (pc2 := 119) rfl ?_
        refine q_getR (b := 280) (mz_fe (e := (119, .getfield 140, 158, (12, 66, 2), [])) (by decide +kernel)) rfl tg_239 (by rw [ln_239]; decide) (mz_rfS (by decide +kernel)) ?_
        refine q_o (mz_fe (e := (122, .iload_n 3, 1, (0, 0, 0), [])) (by decide +kernel)) (pc2 := 123) rfl ?_
        refine q_ic (v := 0) (mz_fe (e := (123, .iconst 0, 1, (0, 0, 0), [])) (by decide +kernel)) (by decide) ?_
        refine q_stAg (f := (vp_nar .boolean)) rfl (mz_fe (e := (124, .bastore, 1, (0, 0, 0), [])) (by decide +kernel)) (q_actZ tg_280) rfl tg_280 ln_280 (fun g25 => ?_)
        refine q_iinc (v := y4) (c := 1) (L3 := [some (.ref 239), some (.int y1), some (.int y2), some (.int y3), some (.int (y4 + 1))]) (mz_fe (e := (125, .iinc 4 1, 3, (0, 0, 0), [])) (by decide +kernel)) rfl rfl (by decide) rfl ?_
        refine q_o (mz_fe (e := (128, .goto (-53), 3, (0, 0, 0), [])) (by decide +kernel)) (pc2 := 75) rfl ?_
        exact congrArg mz_cI (mz_At_msk (L := [some (.ref 239), some (.int y1), some (.int y2), some (.int y3), some (.int (y4 + 1))]) (L2 := [some (.ref 239), some (.int y1), some (.int y2), some (.int y3), some (.int (y4 + 1))]) (mz_fe (e := (75, .iload 4, 2, (0, 0, 0), [true, true, true, true, true])) (by decide +kernel)) rfl rfl)
    · refine q_ic (v := 1) (mz_fe (e := (103, .iconst 1, 1, (0, 0, 0), [])) (by decide +kernel)) (by decide) ?_
      refine q_o (mz_fe (e := (104, .goto 4, 3, (0, 0, 0), [])) (by decide +kernel)) (pc2 := 108) rfl ?_
      refine q_o (mz_fe (e := (108, .aload_n 0, 1, (0, 0, 0), [])) (by decide +kernel)) (pc2 := 109) rfl ?_
      refine q_getR (b := 279) (mz_fe (e := (109, .getfield 137, 157, (12, 65, 2), [])) (by decide +kernel)) rfl tg_239 (by rw [ln_239]; decide) (mz_rfS (by decide +kernel)) ?_
      refine q_o (mz_fe (e := (112, .iload 4, 2, (0, 0, 0), [])) (by decide +kernel)) (pc2 := 114) rfl ?_
      refine q_baldg rfl (mz_fe (e := (114, .baload, 1, (0, 0, 0), [])) (by decide +kernel)) rfl (Or.inl tg_279) ln_279 (fun g26 => ?_)
      refine q_if (c := .eq) (off := 10) (t := 125) (x := 1) (y := (mz_rd m 279 (y4 : Int32).toNatClampNeg)) (st := []) (mz_fe (e := (115, .if_icmp .eq 10, 3, (0, 0, 0), [])) (by decide +kernel)) (fun _ => rfl) rfl rfl rfl (fun c27 => ?_) (fun c27 => ?_)
      · refine q_iinc (v := y4) (c := 1) (L3 := [some (.ref 239), some (.int y1), some (.int y2), some (.int y3), some (.int (y4 + 1))]) (mz_fe (e := (125, .iinc 4 1, 3, (0, 0, 0), [])) (by decide +kernel)) rfl rfl (by decide) rfl ?_
        refine q_o (mz_fe (e := (128, .goto (-53), 3, (0, 0, 0), [])) (by decide +kernel)) (pc2 := 75) rfl ?_
        exact congrArg mz_cI (mz_At_msk (L := [some (.ref 239), some (.int y1), some (.int y2), some (.int y3), some (.int (y4 + 1))]) (L2 := [some (.ref 239), some (.int y1), some (.int y2), some (.int y3), some (.int (y4 + 1))]) (mz_fe (e := (75, .iload 4, 2, (0, 0, 0), [true, true, true, true, true])) (by decide +kernel)) rfl rfl)
      · refine q_o (mz_fe (e := (118, .aload_n 0, 1, (0, 0, 0), [])) (by decide +kernel)) (pc2 := 119) rfl ?_
        refine q_getR (b := 280) (mz_fe (e := (119, .getfield 140, 158, (12, 66, 2), [])) (by decide +kernel)) rfl tg_239 (by rw [ln_239]; decide) (mz_rfS (by decide +kernel)) ?_
        refine q_o (mz_fe (e := (122, .iload_n 3, 1, (0, 0, 0), [])) (by decide +kernel)) (pc2 := 123) rfl ?_
        refine q_ic (v := 0) (mz_fe (e := (123, .iconst 0, 1, (0, 0, 0), [])) (by decide +kernel)) (by decide) ?_
        refine q_stAg (f := (vp_nar .boolean)) rfl (mz_fe (e := (124, .bastore, 1, (0, 0, 0), [])) (by decide +kernel)) (q_actZ tg_280) rfl tg_280 ln_280 (fun g28 => ?_)
        refine q_iinc (v := y4) (c := 1) (L3 := [some (.ref 239), some (.int y1), some (.int y2), some (.int y3), some (.int (y4 + 1))]) (mz_fe (e := (125, .iinc 4 1, 3, (0, 0, 0), [])) (by decide +kernel)) rfl rfl (by decide) rfl ?_
        refine q_o (mz_fe (e := (128, .goto (-53), 3, (0, 0, 0), [])) (by decide +kernel)) (pc2 := 75) rfl ?_
        exact congrArg mz_cI (mz_At_msk (L := [some (.ref 239), some (.int y1), some (.int y2), some (.int y3), some (.int (y4 + 1))]) (L2 := [some (.ref 239), some (.int y1), some (.int y2), some (.int y3), some (.int (y4 + 1))]) (mz_fe (e := (75, .iload 4, 2, (0, 0, 0), [true, true, true, true, true])) (by decide +kernel)) rfl rfl)
set_option maxRecDepth 10000 in
theorem R_X12_ask_eq (d : Nat) (x0 : Int32) (x1 : Int32) (m : MzM)  : R_X12_ask d x0 x1 m = (R_X12_in d x0 0 (mz_rd m 239 62) m).bind (fun u3 => if u3.1 = 0 then (some ((-1), u3.2)) else ((R_X12_in d x1 0 999 u3.2).bind (fun u7 => if ¬ u7.1 = 0 then ((R_X12_fillsTwo d x0 u7.2).bind (fun u11 => H_X12_ask_41 d x1 u11.1 (-2) 0 0 u11.2)) else (some ((-1), u7.2))))) := by
  show mz_cI (mz_T d 286 0 (mz_en (mz_xl 286) [.ref 239, .int x0, .int x1]) [] m) = _
  rw [show mz_en (mz_xl 286) [.ref 239, .int x0, .int x1] = [some (.ref 239), some (.int x0), some (.int x1), none, none, none, none, none, none] from by rw [show mz_xl 286 = 9 from by decide +kernel]; rfl]
  refine q_o (mz_fe (e := (0, .iload_n 1, 1, (0, 0, 0), [])) (by decide +kernel)) (pc2 := 1) rfl ?_
  refine q_ic (v := 0) (mz_fe (e := (1, .iconst 0, 1, (0, 0, 0), [])) (by decide +kernel)) (by decide) ?_
  refine q_o (mz_fe (e := (2, .aload_n 0, 1, (0, 0, 0), [])) (by decide +kernel)) (pc2 := 3) rfl ?_
  refine q_getI (mz_fe (e := (3, .getfield 251, 176, (12, 62, 0), [])) (by decide +kernel)) rfl (by decide) tg_239 (by rw [ln_239]; decide) ?_
  refine q_callI (N := 208) (vs := [.int x0, .int 0, .int (mz_rd m 239 62)]) (rest := []) (L' := [some (.ref 239), some (.int x0), some (.int x1), none, none, none, none, none, none]) (f := fun v2 m1 => if v2 = 0 then (some ((-1), m1)) else ((R_X12_in d x1 0 999 m1).bind (fun u7 => if ¬ u7.1 = 0 then ((R_X12_fillsTwo d x0 u7.2).bind (fun u11 => H_X12_ask_41 d x1 u11.1 (-2) 0 0 u11.2)) else (some ((-1), u7.2))))) rfl (mz_fe (e := (6, .invokestatic 310, 196, (208, 3, 1000), [])) (by decide +kernel)) rfl (mz_inv_stat (N := 208) (k := 3) (st := [.int (mz_rd m 239 62), .int 0, .int x0]) (rest := []) (vs := [.int x0, .int 0, .int (mz_rd m 239 62)]) (h := (mz_S0, m)) rfl rfl (Nat.le_of_ble_eq_true rfl) (Nat.le_of_ble_eq_true rfl)) (mz_dc_lt (n := 3) rfl (by decide +kernel) (by decide +kernel)) (by decide +kernel) (Or.inr (by decide +kernel)) (fun v2 m1 => ?_)
  refine q_if (c := .eq) (off := 14) (t := 23) (x := v2) (y := 0) (st := []) (mz_fe (e := (9, .ifCond .eq 14, 3, (0, 0, 0), [])) (by decide +kernel)) (fun _ => rfl) rfl rfl rfl (fun c4 => ?_) (fun c4 => ?_)
  · refine q_ic (v := (-1)) (mz_fe (e := (23, .iconst (-1), 1, (0, 0, 0), [])) (by decide +kernel)) (by decide) ?_
    exact q_retI (mz_fe (e := (24, .ireturn, 1, (0, 0, 0), [])) (by decide +kernel)) (by decide +kernel)
  · refine q_o (mz_fe (e := (12, .iload_n 2, 1, (0, 0, 0), [])) (by decide +kernel)) (pc2 := 13) rfl ?_
    refine q_ic (v := 0) (mz_fe (e := (13, .iconst 0, 1, (0, 0, 0), [])) (by decide +kernel)) (by decide) ?_
    refine q_si (v := 999) (mz_fe (e := (14, .sipush 999, 3, (0, 0, 0), [])) (by decide +kernel)) (by decide) ?_
    refine q_callI (N := 208) (vs := [.int x1, .int 0, .int 999]) (rest := []) (L' := [some (.ref 239), some (.int x0), some (.int x1), none, none, none, none, none, none]) (f := fun v6 m5 => if ¬ v6 = 0 then ((R_X12_fillsTwo d x0 m5).bind (fun u11 => H_X12_ask_41 d x1 u11.1 (-2) 0 0 u11.2)) else (some ((-1), m5))) rfl (mz_fe (e := (17, .invokestatic 310, 196, (208, 3, 1000), [])) (by decide +kernel)) rfl (mz_inv_stat (N := 208) (k := 3) (st := [.int 999, .int 0, .int x1]) (rest := []) (vs := [.int x1, .int 0, .int 999]) (h := (mz_S0, m1)) rfl rfl (Nat.le_of_ble_eq_true rfl) (Nat.le_of_ble_eq_true rfl)) (mz_dc_lt (n := 3) rfl (by decide +kernel) (by decide +kernel)) (by decide +kernel) (Or.inr (by decide +kernel)) (fun v6 m5 => ?_)
    refine q_if (c := .ne) (off := 5) (t := 25) (x := v6) (y := 0) (st := []) (mz_fe (e := (20, .ifCond .ne 5, 3, (0, 0, 0), [])) (by decide +kernel)) (fun _ => rfl) rfl rfl rfl (fun c8 => ?_) (fun c8 => ?_)
    · refine q_o (mz_fe (e := (25, .aload_n 0, 1, (0, 0, 0), [])) (by decide +kernel)) (pc2 := 26) rfl ?_
      refine q_o (mz_fe (e := (26, .iload_n 1, 1, (0, 0, 0), [])) (by decide +kernel)) (pc2 := 27) rfl ?_
      refine q_callI (N := 284) (vs := [.ref 239, .int x0]) (rest := []) (L' := [some (.ref 239), some (.int x0), some (.int x1), none, none, none, none, none, none]) (f := fun v10 m9 => H_X12_ask_41 d x1 v10 (-2) 0 0 m9) rfl (mz_fe (e := (27, .invokevirtual 466, 239, (284, 2, 18), [])) (by decide +kernel)) rfl (mz_inv_virt (N := 284) (k := 2) (t := 18) (st := [.int x0, .ref 239]) (rest := []) (b := 239) (vs := [.int x0]) (h := (mz_S0, m5)) rfl rfl (Nat.le_of_ble_eq_true rfl) (Nat.le_of_ble_eq_true rfl) tg_239 (by decide)) (mz_dc_lt (n := 2) rfl (by decide +kernel) (by decide +kernel)) (by decide +kernel) (Or.inl (by decide +kernel)) (fun v10 m9 => ?_)
      refine q_s (mz_fe (e := (30, .istore_n 3, 1, (0, 0, 0), [])) (by decide +kernel)) (pc' := 31) (L' := [some (.ref 239), some (.int x0), some (.int x1), some (.int v10), none, none, none, none, none]) (st' := []) rfl ?_
      refine q_bi (v := (-2)) (mz_fe (e := (31, .bipush (-2), 2, (0, 0, 0), [])) (by decide +kernel)) (by decide) ?_
      refine q_s (mz_fe (e := (33, .istore 4, 2, (0, 0, 0), [])) (by decide +kernel)) (pc' := 35) (L' := [some (.ref 239), some (.int x0), some (.int x1), some (.int v10), some (.int (-2)), none, none, none, none]) (st' := []) rfl ?_
      refine q_ic (v := 0) (mz_fe (e := (35, .iconst 0, 1, (0, 0, 0), [])) (by decide +kernel)) (by decide) ?_
      refine q_s (mz_fe (e := (36, .istore 5, 2, (0, 0, 0), [])) (by decide +kernel)) (pc' := 38) (L' := [some (.ref 239), some (.int x0), some (.int x1), some (.int v10), some (.int (-2)), some (.int 0), none, none, none]) (st' := []) rfl ?_
      refine q_ic (v := 0) (mz_fe (e := (38, .iconst 0, 1, (0, 0, 0), [])) (by decide +kernel)) (by decide) ?_
      refine q_s (mz_fe (e := (39, .istore 6, 2, (0, 0, 0), [])) (by decide +kernel)) (pc' := 41) (L' := [some (.ref 239), some (.int x0), some (.int x1), some (.int v10), some (.int (-2)), some (.int 0), some (.int 0), none, none]) (st' := []) rfl ?_
      exact congrArg mz_cI (mz_At_msk (L := [some (.ref 239), some (.int x0), some (.int x1), some (.int v10), some (.int (-2)), some (.int 0), some (.int 0), none, none]) (L2 := [some (.ref 239), none, some (.int x1), some (.int v10), some (.int (-2)), some (.int 0), some (.int 0), none, none]) (mz_fe (e := (41, .iload 6, 2, (0, 0, 0), [true, false, true, true, true, true, true, false, false])) (by decide +kernel)) rfl rfl)
    · refine q_ic (v := (-1)) (mz_fe (e := (23, .iconst (-1), 1, (0, 0, 0), [])) (by decide +kernel)) (by decide) ?_
      exact q_retI (mz_fe (e := (24, .ireturn, 1, (0, 0, 0), [])) (by decide +kernel)) (by decide +kernel)
set_option maxRecDepth 10000 in
theorem H_X12_ask_41_eq (d : Nat) (y2 : Int32) (y3 : Int32) (y4 : Int32) (y5 : Int32) (y6 : Int32) (m : MzM)  : H_X12_ask_41 d y2 y3 y4 y5 y6 m = mz_g (mz_ok (mz_rd m 239 18) 2) (if ((4 : Int32) * (mz_rd m 248 ((mz_rd m 239 18) : Int32).toNatClampNeg)) ≤ y6 then (some (y4, m)) else (if y3 ≤ 0 then (some (y4, m)) else (H_X12_ask_67 d y2 y3 y4 y5 y6 0 0 m))) := by
  show mz_cI (mz_T d 286 41 [some (.ref 239), none, some (.int y2), some (.int y3), some (.int y4), some (.int y5), some (.int y6), none, none] [] m) = _
  refine q_s (mz_fe (e := (41, .iload 6, 2, (0, 0, 0), [true, false, true, true, true, true, true, false, false])) (by decide +kernel)) (pc' := 43) (L' := [some (.ref 239), none, some (.int y2), some (.int y3), some (.int y4), some (.int y5), some (.int y6), none, none]) (st' := [.int y6]) rfl ?_
  refine q_ic (v := 4) (mz_fe (e := (43, .iconst 4, 1, (0, 0, 0), [])) (by decide +kernel)) (by decide) ?_
  refine q_o (mz_fe (e := (44, .aload_n 0, 1, (0, 0, 0), [])) (by decide +kernel)) (pc2 := 45) rfl ?_
  refine q_getR (b := 248) (mz_fe (e := (45, .getfield 43, 126, (12, 21, 2), [])) (by decide +kernel)) rfl tg_239 (by rw [ln_239]; decide) (mz_rfS (by decide +kernel)) ?_
  refine q_o (mz_fe (e := (48, .aload_n 0, 1, (0, 0, 0), [])) (by decide +kernel)) (pc2 := 49) rfl ?_
  refine q_getI (mz_fe (e := (49, .getfield 233, 171, (12, 18, 0), [])) (by decide +kernel)) rfl (by decide) tg_239 (by rw [ln_239]; decide) ?_
  refine q_ialdg rfl (mz_fe (e := (52, .iaload, 1, (0, 0, 0), [])) (by decide +kernel)) rfl (by decide) tg_248 ln_248 (fun g12 => ?_)
  refine q_o (mz_fe (e := (53, .imul, 1, (0, 0, 0), [])) (by decide +kernel)) (pc2 := 54) rfl ?_
  refine q_if (c := .ge) (off := 117) (t := 171) (x := y6) (y := ((4 : Int32) * (mz_rd m 248 ((mz_rd m 239 18) : Int32).toNatClampNeg))) (st := []) (mz_fe (e := (54, .if_icmp .ge 117, 3, (0, 0, 0), [])) (by decide +kernel)) (fun _ => rfl) rfl rfl rfl (fun c13 => ?_) (fun c13 => ?_)
  · refine q_o (mz_fe (e := (171, .iload 4, 2, (0, 0, 0), [])) (by decide +kernel)) (pc2 := 173) rfl ?_
    exact q_retI (mz_fe (e := (173, .ireturn, 1, (0, 0, 0), [])) (by decide +kernel)) (by decide +kernel)
  · refine q_o (mz_fe (e := (57, .iload_n 3, 1, (0, 0, 0), [])) (by decide +kernel)) (pc2 := 58) rfl ?_
    refine q_if (c := .le) (off := 113) (t := 171) (x := y3) (y := 0) (st := []) (mz_fe (e := (58, .ifCond .le 113, 3, (0, 0, 0), [])) (by decide +kernel)) (fun _ => rfl) rfl rfl rfl (fun c14 => ?_) (fun c14 => ?_)
    · refine q_o (mz_fe (e := (171, .iload 4, 2, (0, 0, 0), [])) (by decide +kernel)) (pc2 := 173) rfl ?_
      exact q_retI (mz_fe (e := (173, .ireturn, 1, (0, 0, 0), [])) (by decide +kernel)) (by decide +kernel)
    · refine q_ic (v := 0) (mz_fe (e := (61, .iconst 0, 1, (0, 0, 0), [])) (by decide +kernel)) (by decide) ?_
      refine q_s (mz_fe (e := (62, .istore 7, 2, (0, 0, 0), [])) (by decide +kernel)) (pc' := 64) (L' := [some (.ref 239), none, some (.int y2), some (.int y3), some (.int y4), some (.int y5), some (.int y6), some (.int 0), none]) (st' := []) rfl ?_
      refine q_ic (v := 0) (mz_fe (e := (64, .iconst 0, 1, (0, 0, 0), [])) (by decide +kernel)) (by decide) ?_
      refine q_s (mz_fe (e := (65, .istore 8, 2, (0, 0, 0), [])) (by decide +kernel)) (pc' := 67) (L' := [some (.ref 239), none, some (.int y2), some (.int y3), some (.int y4), some (.int y5), some (.int y6), some (.int 0), some (.int 0)]) (st' := []) rfl ?_
      exact congrArg mz_cI (mz_At_msk (L := [some (.ref 239), none, some (.int y2), some (.int y3), some (.int y4), some (.int y5), some (.int y6), some (.int 0), some (.int 0)]) (L2 := [some (.ref 239), none, some (.int y2), some (.int y3), some (.int y4), some (.int y5), some (.int y6), some (.int 0), some (.int 0)]) (mz_fe (e := (67, .iload 8, 2, (0, 0, 0), [true, false, true, true, true, true, true, true, true])) (by decide +kernel)) rfl rfl)
set_option maxRecDepth 10000 in
theorem H_X12_ask_67_eq (d : Nat) (y2 : Int32) (y3 : Int32) (y4 : Int32) (y5 : Int32) (y6 : Int32) (y7 : Int32) (y8 : Int32) (m : MzM)  : H_X12_ask_67 d y2 y3 y4 y5 y6 y7 y8 m = if (mz_rd m 239 54) ≤ y8 then (if y7 ≤ (y3 - y7) then (if y4 < 0 then (H_X12_ask_41 d y2 y3 (((10 : Int32) * (y6 / 4)) + (y6 - y6 / 4 * 4)) (y3 - y7) (y6 + 1) m) else (if (y3 - y7) < y5 then (H_X12_ask_41 d y2 y3 (((10 : Int32) * (y6 / 4)) + (y6 - y6 / 4 * 4)) (y3 - y7) (y6 + 1) m) else (H_X12_ask_41 d y2 y3 y4 y5 (y6 + 1) m))) else (if y4 < 0 then (H_X12_ask_41 d y2 y3 (((10 : Int32) * (y6 / 4)) + (y6 - y6 / 4 * 4)) y7 (y6 + 1) m) else (if y7 < y5 then (H_X12_ask_41 d y2 y3 (((10 : Int32) * (y6 / 4)) + (y6 - y6 / 4 * 4)) y7 (y6 + 1) m) else (H_X12_ask_41 d y2 y3 y4 y5 (y6 + 1) m)))) else (mz_g (mz_ok y8 15) (if (mz_rd m 280 (y8 : Int32).toNatClampNeg) = 0 then (H_X12_ask_67 d y2 y3 y4 y5 y6 y7 (y8 + 1) m) else (mz_g (mz_ok (((24 : Int32) * y8) + y6) 360) (if (mz_rd m 281 ((((24 : Int32) * y8) + y6) : Int32).toNatClampNeg) < y2 then (H_X12_ask_67 d y2 y3 y4 y5 y6 y7 (y8 + 1) m) else (H_X12_ask_67 d y2 y3 y4 y5 y6 (y7 + 1) (y8 + 1) m))))) := by
  show mz_cI (mz_T d 286 67 [some (.ref 239), none, some (.int y2), some (.int y3), some (.int y4), some (.int y5), some (.int y6), some (.int y7), some (.int y8)] [] m) = _
  refine q_s (mz_fe (e := (67, .iload 8, 2, (0, 0, 0), [true, false, true, true, true, true, true, true, true])) (by decide +kernel)) (pc' := 69) (L' := [some (.ref 239), none, some (.int y2), some (.int y3), some (.int y4), some (.int y5), some (.int y6), some (.int y7), some (.int y8)]) (st' := [.int y8]) rfl ?_
  refine q_o (mz_fe (e := (69, .aload_n 0, 1, (0, 0, 0), [])) (by decide +kernel)) (pc2 := 70) rfl ?_
  refine q_getI (mz_fe (e := (70, .getfield 402, 181, (12, 54, 0), [])) (by decide +kernel)) rfl (by decide) tg_239 (by rw [ln_239]; decide) ?_
  refine q_if (c := .ge) (off := 39) (t := 112) (x := y8) (y := (mz_rd m 239 54)) (st := []) (mz_fe (e := (73, .if_icmp .ge 39, 3, (0, 0, 0), [])) (by decide +kernel)) (fun _ => rfl) rfl rfl rfl (fun c15 => ?_) (fun c15 => ?_)
  · refine q_o (mz_fe (e := (112, .iload 7, 2, (0, 0, 0), [])) (by decide +kernel)) (pc2 := 114) rfl ?_
    refine q_o (mz_fe (e := (114, .iload_n 3, 1, (0, 0, 0), [])) (by decide +kernel)) (pc2 := 115) rfl ?_
    refine q_o (mz_fe (e := (115, .iload 7, 2, (0, 0, 0), [])) (by decide +kernel)) (pc2 := 117) rfl ?_
    refine q_o (mz_fe (e := (117, .isub, 1, (0, 0, 0), [])) (by decide +kernel)) (pc2 := 118) rfl ?_
    refine q_if (c := .le) (off := 8) (t := 126) (x := y7) (y := (y3 - y7)) (st := []) (mz_fe (e := (118, .if_icmp .le 8, 3, (0, 0, 0), [])) (by decide +kernel)) (fun _ => rfl) rfl rfl rfl (fun c16 => ?_) (fun c16 => ?_)
    · refine q_o (mz_fe (e := (126, .iload_n 3, 1, (0, 0, 0), [])) (by decide +kernel)) (pc2 := 127) rfl ?_
      refine q_o (mz_fe (e := (127, .iload 7, 2, (0, 0, 0), [])) (by decide +kernel)) (pc2 := 129) rfl ?_
      refine q_o (mz_fe (e := (129, .isub, 1, (0, 0, 0), [])) (by decide +kernel)) (pc2 := 130) rfl ?_
      refine q_s (mz_fe (e := (130, .istore 8, 2, (0, 0, 0), [])) (by decide +kernel)) (pc' := 132) (L' := [some (.ref 239), none, some (.int y2), some (.int y3), some (.int y4), some (.int y5), some (.int y6), some (.int y7), some (.int (y3 - y7))]) (st' := []) rfl ?_
      refine q_o (mz_fe (e := (132, .iload 4, 2, (0, 0, 0), [])) (by decide +kernel)) (pc2 := 134) rfl ?_
      refine q_if (c := .lt) (off := 13) (t := 147) (x := y4) (y := 0) (st := []) (mz_fe (e := (134, .ifCond .lt 13, 3, (0, 0, 0), [])) (by decide +kernel)) (fun _ => rfl) rfl rfl rfl (fun c17 => ?_) (fun c17 => ?_)
      · refine q_bi (v := 10) (mz_fe (e := (147, .bipush 10, 2, (0, 0, 0), [])) (by decide +kernel)) (by decide) ?_
        refine q_o (mz_fe (e := (149, .iload 6, 2, (0, 0, 0), [])) (by decide +kernel)) (pc2 := 151) rfl ?_
        refine q_ic (v := 4) (mz_fe (e := (151, .iconst 4, 1, (0, 0, 0), [])) (by decide +kernel)) (by decide) ?_
        refine q_o (mz_fe (e := (152, .idiv, 1, (0, 0, 0), [])) (by decide +kernel)) (pc2 := 153) rfl ?_
        refine q_o (mz_fe (e := (153, .imul, 1, (0, 0, 0), [])) (by decide +kernel)) (pc2 := 154) rfl ?_
        refine q_o (mz_fe (e := (154, .iload 6, 2, (0, 0, 0), [])) (by decide +kernel)) (pc2 := 156) rfl ?_
        refine q_ic (v := 4) (mz_fe (e := (156, .iconst 4, 1, (0, 0, 0), [])) (by decide +kernel)) (by decide) ?_
        refine q_o (mz_fe (e := (157, .irem, 1, (0, 0, 0), [])) (by decide +kernel)) (pc2 := 158) rfl ?_
        refine q_o (mz_fe (e := (158, .iadd, 1, (0, 0, 0), [])) (by decide +kernel)) (pc2 := 159) rfl ?_
        refine q_s (mz_fe (e := (159, .istore 4, 2, (0, 0, 0), [])) (by decide +kernel)) (pc' := 161) (L' := [some (.ref 239), none, some (.int y2), some (.int y3), some (.int (((10 : Int32) * (y6 / 4)) + (y6 - y6 / 4 * 4))), some (.int y5), some (.int y6), some (.int y7), some (.int (y3 - y7))]) (st' := []) rfl ?_
        refine q_o (mz_fe (e := (161, .iload 8, 2, (0, 0, 0), [])) (by decide +kernel)) (pc2 := 163) rfl ?_
        refine q_s (mz_fe (e := (163, .istore 5, 2, (0, 0, 0), [])) (by decide +kernel)) (pc' := 165) (L' := [some (.ref 239), none, some (.int y2), some (.int y3), some (.int (((10 : Int32) * (y6 / 4)) + (y6 - y6 / 4 * 4))), some (.int (y3 - y7)), some (.int y6), some (.int y7), some (.int (y3 - y7))]) (st' := []) rfl ?_
        refine q_iinc (v := y6) (c := 1) (L3 := [some (.ref 239), none, some (.int y2), some (.int y3), some (.int (((10 : Int32) * (y6 / 4)) + (y6 - y6 / 4 * 4))), some (.int (y3 - y7)), some (.int (y6 + 1)), some (.int y7), some (.int (y3 - y7))]) (mz_fe (e := (165, .iinc 6 1, 3, (0, 0, 0), [])) (by decide +kernel)) rfl rfl (by decide) rfl ?_
        refine q_o (mz_fe (e := (168, .goto (-127), 3, (0, 0, 0), [])) (by decide +kernel)) (pc2 := 41) rfl ?_
        exact congrArg mz_cI (mz_At_msk (L := [some (.ref 239), none, some (.int y2), some (.int y3), some (.int (((10 : Int32) * (y6 / 4)) + (y6 - y6 / 4 * 4))), some (.int (y3 - y7)), some (.int (y6 + 1)), some (.int y7), some (.int (y3 - y7))]) (L2 := [some (.ref 239), none, some (.int y2), some (.int y3), some (.int (((10 : Int32) * (y6 / 4)) + (y6 - y6 / 4 * 4))), some (.int (y3 - y7)), some (.int (y6 + 1)), none, none]) (mz_fe (e := (41, .iload 6, 2, (0, 0, 0), [true, false, true, true, true, true, true, false, false])) (by decide +kernel)) rfl rfl)
      · refine q_o (mz_fe (e := (137, .iload 8, 2, (0, 0, 0), [])) (by decide +kernel)) (pc2 := 139) rfl ?_
        refine q_o (mz_fe (e := (139, .iload 5, 2, (0, 0, 0), [])) (by decide +kernel)) (pc2 := 141) rfl ?_
        refine q_if (c := .lt) (off := 6) (t := 147) (x := (y3 - y7)) (y := y5) (st := []) (mz_fe (e := (141, .if_icmp .lt 6, 3, (0, 0, 0), [])) (by decide +kernel)) (fun _ => rfl) rfl rfl rfl (fun c18 => ?_) (fun c18 => ?_)
        · refine q_bi (v := 10) (mz_fe (e := (147, .bipush 10, 2, (0, 0, 0), [])) (by decide +kernel)) (by decide) ?_
          refine q_o (mz_fe (e := (149, .iload 6, 2, (0, 0, 0), [])) (by decide +kernel)) (pc2 := 151) rfl ?_
          refine q_ic (v := 4) (mz_fe (e := (151, .iconst 4, 1, (0, 0, 0), [])) (by decide +kernel)) (by decide) ?_
          refine q_o (mz_fe (e := (152, .idiv, 1, (0, 0, 0), [])) (by decide +kernel)) (pc2 := 153) rfl ?_
          refine q_o (mz_fe (e := (153, .imul, 1, (0, 0, 0), [])) (by decide +kernel)) (pc2 := 154) rfl ?_
          refine q_o (mz_fe (e := (154, .iload 6, 2, (0, 0, 0), [])) (by decide +kernel)) (pc2 := 156) rfl ?_
          refine q_ic (v := 4) (mz_fe (e := (156, .iconst 4, 1, (0, 0, 0), [])) (by decide +kernel)) (by decide) ?_
          refine q_o (mz_fe (e := (157, .irem, 1, (0, 0, 0), [])) (by decide +kernel)) (pc2 := 158) rfl ?_
          refine q_o (mz_fe (e := (158, .iadd, 1, (0, 0, 0), [])) (by decide +kernel)) (pc2 := 159) rfl ?_
          refine q_s (mz_fe (e := (159, .istore 4, 2, (0, 0, 0), [])) (by decide +kernel)) (pc' := 161) (L' := [some (.ref 239), none, some (.int y2), some (.int y3), some (.int (((10 : Int32) * (y6 / 4)) + (y6 - y6 / 4 * 4))), some (.int y5), some (.int y6), some (.int y7), some (.int (y3 - y7))]) (st' := []) rfl ?_
          refine q_o (mz_fe (e := (161, .iload 8, 2, (0, 0, 0), [])) (by decide +kernel)) (pc2 := 163) rfl ?_
          refine q_s (mz_fe (e := (163, .istore 5, 2, (0, 0, 0), [])) (by decide +kernel)) (pc' := 165) (L' := [some (.ref 239), none, some (.int y2), some (.int y3), some (.int (((10 : Int32) * (y6 / 4)) + (y6 - y6 / 4 * 4))), some (.int (y3 - y7)), some (.int y6), some (.int y7), some (.int (y3 - y7))]) (st' := []) rfl ?_
          refine q_iinc (v := y6) (c := 1) (L3 := [some (.ref 239), none, some (.int y2), some (.int y3), some (.int (((10 : Int32) * (y6 / 4)) + (y6 - y6 / 4 * 4))), some (.int (y3 - y7)), some (.int (y6 + 1)), some (.int y7), some (.int (y3 - y7))]) (mz_fe (e := (165, .iinc 6 1, 3, (0, 0, 0), [])) (by decide +kernel)) rfl rfl (by decide) rfl ?_
          refine q_o (mz_fe (e := (168, .goto (-127), 3, (0, 0, 0), [])) (by decide +kernel)) (pc2 := 41) rfl ?_
          exact congrArg mz_cI (mz_At_msk (L := [some (.ref 239), none, some (.int y2), some (.int y3), some (.int (((10 : Int32) * (y6 / 4)) + (y6 - y6 / 4 * 4))), some (.int (y3 - y7)), some (.int (y6 + 1)), some (.int y7), some (.int (y3 - y7))]) (L2 := [some (.ref 239), none, some (.int y2), some (.int y3), some (.int (((10 : Int32) * (y6 / 4)) + (y6 - y6 / 4 * 4))), some (.int (y3 - y7)), some (.int (y6 + 1)), none, none]) (mz_fe (e := (41, .iload 6, 2, (0, 0, 0), [true, false, true, true, true, true, true, false, false])) (by decide +kernel)) rfl rfl)
        · refine q_o (mz_fe (e := (144, .goto 21, 3, (0, 0, 0), [])) (by decide +kernel)) (pc2 := 165) rfl ?_
          refine q_iinc (v := y6) (c := 1) (L3 := [some (.ref 239), none, some (.int y2), some (.int y3), some (.int y4), some (.int y5), some (.int (y6 + 1)), some (.int y7), some (.int (y3 - y7))]) (mz_fe (e := (165, .iinc 6 1, 3, (0, 0, 0), [])) (by decide +kernel)) rfl rfl (by decide) rfl ?_
          refine q_o (mz_fe (e := (168, .goto (-127), 3, (0, 0, 0), [])) (by decide +kernel)) (pc2 := 41) rfl ?_
          exact congrArg mz_cI (mz_At_msk (L := [some (.ref 239), none, some (.int y2), some (.int y3), some (.int y4), some (.int y5), some (.int (y6 + 1)), some (.int y7), some (.int (y3 - y7))]) (L2 := [some (.ref 239), none, some (.int y2), some (.int y3), some (.int y4), some (.int y5), some (.int (y6 + 1)), none, none]) (mz_fe (e := (41, .iload 6, 2, (0, 0, 0), [true, false, true, true, true, true, true, false, false])) (by decide +kernel)) rfl rfl)
    · refine q_o (mz_fe (e := (121, .iload 7, 2, (0, 0, 0), [])) (by decide +kernel)) (pc2 := 123) rfl ?_
      refine q_o (mz_fe (e := (123, .goto 7, 3, (0, 0, 0), [])) (by decide +kernel)) (pc2 := 130) rfl ?_
      refine q_s (mz_fe (e := (130, .istore 8, 2, (0, 0, 0), [])) (by decide +kernel)) (pc' := 132) (L' := [some (.ref 239), none, some (.int y2), some (.int y3), some (.int y4), some (.int y5), some (.int y6), some (.int y7), some (.int y7)]) (st' := []) rfl ?_
      refine q_o (mz_fe (e := (132, .iload 4, 2, (0, 0, 0), [])) (by decide +kernel)) (pc2 := 134) rfl ?_
      refine q_if (c := .lt) (off := 13) (t := 147) (x := y4) (y := 0) (st := []) (mz_fe (e := (134, .ifCond .lt 13, 3, (0, 0, 0), [])) (by decide +kernel)) (fun _ => rfl) rfl rfl rfl (fun c19 => ?_) (fun c19 => ?_)
      · refine q_bi (v := 10) (mz_fe (e := (147, .bipush 10, 2, (0, 0, 0), [])) (by decide +kernel)) (by decide) ?_
        refine q_o (mz_fe (e := (149, .iload 6, 2, (0, 0, 0), [])) (by decide +kernel)) (pc2 := 151) rfl ?_
        refine q_ic (v := 4) (mz_fe (e := (151, .iconst 4, 1, (0, 0, 0), [])) (by decide +kernel)) (by decide) ?_
        refine q_o (mz_fe (e := (152, .idiv, 1, (0, 0, 0), [])) (by decide +kernel)) (pc2 := 153) rfl ?_
        refine q_o (mz_fe (e := (153, .imul, 1, (0, 0, 0), [])) (by decide +kernel)) (pc2 := 154) rfl ?_
        refine q_o (mz_fe (e := (154, .iload 6, 2, (0, 0, 0), [])) (by decide +kernel)) (pc2 := 156) rfl ?_
        refine q_ic (v := 4) (mz_fe (e := (156, .iconst 4, 1, (0, 0, 0), [])) (by decide +kernel)) (by decide) ?_
        refine q_o (mz_fe (e := (157, .irem, 1, (0, 0, 0), [])) (by decide +kernel)) (pc2 := 158) rfl ?_
        refine q_o (mz_fe (e := (158, .iadd, 1, (0, 0, 0), [])) (by decide +kernel)) (pc2 := 159) rfl ?_
        refine q_s (mz_fe (e := (159, .istore 4, 2, (0, 0, 0), [])) (by decide +kernel)) (pc' := 161) (L' := [some (.ref 239), none, some (.int y2), some (.int y3), some (.int (((10 : Int32) * (y6 / 4)) + (y6 - y6 / 4 * 4))), some (.int y5), some (.int y6), some (.int y7), some (.int y7)]) (st' := []) rfl ?_
        refine q_o (mz_fe (e := (161, .iload 8, 2, (0, 0, 0), [])) (by decide +kernel)) (pc2 := 163) rfl ?_
        refine q_s (mz_fe (e := (163, .istore 5, 2, (0, 0, 0), [])) (by decide +kernel)) (pc' := 165) (L' := [some (.ref 239), none, some (.int y2), some (.int y3), some (.int (((10 : Int32) * (y6 / 4)) + (y6 - y6 / 4 * 4))), some (.int y7), some (.int y6), some (.int y7), some (.int y7)]) (st' := []) rfl ?_
        refine q_iinc (v := y6) (c := 1) (L3 := [some (.ref 239), none, some (.int y2), some (.int y3), some (.int (((10 : Int32) * (y6 / 4)) + (y6 - y6 / 4 * 4))), some (.int y7), some (.int (y6 + 1)), some (.int y7), some (.int y7)]) (mz_fe (e := (165, .iinc 6 1, 3, (0, 0, 0), [])) (by decide +kernel)) rfl rfl (by decide) rfl ?_
        refine q_o (mz_fe (e := (168, .goto (-127), 3, (0, 0, 0), [])) (by decide +kernel)) (pc2 := 41) rfl ?_
        exact congrArg mz_cI (mz_At_msk (L := [some (.ref 239), none, some (.int y2), some (.int y3), some (.int (((10 : Int32) * (y6 / 4)) + (y6 - y6 / 4 * 4))), some (.int y7), some (.int (y6 + 1)), some (.int y7), some (.int y7)]) (L2 := [some (.ref 239), none, some (.int y2), some (.int y3), some (.int (((10 : Int32) * (y6 / 4)) + (y6 - y6 / 4 * 4))), some (.int y7), some (.int (y6 + 1)), none, none]) (mz_fe (e := (41, .iload 6, 2, (0, 0, 0), [true, false, true, true, true, true, true, false, false])) (by decide +kernel)) rfl rfl)
      · refine q_o (mz_fe (e := (137, .iload 8, 2, (0, 0, 0), [])) (by decide +kernel)) (pc2 := 139) rfl ?_
        refine q_o (mz_fe (e := (139, .iload 5, 2, (0, 0, 0), [])) (by decide +kernel)) (pc2 := 141) rfl ?_
        refine q_if (c := .lt) (off := 6) (t := 147) (x := y7) (y := y5) (st := []) (mz_fe (e := (141, .if_icmp .lt 6, 3, (0, 0, 0), [])) (by decide +kernel)) (fun _ => rfl) rfl rfl rfl (fun c20 => ?_) (fun c20 => ?_)
        · refine q_bi (v := 10) (mz_fe (e := (147, .bipush 10, 2, (0, 0, 0), [])) (by decide +kernel)) (by decide) ?_
          refine q_o (mz_fe (e := (149, .iload 6, 2, (0, 0, 0), [])) (by decide +kernel)) (pc2 := 151) rfl ?_
          refine q_ic (v := 4) (mz_fe (e := (151, .iconst 4, 1, (0, 0, 0), [])) (by decide +kernel)) (by decide) ?_
          refine q_o (mz_fe (e := (152, .idiv, 1, (0, 0, 0), [])) (by decide +kernel)) (pc2 := 153) rfl ?_
          refine q_o (mz_fe (e := (153, .imul, 1, (0, 0, 0), [])) (by decide +kernel)) (pc2 := 154) rfl ?_
          refine q_o (mz_fe (e := (154, .iload 6, 2, (0, 0, 0), [])) (by decide +kernel)) (pc2 := 156) rfl ?_
          refine q_ic (v := 4) (mz_fe (e := (156, .iconst 4, 1, (0, 0, 0), [])) (by decide +kernel)) (by decide) ?_
          refine q_o (mz_fe (e := (157, .irem, 1, (0, 0, 0), [])) (by decide +kernel)) (pc2 := 158) rfl ?_
          refine q_o (mz_fe (e := (158, .iadd, 1, (0, 0, 0), [])) (by decide +kernel)) (pc2 := 159) rfl ?_
          refine q_s (mz_fe (e := (159, .istore 4, 2, (0, 0, 0), [])) (by decide +kernel)) (pc' := 161) (L' := [some (.ref 239), none, some (.int y2), some (.int y3), some (.int (((10 : Int32) * (y6 / 4)) + (y6 - y6 / 4 * 4))), some (.int y5), some (.int y6), some (.int y7), some (.int y7)]) (st' := []) rfl ?_
          refine q_o (mz_fe (e := (161, .iload 8, 2, (0, 0, 0), [])) (by decide +kernel)) (pc2 := 163) rfl ?_
          refine q_s (mz_fe (e := (163, .istore 5, 2, (0, 0, 0), [])) (by decide +kernel)) (pc' := 165) (L' := [some (.ref 239), none, some (.int y2), some (.int y3), some (.int (((10 : Int32) * (y6 / 4)) + (y6 - y6 / 4 * 4))), some (.int y7), some (.int y6), some (.int y7), some (.int y7)]) (st' := []) rfl ?_
          refine q_iinc (v := y6) (c := 1) (L3 := [some (.ref 239), none, some (.int y2), some (.int y3), some (.int (((10 : Int32) * (y6 / 4)) + (y6 - y6 / 4 * 4))), some (.int y7), some (.int (y6 + 1)), some (.int y7), some (.int y7)]) (mz_fe (e := (165, .iinc 6 1, 3, (0, 0, 0), [])) (by decide +kernel)) rfl rfl (by decide) rfl ?_
          refine q_o (mz_fe (e := (168, .goto (-127), 3, (0, 0, 0), [])) (by decide +kernel)) (pc2 := 41) rfl ?_
          exact congrArg mz_cI (mz_At_msk (L := [some (.ref 239), none, some (.int y2), some (.int y3), some (.int (((10 : Int32) * (y6 / 4)) + (y6 - y6 / 4 * 4))), some (.int y7), some (.int (y6 + 1)), some (.int y7), some (.int y7)]) (L2 := [some (.ref 239), none, some (.int y2), some (.int y3), some (.int (((10 : Int32) * (y6 / 4)) + (y6 - y6 / 4 * 4))), some (.int y7), some (.int (y6 + 1)), none, none]) (mz_fe (e := (41, .iload 6, 2, (0, 0, 0), [true, false, true, true, true, true, true, false, false])) (by decide +kernel)) rfl rfl)
        · refine q_o (mz_fe (e := (144, .goto 21, 3, (0, 0, 0), [])) (by decide +kernel)) (pc2 := 165) rfl ?_
          refine q_iinc (v := y6) (c := 1) (L3 := [some (.ref 239), none, some (.int y2), some (.int y3), some (.int y4), some (.int y5), some (.int (y6 + 1)), some (.int y7), some (.int y7)]) (mz_fe (e := (165, .iinc 6 1, 3, (0, 0, 0), [])) (by decide +kernel)) rfl rfl (by decide) rfl ?_
          refine q_o (mz_fe (e := (168, .goto (-127), 3, (0, 0, 0), [])) (by decide +kernel)) (pc2 := 41) rfl ?_
          exact congrArg mz_cI (mz_At_msk (L := [some (.ref 239), none, some (.int y2), some (.int y3), some (.int y4), some (.int y5), some (.int (y6 + 1)), some (.int y7), some (.int y7)]) (L2 := [some (.ref 239), none, some (.int y2), some (.int y3), some (.int y4), some (.int y5), some (.int (y6 + 1)), none, none]) (mz_fe (e := (41, .iload 6, 2, (0, 0, 0), [true, false, true, true, true, true, true, false, false])) (by decide +kernel)) rfl rfl)
  · refine q_o (mz_fe (e := (76, .aload_n 0, 1, (0, 0, 0), [])) (by decide +kernel)) (pc2 := 77) rfl ?_
    refine q_getR (b := 280) (mz_fe (e := (77, .getfield 140, 158, (12, 66, 2), [])) (by decide +kernel)) rfl tg_239 (by rw [ln_239]; decide) (mz_rfS (by decide +kernel)) ?_
    refine q_o (mz_fe (e := (80, .iload 8, 2, (0, 0, 0), [])) (by decide +kernel)) (pc2 := 82) rfl ?_
    refine q_baldg rfl (mz_fe (e := (82, .baload, 1, (0, 0, 0), [])) (by decide +kernel)) rfl (Or.inl tg_280) ln_280 (fun g21 => ?_)
    refine q_if (c := .eq) (off := 23) (t := 106) (x := (mz_rd m 280 (y8 : Int32).toNatClampNeg)) (y := 0) (st := []) (mz_fe (e := (83, .ifCond .eq 23, 3, (0, 0, 0), [])) (by decide +kernel)) (fun _ => rfl) rfl rfl rfl (fun c22 => ?_) (fun c22 => ?_)
    · refine q_iinc (v := y8) (c := 1) (L3 := [some (.ref 239), none, some (.int y2), some (.int y3), some (.int y4), some (.int y5), some (.int y6), some (.int y7), some (.int (y8 + 1))]) (mz_fe (e := (106, .iinc 8 1, 3, (0, 0, 0), [])) (by decide +kernel)) rfl rfl (by decide) rfl ?_
      refine q_o (mz_fe (e := (109, .goto (-42), 3, (0, 0, 0), [])) (by decide +kernel)) (pc2 := 67) rfl ?_
      exact congrArg mz_cI (mz_At_msk (L := [some (.ref 239), none, some (.int y2), some (.int y3), some (.int y4), some (.int y5), some (.int y6), some (.int y7), some (.int (y8 + 1))]) (L2 := [some (.ref 239), none, some (.int y2), some (.int y3), some (.int y4), some (.int y5), some (.int y6), some (.int y7), some (.int (y8 + 1))]) (mz_fe (e := (67, .iload 8, 2, (0, 0, 0), [true, false, true, true, true, true, true, true, true])) (by decide +kernel)) rfl rfl)
    · refine q_o (mz_fe (e := (86, .aload_n 0, 1, (0, 0, 0), [])) (by decide +kernel)) (pc2 := 87) rfl ?_
      refine q_getR (b := 281) (mz_fe (e := (87, .getfield 143, 159, (12, 67, 2), [])) (by decide +kernel)) rfl tg_239 (by rw [ln_239]; decide) (mz_rfS (by decide +kernel)) ?_
      refine q_bi (v := 24) (mz_fe (e := (90, .bipush 24, 2, (0, 0, 0), [])) (by decide +kernel)) (by decide) ?_
      refine q_o (mz_fe (e := (92, .iload 8, 2, (0, 0, 0), [])) (by decide +kernel)) (pc2 := 94) rfl ?_
      refine q_o (mz_fe (e := (94, .imul, 1, (0, 0, 0), [])) (by decide +kernel)) (pc2 := 95) rfl ?_
      refine q_o (mz_fe (e := (95, .iload 6, 2, (0, 0, 0), [])) (by decide +kernel)) (pc2 := 97) rfl ?_
      refine q_o (mz_fe (e := (97, .iadd, 1, (0, 0, 0), [])) (by decide +kernel)) (pc2 := 98) rfl ?_
      refine q_ialdg rfl (mz_fe (e := (98, .iaload, 1, (0, 0, 0), [])) (by decide +kernel)) rfl (by decide) tg_281 ln_281 (fun g23 => ?_)
      refine q_o (mz_fe (e := (99, .iload_n 2, 1, (0, 0, 0), [])) (by decide +kernel)) (pc2 := 100) rfl ?_
      refine q_if (c := .lt) (off := 6) (t := 106) (x := (mz_rd m 281 ((((24 : Int32) * y8) + y6) : Int32).toNatClampNeg)) (y := y2) (st := []) (mz_fe (e := (100, .if_icmp .lt 6, 3, (0, 0, 0), [])) (by decide +kernel)) (fun _ => rfl) rfl rfl rfl (fun c24 => ?_) (fun c24 => ?_)
      · refine q_iinc (v := y8) (c := 1) (L3 := [some (.ref 239), none, some (.int y2), some (.int y3), some (.int y4), some (.int y5), some (.int y6), some (.int y7), some (.int (y8 + 1))]) (mz_fe (e := (106, .iinc 8 1, 3, (0, 0, 0), [])) (by decide +kernel)) rfl rfl (by decide) rfl ?_
        refine q_o (mz_fe (e := (109, .goto (-42), 3, (0, 0, 0), [])) (by decide +kernel)) (pc2 := 67) rfl ?_
        exact congrArg mz_cI (mz_At_msk (L := [some (.ref 239), none, some (.int y2), some (.int y3), some (.int y4), some (.int y5), some (.int y6), some (.int y7), some (.int (y8 + 1))]) (L2 := [some (.ref 239), none, some (.int y2), some (.int y3), some (.int y4), some (.int y5), some (.int y6), some (.int y7), some (.int (y8 + 1))]) (mz_fe (e := (67, .iload 8, 2, (0, 0, 0), [true, false, true, true, true, true, true, true, true])) (by decide +kernel)) rfl rfl)
      · refine q_iinc (v := y7) (c := 1) (L3 := [some (.ref 239), none, some (.int y2), some (.int y3), some (.int y4), some (.int y5), some (.int y6), some (.int (y7 + 1)), some (.int y8)]) (mz_fe (e := (103, .iinc 7 1, 3, (0, 0, 0), [])) (by decide +kernel)) rfl rfl (by decide) rfl ?_
        refine q_iinc (v := y8) (c := 1) (L3 := [some (.ref 239), none, some (.int y2), some (.int y3), some (.int y4), some (.int y5), some (.int y6), some (.int (y7 + 1)), some (.int (y8 + 1))]) (mz_fe (e := (106, .iinc 8 1, 3, (0, 0, 0), [])) (by decide +kernel)) rfl rfl (by decide) rfl ?_
        refine q_o (mz_fe (e := (109, .goto (-42), 3, (0, 0, 0), [])) (by decide +kernel)) (pc2 := 67) rfl ?_
        exact congrArg mz_cI (mz_At_msk (L := [some (.ref 239), none, some (.int y2), some (.int y3), some (.int y4), some (.int y5), some (.int y6), some (.int (y7 + 1)), some (.int (y8 + 1))]) (L2 := [some (.ref 239), none, some (.int y2), some (.int y3), some (.int y4), some (.int y5), some (.int y6), some (.int (y7 + 1)), some (.int (y8 + 1))]) (mz_fe (e := (67, .iload 8, 2, (0, 0, 0), [true, false, true, true, true, true, true, true, true])) (by decide +kernel)) rfl rfl)
set_option maxRecDepth 10000 in
theorem R_X12_restore_eq (d : Nat) (x0 : Int32) (m : MzM)  : R_X12_restore d x0 m = (R_X12_in d x0 0 2 m).bind (fun u3 => if u3.1 = 0 then (some (0, u3.2)) else (mz_g (mz_ok x0 3) (if ¬ (mz_rd u3.2 282 (x0 : Int32).toNatClampNeg) = 0 then (H_X12_restore_22 d x0 0 u3.2) else (some (0, u3.2))))) := by
  show mz_cI (mz_T d 288 0 (mz_en (mz_xl 288) [.ref 239, .int x0]) [] m) = _
  rw [show mz_en (mz_xl 288) [.ref 239, .int x0] = [some (.ref 239), some (.int x0), none] from by rw [show mz_xl 288 = 3 from by decide +kernel]; rfl]
  refine q_o (mz_fe (e := (0, .iload_n 1, 1, (0, 0, 0), [])) (by decide +kernel)) (pc2 := 1) rfl ?_
  refine q_ic (v := 0) (mz_fe (e := (1, .iconst 0, 1, (0, 0, 0), [])) (by decide +kernel)) (by decide) ?_
  refine q_ic (v := 2) (mz_fe (e := (2, .iconst 2, 1, (0, 0, 0), [])) (by decide +kernel)) (by decide) ?_
  refine q_callI (N := 208) (vs := [.int x0, .int 0, .int 2]) (rest := []) (L' := [some (.ref 239), some (.int x0), none]) (f := fun v2 m1 => if v2 = 0 then (some (0, m1)) else (mz_g (mz_ok x0 3) (if ¬ (mz_rd m1 282 (x0 : Int32).toNatClampNeg) = 0 then (H_X12_restore_22 d x0 0 m1) else (some (0, m1))))) rfl (mz_fe (e := (3, .invokestatic 310, 196, (208, 3, 1000), [])) (by decide +kernel)) rfl (mz_inv_stat (N := 208) (k := 3) (st := [.int 2, .int 0, .int x0]) (rest := []) (vs := [.int x0, .int 0, .int 2]) (h := (mz_S0, m)) rfl rfl (Nat.le_of_ble_eq_true rfl) (Nat.le_of_ble_eq_true rfl)) (mz_dc_lt (n := 3) rfl (by decide +kernel) (by decide +kernel)) (by decide +kernel) (Or.inr (by decide +kernel)) (fun v2 m1 => ?_)
  refine q_if (c := .eq) (off := 12) (t := 18) (x := v2) (y := 0) (st := []) (mz_fe (e := (6, .ifCond .eq 12, 3, (0, 0, 0), [])) (by decide +kernel)) (fun _ => rfl) rfl rfl rfl (fun c4 => ?_) (fun c4 => ?_)
  · refine q_ic (v := 0) (mz_fe (e := (18, .iconst 0, 1, (0, 0, 0), [])) (by decide +kernel)) (by decide) ?_
    exact q_retZ (mz_fe (e := (19, .ireturn, 1, (0, 0, 0), [])) (by decide +kernel)) (by decide +kernel) (by decide)
  · refine q_o (mz_fe (e := (9, .aload_n 0, 1, (0, 0, 0), [])) (by decide +kernel)) (pc2 := 10) rfl ?_
    refine q_getR (b := 282) (mz_fe (e := (10, .getfield 146, 160, (12, 68, 2), [])) (by decide +kernel)) rfl tg_239 (by rw [ln_239]; decide) (mz_rfS (by decide +kernel)) ?_
    refine q_o (mz_fe (e := (13, .iload_n 1, 1, (0, 0, 0), [])) (by decide +kernel)) (pc2 := 14) rfl ?_
    refine q_baldg rfl (mz_fe (e := (14, .baload, 1, (0, 0, 0), [])) (by decide +kernel)) rfl (Or.inl tg_282) ln_282 (fun g5 => ?_)
    refine q_if (c := .ne) (off := 5) (t := 20) (x := (mz_rd m1 282 (x0 : Int32).toNatClampNeg)) (y := 0) (st := []) (mz_fe (e := (15, .ifCond .ne 5, 3, (0, 0, 0), [])) (by decide +kernel)) (fun _ => rfl) rfl rfl rfl (fun c6 => ?_) (fun c6 => ?_)
    · refine q_ic (v := 0) (mz_fe (e := (20, .iconst 0, 1, (0, 0, 0), [])) (by decide +kernel)) (by decide) ?_
      refine q_s (mz_fe (e := (21, .istore_n 2, 1, (0, 0, 0), [])) (by decide +kernel)) (pc' := 22) (L' := [some (.ref 239), some (.int x0), some (.int 0)]) (st' := []) rfl ?_
      exact congrArg mz_cI (mz_At_msk (L := [some (.ref 239), some (.int x0), some (.int 0)]) (L2 := [some (.ref 239), some (.int x0), some (.int 0)]) (mz_fe (e := (22, .iload_n 2, 1, (0, 0, 0), [true, true, true])) (by decide +kernel)) rfl rfl)
    · refine q_ic (v := 0) (mz_fe (e := (18, .iconst 0, 1, (0, 0, 0), [])) (by decide +kernel)) (by decide) ?_
      exact q_retZ (mz_fe (e := (19, .ireturn, 1, (0, 0, 0), [])) (by decide +kernel)) (by decide +kernel) (by decide)
set_option maxRecDepth 10000 in
theorem H_X12_restore_22_eq (d : Nat) (y1 : Int32) (y2 : Int32) (m : MzM)  : H_X12_restore_22 d y1 y2 m = if (39 : Int32) ≤ y2 then (some (1, (mz_wr m 239 52 0))) else (mz_g (mz_ok (((39 : Int32) * y1) + y2) 117) (mz_g (mz_ok y2 39) (H_X12_restore_22 d y1 (y2 + 1) (mz_wr m 270 (y2 : Int32).toNatClampNeg (mz_rd m 283 ((((39 : Int32) * y1) + y2) : Int32).toNatClampNeg))))) := by
  show mz_cI (mz_T d 288 22 [some (.ref 239), some (.int y1), some (.int y2)] [] m) = _
  refine q_s (mz_fe (e := (22, .iload_n 2, 1, (0, 0, 0), [true, true, true])) (by decide +kernel)) (pc' := 23) (L' := [some (.ref 239), some (.int y1), some (.int y2)]) (st' := [.int y2]) rfl ?_
  refine q_bi (v := 39) (mz_fe (e := (23, .bipush 39, 2, (0, 0, 0), [])) (by decide +kernel)) (by decide) ?_
  refine q_if (c := .ge) (off := 26) (t := 51) (x := y2) (y := 39) (st := []) (mz_fe (e := (25, .if_icmp .ge 26, 3, (0, 0, 0), [])) (by decide +kernel)) (fun _ => rfl) rfl rfl rfl (fun c7 => ?_) (fun c7 => ?_)
  · refine q_o (mz_fe (e := (51, .aload_n 0, 1, (0, 0, 0), [])) (by decide +kernel)) (pc2 := 52) rfl ?_
    refine q_ic (v := 0) (mz_fe (e := (52, .iconst 0, 1, (0, 0, 0), [])) (by decide +kernel)) (by decide) ?_
    refine q_putI (mz_fe (e := (53, .putfield 248, 175, (12, 52, 0), [])) (by decide +kernel)) rfl tg_239 (by rw [ln_239]; decide) ?_
    refine q_ic (v := 1) (mz_fe (e := (56, .iconst 1, 1, (0, 0, 0), [])) (by decide +kernel)) (by decide) ?_
    exact q_retZ (mz_fe (e := (57, .ireturn, 1, (0, 0, 0), [])) (by decide +kernel)) (by decide +kernel) (by decide)
  · refine q_o (mz_fe (e := (28, .aload_n 0, 1, (0, 0, 0), [])) (by decide +kernel)) (pc2 := 29) rfl ?_
    refine q_getR (b := 270) (mz_fe (e := (29, .getfield 110, 148, (12, 47, 2), [])) (by decide +kernel)) rfl tg_239 (by rw [ln_239]; decide) (mz_rfS (by decide +kernel)) ?_
    refine q_o (mz_fe (e := (32, .iload_n 2, 1, (0, 0, 0), [])) (by decide +kernel)) (pc2 := 33) rfl ?_
    refine q_o (mz_fe (e := (33, .aload_n 0, 1, (0, 0, 0), [])) (by decide +kernel)) (pc2 := 34) rfl ?_
    refine q_getR (b := 283) (mz_fe (e := (34, .getfield 149, 161, (12, 69, 2), [])) (by decide +kernel)) rfl tg_239 (by rw [ln_239]; decide) (mz_rfS (by decide +kernel)) ?_
    refine q_bi (v := 39) (mz_fe (e := (37, .bipush 39, 2, (0, 0, 0), [])) (by decide +kernel)) (by decide) ?_
    refine q_o (mz_fe (e := (39, .iload_n 1, 1, (0, 0, 0), [])) (by decide +kernel)) (pc2 := 40) rfl ?_
    refine q_o (mz_fe (e := (40, .imul, 1, (0, 0, 0), [])) (by decide +kernel)) (pc2 := 41) rfl ?_
    refine q_o (mz_fe (e := (41, .iload_n 2, 1, (0, 0, 0), [])) (by decide +kernel)) (pc2 := 42) rfl ?_
    refine q_o (mz_fe (e := (42, .iadd, 1, (0, 0, 0), [])) (by decide +kernel)) (pc2 := 43) rfl ?_
    refine q_ialdg rfl (mz_fe (e := (43, .iaload, 1, (0, 0, 0), [])) (by decide +kernel)) rfl (by decide) tg_283 ln_283 (fun g8 => ?_)
    refine q_stAg (f := (fun x => x)) rfl (mz_fe (e := (44, .iastore, 1, (0, 0, 0), [])) (by decide +kernel)) (fun _ => rfl) rfl tg_270 ln_270 (fun g9 => ?_)
    refine q_iinc (v := y2) (c := 1) (L3 := [some (.ref 239), some (.int y1), some (.int (y2 + 1))]) (mz_fe (e := (45, .iinc 2 1, 3, (0, 0, 0), [])) (by decide +kernel)) rfl rfl (by decide) rfl ?_
    refine q_o (mz_fe (e := (48, .goto (-26), 3, (0, 0, 0), [])) (by decide +kernel)) (pc2 := 22) rfl ?_
    exact congrArg mz_cI (mz_At_msk (L := [some (.ref 239), some (.int y1), some (.int (y2 + 1))]) (L2 := [some (.ref 239), some (.int y1), some (.int (y2 + 1))]) (mz_fe (e := (22, .iload_n 2, 1, (0, 0, 0), [true, true, true])) (by decide +kernel)) rfl rfl)
