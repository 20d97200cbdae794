set_option maxRecDepth 10000 in
theorem R_X11_feed_eq (d : Nat) (x0 : Int32) (x1 : Int32) (x2 : Int32) (x3 : Int32) (x4 : Int32) (m : MzM)  : R_X11_feed d x0 x1 x2 x3 x4 m = (R_X7_hasRoomFor d 20 m).bind (fun u3 => if ¬ u3.1 = 0 then ((R_X7_append d x0 u3.2).bind (fun m5 => (R_X7_append d x1 m5).bind (fun m8 => (R_X7_append d x2 m8).bind (fun m11 => (R_X7_append d x3 m11).bind (fun m14 => (R_X7_append d x4 m14).bind (fun m17 => some ((mz_rd m17 2 1), m17))))))) else (some ((-1), u3.2))) := by
  show mz_cI (mz_T d 116 0 (mz_en (mz_xl 116) [.ref 1, .int x0, .int x1, .int x2, .int x3, .int x4]) [] m) = _
  rw [show mz_en (mz_xl 116) [.ref 1, .int x0, .int x1, .int x2, .int x3, .int x4] = [some (.ref 1), some (.int x0), some (.int x1), some (.int x2), some (.int x3), some (.int x4)] from by rw [show mz_xl 116 = 6 from by decide +kernel]; rfl]
  refine q_o (mz_fe (e := (0, .aload_n 0, 1, (0, 0, 0), [])) (by decide +kernel)) (pc2 := 1) rfl ?_
  refine q_getR (b := 2) (mz_fe (e := (1, .getfield 10, 90, (11, 0, 2), [])) (by decide +kernel)) rfl tg_1 (by rw [ln_1]; decide) (mz_rfS (by decide +kernel)) ?_
  refine q_bi (v := 20) (mz_fe (e := (4, .bipush 20, 2, (0, 0, 0), [])) (by decide +kernel)) (by decide) ?_
  refine q_callI (N := 78) (vs := [.ref 2, .int 20]) (rest := []) (L' := [some (.ref 1), some (.int x0), some (.int x1), some (.int x2), some (.int x3), some (.int x4)]) (f := fun v2 m1 => if ¬ v2 = 0 then ((R_X7_append d x0 m1).bind (fun m5 => (R_X7_append d x1 m5).bind (fun m8 => (R_X7_append d x2 m8).bind (fun m11 => (R_X7_append d x3 m11).bind (fun m14 => (R_X7_append d x4 m14).bind (fun m17 => some ((mz_rd m17 2 1), m17))))))) else (some ((-1), m1))) rfl (mz_fe (e := (6, .invokevirtual 96, 105, (78, 2, 13), [])) (by decide +kernel)) rfl (mz_inv_virt (N := 78) (k := 2) (t := 13) (st := [.int 20, .ref 2]) (rest := []) (b := 2) (vs := [.int 20]) (h := (mz_S0, m)) rfl rfl (Nat.le_of_ble_eq_true rfl) (Nat.le_of_ble_eq_true rfl) tg_2 (by decide)) (mz_dc_lt (n := 2) rfl (by decide +kernel) (by decide +kernel)) (by decide +kernel) (Or.inr (by decide +kernel)) (fun v2 m1 => ?_)
  refine q_if (c := .ne) (off := 5) (t := 14) (x := v2) (y := 0) (st := []) (mz_fe (e := (9, .ifCond .ne 5, 3, (0, 0, 0), [])) (by decide +kernel)) (fun _ => rfl) rfl rfl rfl (fun c4 => ?_) (fun c4 => ?_)
  · refine q_o (mz_fe (e := (14, .aload_n 0, 1, (0, 0, 0), [])) (by decide +kernel)) (pc2 := 15) rfl ?_
    refine q_getR (b := 2) (mz_fe (e := (15, .getfield 10, 90, (11, 0, 2), [])) (by decide +kernel)) rfl tg_1 (by rw [ln_1]; decide) (mz_rfS (by decide +kernel)) ?_
    refine q_o (mz_fe (e := (18, .iload_n 1, 1, (0, 0, 0), [])) (by decide +kernel)) (pc2 := 19) rfl ?_
    refine q_callV (N := 79) (vs := [.ref 2, .int x0]) (rest := []) (L' := [some (.ref 1), some (.int x0), some (.int x1), some (.int x2), some (.int x3), some (.int x4)]) rfl (mz_fe (e := (19, .invokevirtual 100, 106, (79, 2, 13), [])) (by decide +kernel)) rfl (mz_inv_virt (N := 79) (k := 2) (t := 13) (st := [.int x0, .ref 2]) (rest := []) (b := 2) (vs := [.int x0]) (h := (mz_S0, m1)) rfl rfl (Nat.le_of_ble_eq_true rfl) (Nat.le_of_ble_eq_true rfl) tg_2 (by decide)) (mz_dc_lt (n := 2) rfl (by decide +kernel) (by decide +kernel)) (by decide +kernel) (by decide +kernel) (fun m5 => ?_)
    refine q_o (mz_fe (e := (22, .aload_n 0, 1, (0, 0, 0), [])) (by decide +kernel)) (pc2 := 23) rfl ?_
    refine q_getR (b := 2) (mz_fe (e := (23, .getfield 10, 90, (11, 0, 2), [])) (by decide +kernel)) rfl tg_1 (by rw [ln_1]; decide) (mz_rfS (by decide +kernel)) ?_
    refine q_o (mz_fe (e := (26, .iload_n 2, 1, (0, 0, 0), [])) (by decide +kernel)) (pc2 := 27) rfl ?_
    refine q_callV (N := 79) (vs := [.ref 2, .int x1]) (rest := []) (L' := [some (.ref 1), some (.int x0), some (.int x1), some (.int x2), some (.int x3), some (.int x4)]) rfl (mz_fe (e := (27, .invokevirtual 100, 106, (79, 2, 13), [])) (by decide +kernel)) rfl (mz_inv_virt (N := 79) (k := 2) (t := 13) (st := [.int x1, .ref 2]) (rest := []) (b := 2) (vs := [.int x1]) (h := (mz_S0, m5)) rfl rfl (Nat.le_of_ble_eq_true rfl) (Nat.le_of_ble_eq_true rfl) tg_2 (by decide)) (mz_dc_lt (n := 2) rfl (by decide +kernel) (by decide +kernel)) (by decide +kernel) (by decide +kernel) (fun m8 => ?_)
    refine q_o (mz_fe (e := (30, .aload_n 0, 1, (0, 0, 0), [])) (by decide +kernel)) (pc2 := 31) rfl ?_
    refine q_getR (b := 2) (mz_fe (e := (31, .getfield 10, 90, (11, 0, 2), [])) (by decide +kernel)) rfl tg_1 (by rw [ln_1]; decide) (mz_rfS (by decide +kernel)) ?_
    refine q_o (mz_fe (e := (34, .iload_n 3, 1, (0, 0, 0), [])) (by decide +kernel)) (pc2 := 35) rfl ?_
    refine q_callV (N := 79) (vs := [.ref 2, .int x2]) (rest := []) (L' := [some (.ref 1), some (.int x0), some (.int x1), some (.int x2), some (.int x3), some (.int x4)]) rfl (mz_fe (e := (35, .invokevirtual 100, 106, (79, 2, 13), [])) (by decide +kernel)) rfl (mz_inv_virt (N := 79) (k := 2) (t := 13) (st := [.int x2, .ref 2]) (rest := []) (b := 2) (vs := [.int x2]) (h := (mz_S0, m8)) rfl rfl (Nat.le_of_ble_eq_true rfl) (Nat.le_of_ble_eq_true rfl) tg_2 (by decide)) (mz_dc_lt (n := 2) rfl (by decide +kernel) (by decide +kernel)) (by decide +kernel) (by decide +kernel) (fun m11 => ?_)
    refine q_o (mz_fe (e := (38, .aload_n 0, 1, (0, 0, 0), [])) (by decide +kernel)) (pc2 := 39) rfl ?_
    refine q_getR (b := 2) (mz_fe (e := (39, .getfield 10, 90, (11, 0, 2), [])) (by decide +kernel)) rfl tg_1 (by rw [ln_1]; decide) (mz_rfS (by decide +kernel)) ?_
    refine q_o (mz_fe (e := (42, .iload 4, 2, (0, 0, 0), [])) (by decide +kernel)) (pc2 := 44) rfl ?_
    refine q_callV (N := 79) (vs := [.ref 2, .int x3]) (rest := []) (L' := [some (.ref 1), some (.int x0), some (.int x1), some (.int x2), some (.int x3), some (.int x4)]) rfl (mz_fe (e := (44, .invokevirtual 100, 106, (79, 2, 13), [])) (by decide +kernel)) rfl (mz_inv_virt (N := 79) (k := 2) (t := 13) (st := [.int x3, .ref 2]) (rest := []) (b := 2) (vs := [.int x3]) (h := (mz_S0, m11)) rfl rfl (Nat.le_of_ble_eq_true rfl) (Nat.le_of_ble_eq_true rfl) tg_2 (by decide)) (mz_dc_lt (n := 2) rfl (by decide +kernel) (by decide +kernel)) (by decide +kernel) (by decide +kernel) (fun m14 => ?_)
    refine q_o (mz_fe (e := (47, .aload_n 0, 1, (0, 0, 0), [])) (by decide +kernel)) (pc2 := 48) rfl ?_
    refine q_getR (b := 2) (mz_fe (e := (48, .getfield 10, 90, (11, 0, 2), [])) (by decide +kernel)) rfl tg_1 (by rw [ln_1]; decide) (mz_rfS (by decide +kernel)) ?_
    refine q_o (mz_fe (e := (51, .iload 5, 2, (0, 0, 0), [])) (by decide +kernel)) (pc2 := 53) rfl ?_
    refine q_callV (N := 79) (vs := [.ref 2, .int x4]) (rest := []) (L' := [some (.ref 1), some (.int x0), some (.int x1), some (.int x2), some (.int x3), some (.int x4)]) rfl (mz_fe (e := (53, .invokevirtual 100, 106, (79, 2, 13), [])) (by decide +kernel)) rfl (mz_inv_virt (N := 79) (k := 2) (t := 13) (st := [.int x4, .ref 2]) (rest := []) (b := 2) (vs := [.int x4]) (h := (mz_S0, m14)) rfl rfl (Nat.le_of_ble_eq_true rfl) (Nat.le_of_ble_eq_true rfl) tg_2 (by decide)) (mz_dc_lt (n := 2) rfl (by decide +kernel) (by decide +kernel)) (by decide +kernel) (by decide +kernel) (fun m17 => ?_)
    refine q_o (mz_fe (e := (56, .aload_n 0, 1, (0, 0, 0), [])) (by decide +kernel)) (pc2 := 57) rfl ?_
    refine q_getR (b := 2) (mz_fe (e := (57, .getfield 10, 90, (11, 0, 2), [])) (by decide +kernel)) rfl tg_1 (by rw [ln_1]; decide) (mz_rfS (by decide +kernel)) ?_
    refine q_getI (mz_fe (e := (60, .getfield 104, 104, (7, 1, 0), [])) (by decide +kernel)) rfl (by decide) tg_2 (by rw [ln_2]; decide) ?_
    exact q_retI (mz_fe (e := (63, .ireturn, 1, (0, 0, 0), [])) (by decide +kernel)) (by decide +kernel)
  · refine q_ic (v := (-1)) (mz_fe (e := (12, .iconst (-1), 1, (0, 0, 0), [])) (by decide +kernel)) (by decide) ?_
    exact q_retI (mz_fe (e := (13, .ireturn, 1, (0, 0, 0), [])) (by decide +kernel)) (by decide +kernel)
set_option maxRecDepth 10000 in
theorem R_X11_back_eq (d : Nat) (x0 : Int32) (m : MzM)  : R_X11_back d x0 m = if x0 < 0 then (some ((-1), m)) else (if x0 ≤ (mz_rd m 2 1) then (some ((mz_rd (mz_wr m 2 1 ((mz_rd m 2 1) - x0)) 2 1), (mz_wr m 2 1 ((mz_rd m 2 1) - x0)))) else (some ((-1), m))) := by
  show mz_cI (mz_T d 117 0 (mz_en (mz_xl 117) [.ref 1, .int x0]) [] m) = _
  rw [show mz_en (mz_xl 117) [.ref 1, .int x0] = [some (.ref 1), some (.int x0)] from by rw [show mz_xl 117 = 2 from by decide +kernel]; rfl]
  refine q_o (mz_fe (e := (0, .iload_n 1, 1, (0, 0, 0), [])) (by decide +kernel)) (pc2 := 1) rfl ?_
  refine q_if (c := .lt) (off := 14) (t := 15) (x := x0) (y := 0) (st := []) (mz_fe (e := (1, .ifCond .lt 14, 3, (0, 0, 0), [])) (by decide +kernel)) (fun _ => rfl) rfl rfl rfl (fun c1 => ?_) (fun c1 => ?_)
  · refine q_ic (v := (-1)) (mz_fe (e := (15, .iconst (-1), 1, (0, 0, 0), [])) (by decide +kernel)) (by decide) ?_
    exact q_retI (mz_fe (e := (16, .ireturn, 1, (0, 0, 0), [])) (by decide +kernel)) (by decide +kernel)
  · refine q_o (mz_fe (e := (4, .iload_n 1, 1, (0, 0, 0), [])) (by decide +kernel)) (pc2 := 5) rfl ?_
    refine q_o (mz_fe (e := (5, .aload_n 0, 1, (0, 0, 0), [])) (by decide +kernel)) (pc2 := 6) rfl ?_
    refine q_getR (b := 2) (mz_fe (e := (6, .getfield 10, 90, (11, 0, 2), [])) (by decide +kernel)) rfl tg_1 (by rw [ln_1]; decide) (mz_rfS (by decide +kernel)) ?_
    refine q_getI (mz_fe (e := (9, .getfield 104, 104, (7, 1, 0), [])) (by decide +kernel)) rfl (by decide) tg_2 (by rw [ln_2]; decide) ?_
    refine q_if (c := .le) (off := 5) (t := 17) (x := x0) (y := (mz_rd m 2 1)) (st := []) (mz_fe (e := (12, .if_icmp .le 5, 3, (0, 0, 0), [])) (by decide +kernel)) (fun _ => rfl) rfl rfl rfl (fun c2 => ?_) (fun c2 => ?_)
    · refine q_o (mz_fe (e := (17, .aload_n 0, 1, (0, 0, 0), [])) (by decide +kernel)) (pc2 := 18) rfl ?_
      refine q_getR (b := 2) (mz_fe (e := (18, .getfield 10, 90, (11, 0, 2), [])) (by decide +kernel)) rfl tg_1 (by rw [ln_1]; decide) (mz_rfS (by decide +kernel)) ?_
      refine q_o (mz_fe (e := (21, .dup, 1, (0, 0, 0), [])) (by decide +kernel)) (pc2 := 22) rfl ?_
      refine q_getI (mz_fe (e := (22, .getfield 104, 104, (7, 1, 0), [])) (by decide +kernel)) rfl (by decide) tg_2 (by rw [ln_2]; decide) ?_
      refine q_o (mz_fe (e := (25, .iload_n 1, 1, (0, 0, 0), [])) (by decide +kernel)) (pc2 := 26) rfl ?_
      refine q_o (mz_fe (e := (26, .isub, 1, (0, 0, 0), [])) (by decide +kernel)) (pc2 := 27) rfl ?_
      refine q_putI (mz_fe (e := (27, .putfield 104, 104, (7, 1, 0), [])) (by decide +kernel)) rfl tg_2 (by rw [ln_2]; decide) ?_
      refine q_o (mz_fe (e := (30, .aload_n 0, 1, (0, 0, 0), [])) (by decide +kernel)) (pc2 := 31) rfl ?_
      refine q_getR (b := 2) (mz_fe (e := (31, .getfield 10, 90, (11, 0, 2), [])) (by decide +kernel)) rfl tg_1 (by rw [ln_1]; decide) (mz_rfS (by decide +kernel)) ?_
      refine q_getI (mz_fe (e := (34, .getfield 104, 104, (7, 1, 0), [])) (by decide +kernel)) rfl (by decide) tg_2 (by rw [ln_2]; decide) ?_
      exact q_retI (mz_fe (e := (37, .ireturn, 1, (0, 0, 0), [])) (by decide +kernel)) (by decide +kernel)
    · refine q_ic (v := (-1)) (mz_fe (e := (15, .iconst (-1), 1, (0, 0, 0), [])) (by decide +kernel)) (by decide) ?_
      exact q_retI (mz_fe (e := (16, .ireturn, 1, (0, 0, 0), [])) (by decide +kernel)) (by decide +kernel)
set_option maxRecDepth 10000 in
theorem R_X11_read_eq (d : Nat)  (m : MzM)  : R_X11_read d  m = (R_X4_readTape d  m).bind (fun u3 => (R_X4_faultPlace d  u3.2).bind (fun u6 => if ¬ u3.1 = 0 then (some (u3.1, (mz_wr (mz_wr u6.2 1 13 u6.1) 2 1 0))) else ((R_X8_copyFrom d 4 13 (mz_wr (mz_wr u6.2 1 13 u6.1) 2 1 0)).bind (fun m8 => (R_X11_startAnew d  m8).bind (fun m11 => some (u3.1, m11)))))) := by
  show mz_cI (mz_T d 118 0 (mz_en (mz_xl 118) [.ref 1]) [] m) = _
  rw [show mz_en (mz_xl 118) [.ref 1] = [some (.ref 1), none] from by rw [show mz_xl 118 = 2 from by decide +kernel]; rfl]
  refine q_o (mz_fe (e := (0, .aload_n 0, 1, (0, 0, 0), [])) (by decide +kernel)) (pc2 := 1) rfl ?_
  refine q_getR (b := 22) (mz_fe (e := (1, .getfield 31, 93, (11, 3, 2), [])) (by decide +kernel)) rfl tg_1 (by rw [ln_1]; decide) (mz_rfS (by decide +kernel)) ?_
  refine q_callI (N := 45) (vs := [.ref 22]) (rest := []) (L' := [some (.ref 1), none]) (f := fun v2 m1 => (R_X4_faultPlace d  m1).bind (fun u6 => if ¬ v2 = 0 then (some (v2, (mz_wr (mz_wr u6.2 1 13 u6.1) 2 1 0))) else ((R_X8_copyFrom d 4 13 (mz_wr (mz_wr u6.2 1 13 u6.1) 2 1 0)).bind (fun m8 => (R_X11_startAnew d  m8).bind (fun m11 => some (v2, m11)))))) rfl (mz_fe (e := (4, .invokevirtual 107, 107, (45, 1, 10), [])) (by decide +kernel)) rfl (mz_inv_virt (N := 45) (k := 1) (t := 10) (st := [.ref 22]) (rest := []) (b := 22) (vs := []) (h := (mz_S0, m)) rfl rfl (Nat.le_of_ble_eq_true rfl) (Nat.le_of_ble_eq_true rfl) tg_22 (by decide)) (mz_dc_lt (n := 1) rfl (by decide +kernel) (by decide +kernel)) (by decide +kernel) (Or.inl (by decide +kernel)) (fun v2 m1 => ?_)
  refine q_s (mz_fe (e := (7, .istore_n 1, 1, (0, 0, 0), [])) (by decide +kernel)) (pc' := 8) (L' := [some (.ref 1), some (.int v2)]) (st' := []) rfl ?_
  refine q_o (mz_fe (e := (8, .aload_n 0, 1, (0, 0, 0), [])) (by decide +kernel)) (pc2 := 9) rfl ?_
  refine q_o (mz_fe (e := (9, .aload_n 0, 1, (0, 0, 0), [])) (by decide +kernel)) (pc2 := 10) rfl ?_
  refine q_getR (b := 22) (mz_fe (e := (10, .getfield 31, 93, (11, 3, 2), [])) (by decide +kernel)) rfl tg_1 (by rw [ln_1]; decide) (mz_rfS (by decide +kernel)) ?_
  refine q_callI (N := 47) (vs := [.ref 22]) (rest := [.ref 1]) (L' := [some (.ref 1), some (.int v2)]) (f := fun v5 m4 => if ¬ v2 = 0 then (some (v2, (mz_wr (mz_wr m4 1 13 v5) 2 1 0))) else ((R_X8_copyFrom d 4 13 (mz_wr (mz_wr m4 1 13 v5) 2 1 0)).bind (fun m8 => (R_X11_startAnew d  m8).bind (fun m11 => some (v2, m11))))) rfl (mz_fe (e := (13, .invokevirtual 111, 108, (47, 1, 10), [])) (by decide +kernel)) rfl (mz_inv_virt (N := 47) (k := 1) (t := 10) (st := [.ref 22, .ref 1]) (rest := [.ref 1]) (b := 22) (vs := []) (h := (mz_S0, m1)) rfl rfl (Nat.le_of_ble_eq_true rfl) (Nat.le_of_ble_eq_true rfl) tg_22 (by decide)) (mz_dc_lt (n := 1) rfl (by decide +kernel) (by decide +kernel)) (by decide +kernel) (Or.inl (by decide +kernel)) (fun v5 m4 => ?_)
  refine q_putI (mz_fe (e := (16, .putfield 92, 103, (11, 13, 0), [])) (by decide +kernel)) rfl tg_1 (by rw [ln_1]; decide) ?_
  refine q_o (mz_fe (e := (19, .aload_n 0, 1, (0, 0, 0), [])) (by decide +kernel)) (pc2 := 20) rfl ?_
  refine q_getR (b := 2) (mz_fe (e := (20, .getfield 10, 90, (11, 0, 2), [])) (by decide +kernel)) rfl tg_1 (by rw [ln_1]; decide) (mz_rfS (by decide +kernel)) ?_
  refine q_ic (v := 0) (mz_fe (e := (23, .iconst 0, 1, (0, 0, 0), [])) (by decide +kernel)) (by decide) ?_
  refine q_putI (mz_fe (e := (24, .putfield 104, 104, (7, 1, 0), [])) (by decide +kernel)) rfl tg_2 (by rw [ln_2]; decide) ?_
  refine q_o (mz_fe (e := (27, .iload_n 1, 1, (0, 0, 0), [])) (by decide +kernel)) (pc2 := 28) rfl ?_
  refine q_if (c := .ne) (off := 18) (t := 46) (x := v2) (y := 0) (st := []) (mz_fe (e := (28, .ifCond .ne 18, 3, (0, 0, 0), [])) (by decide +kernel)) (fun _ => rfl) rfl rfl rfl (fun c7 => ?_) (fun c7 => ?_)
  · refine q_o (mz_fe (e := (46, .iload_n 1, 1, (0, 0, 0), [])) (by decide +kernel)) (pc2 := 47) rfl ?_
    exact q_retI (mz_fe (e := (47, .ireturn, 1, (0, 0, 0), [])) (by decide +kernel)) (by decide +kernel)
  · refine q_o (mz_fe (e := (31, .aload_n 0, 1, (0, 0, 0), [])) (by decide +kernel)) (pc2 := 32) rfl ?_
    refine q_getR (b := 4) (mz_fe (e := (32, .getfield 19, 91, (11, 1, 2), [])) (by decide +kernel)) rfl tg_1 (by rw [ln_1]; decide) (mz_rfS (by decide +kernel)) ?_
    refine q_o (mz_fe (e := (35, .aload_n 0, 1, (0, 0, 0), [])) (by decide +kernel)) (pc2 := 36) rfl ?_
    refine q_getR (b := 13) (mz_fe (e := (36, .getfield 23, 92, (11, 2, 2), [])) (by decide +kernel)) rfl tg_1 (by rw [ln_1]; decide) (mz_rfS (by decide +kernel)) ?_
    refine q_callV (N := 83) (vs := [.ref 4, .ref 13]) (rest := []) (L' := [some (.ref 1), some (.int v2)]) rfl (mz_fe (e := (39, .invokevirtual 113, 109, (83, 2, 14), [])) (by decide +kernel)) rfl (mz_inv_virt (N := 83) (k := 2) (t := 14) (st := [.ref 13, .ref 4]) (rest := []) (b := 4) (vs := [.ref 13]) (h := (mz_S0, (mz_wr (mz_wr m4 1 13 v5) 2 1 0))) rfl rfl (Nat.le_of_ble_eq_true rfl) (Nat.le_of_ble_eq_true rfl) tg_4 (by decide)) (mz_dc_lt (n := 2) rfl (by decide +kernel) (by decide +kernel)) (by decide +kernel) (by decide +kernel) (fun m8 => ?_)
    refine q_o (mz_fe (e := (42, .aload_n 0, 1, (0, 0, 0), [])) (by decide +kernel)) (pc2 := 43) rfl ?_
    refine q_callV (N := 119) (vs := [.ref 1]) (rest := []) (L' := [some (.ref 1), some (.int v2)]) rfl (mz_fe (e := (43, .invokevirtual 116, 110, (119, 1, 17), [])) (by decide +kernel)) rfl (mz_inv_virt (N := 119) (k := 1) (t := 17) (st := [.ref 1]) (rest := []) (b := 1) (vs := []) (h := (mz_S0, m8)) rfl rfl (Nat.le_of_ble_eq_true rfl) (Nat.le_of_ble_eq_true rfl) tg_1 (by decide)) (mz_dc_lt (n := 1) rfl (by decide +kernel) (by decide +kernel)) (by decide +kernel) (by decide +kernel) (fun m11 => ?_)
    refine q_o (mz_fe (e := (46, .iload_n 1, 1, (0, 0, 0), [])) (by decide +kernel)) (pc2 := 47) rfl ?_
    exact q_retI (mz_fe (e := (47, .ireturn, 1, (0, 0, 0), [])) (by decide +kernel)) (by decide +kernel)
set_option maxRecDepth 10000 in
theorem R_X11_startAnew_eq (d : Nat)  (m : MzM)  : R_X11_startAnew d  m = (R_X6_startFrom d 29 4 m).bind (fun m1 => (R_X1_clear d  m1).bind (fun m4 => (R_X10_clear d  m4).bind (fun m7 => (R_X5_forgetFound d  m7).bind (fun m10 => H_X11_startAnew_34 d 0 m10)))) := by
  show mz_cV (mz_T d 119 0 (mz_en (mz_xl 119) [.ref 1]) [] m) = _
  rw [show mz_en (mz_xl 119) [.ref 1] = [some (.ref 1), none] from by rw [show mz_xl 119 = 2 from by decide +kernel]; rfl]
  refine q_o (mz_fe (e := (0, .aload_n 0, 1, (0, 0, 0), [])) (by decide +kernel)) (pc2 := 1) rfl ?_
  refine q_getR (b := 29) (mz_fe (e := (1, .getfield 47, 95, (11, 5, 2), [])) (by decide +kernel)) rfl tg_1 (by rw [ln_1]; decide) (mz_rfS (by decide +kernel)) ?_
  refine q_o (mz_fe (e := (4, .aload_n 0, 1, (0, 0, 0), [])) (by decide +kernel)) (pc2 := 5) rfl ?_
  refine q_getR (b := 4) (mz_fe (e := (5, .getfield 19, 91, (11, 1, 2), [])) (by decide +kernel)) rfl tg_1 (by rw [ln_1]; decide) (mz_rfS (by decide +kernel)) ?_
  refine q_callV (N := 69) (vs := [.ref 29, .ref 4]) (rest := []) (L' := [some (.ref 1), none]) rfl (mz_fe (e := (8, .invokevirtual 119, 111, (69, 2, 12), [])) (by decide +kernel)) rfl (mz_inv_virt (N := 69) (k := 2) (t := 12) (st := [.ref 4, .ref 29]) (rest := []) (b := 29) (vs := [.ref 4]) (h := (mz_S0, m)) rfl rfl (Nat.le_of_ble_eq_true rfl) (Nat.le_of_ble_eq_true rfl) (st_t (by decide : mz_isS 29 = true)) (by decide)) (mz_dc_lt (n := 2) rfl (by decide +kernel) (by decide +kernel)) (by decide +kernel) (by decide +kernel) (fun m1 => ?_)
  refine q_o (mz_fe (e := (11, .aload_n 0, 1, (0, 0, 0), [])) (by decide +kernel)) (pc2 := 12) rfl ?_
  refine q_getR (b := 37) (mz_fe (e := (12, .getfield 57, 97, (11, 7, 2), [])) (by decide +kernel)) rfl tg_1 (by rw [ln_1]; decide) (mz_rfS (by decide +kernel)) ?_
  refine q_callV (N := 11) (vs := [.ref 37]) (rest := []) (L' := [some (.ref 1), none]) rfl (mz_fe (e := (15, .invokevirtual 122, 112, (11, 1, 7), [])) (by decide +kernel)) rfl (mz_inv_virt (N := 11) (k := 1) (t := 7) (st := [.ref 37]) (rest := []) (b := 37) (vs := []) (h := (mz_S0, m1)) rfl rfl (Nat.le_of_ble_eq_true rfl) (Nat.le_of_ble_eq_true rfl) tg_37 (by decide)) (mz_dc_lt (n := 1) rfl (by decide +kernel) (by decide +kernel)) (by decide +kernel) (by decide +kernel) (fun m4 => ?_)
  refine q_o (mz_fe (e := (18, .aload_n 0, 1, (0, 0, 0), [])) (by decide +kernel)) (pc2 := 19) rfl ?_
  refine q_getR (b := 222) (mz_fe (e := (19, .getfield 88, 102, (11, 12, 2), [])) (by decide +kernel)) rfl tg_1 (by rw [ln_1]; decide) (mz_rfS (by decide +kernel)) ?_
  refine q_callV (N := 107) (vs := [.ref 222]) (rest := []) (L' := [some (.ref 1), none]) rfl (mz_fe (e := (22, .invokevirtual 125, 113, (107, 1, 16), [])) (by decide +kernel)) rfl (mz_inv_virt (N := 107) (k := 1) (t := 16) (st := [.ref 222]) (rest := []) (b := 222) (vs := []) (h := (mz_S0, m4)) rfl rfl (Nat.le_of_ble_eq_true rfl) (Nat.le_of_ble_eq_true rfl) tg_222 (by decide)) (mz_dc_lt (n := 1) rfl (by decide +kernel) (by decide +kernel)) (by decide +kernel) (by decide +kernel) (fun m7 => ?_)
  refine q_o (mz_fe (e := (25, .aload_n 0, 1, (0, 0, 0), [])) (by decide +kernel)) (pc2 := 26) rfl ?_
  refine q_getR (b := 201) (mz_fe (e := (26, .getfield 74, 100, (11, 10, 2), [])) (by decide +kernel)) rfl tg_1 (by rw [ln_1]; decide) (mz_rfS (by decide +kernel)) ?_
  refine q_callV (N := 61) (vs := [.ref 201]) (rest := []) (L' := [some (.ref 1), none]) rfl (mz_fe (e := (29, .invokevirtual 126, 114, (61, 1, 11), [])) (by decide +kernel)) rfl (mz_inv_virt (N := 61) (k := 1) (t := 11) (st := [.ref 201]) (rest := []) (b := 201) (vs := []) (h := (mz_S0, m7)) rfl rfl (Nat.le_of_ble_eq_true rfl) (Nat.le_of_ble_eq_true rfl) tg_201 (by decide)) (mz_dc_lt (n := 1) rfl (by decide +kernel) (by decide +kernel)) (by decide +kernel) (by decide +kernel) (fun m10 => ?_)
  refine q_ic (v := 0) (mz_fe (e := (32, .iconst 0, 1, (0, 0, 0), [])) (by decide +kernel)) (by decide) ?_
  refine q_s (mz_fe (e := (33, .istore_n 1, 1, (0, 0, 0), [])) (by decide +kernel)) (pc' := 34) (L' := [some (.ref 1), some (.int 0)]) (st' := []) rfl ?_
  exact congrArg mz_cV (mz_At_msk (L := [some (.ref 1), some (.int 0)]) (L2 := [some (.ref 1), some (.int 0)]) (mz_fe (e := (34, .iload_n 1, 1, (0, 0, 0), [true, true])) (by decide +kernel)) rfl rfl)
set_option maxRecDepth 10000 in
theorem H_X11_startAnew_34_eq (d : Nat) (y1 : Int32) (m : MzM)  : H_X11_startAnew_34 d y1 m = if (3 : Int32) ≤ y1 then some m else (mz_g (mz_ok y1 3) (H_X11_startAnew_34 d (y1 + 1) (mz_wr m 200 (y1 : Int32).toNatClampNeg (vp_nar .boolean 0)))) := by
  show mz_cV (mz_T d 119 34 [some (.ref 1), some (.int y1)] [] m) = _
  refine q_s (mz_fe (e := (34, .iload_n 1, 1, (0, 0, 0), [true, true])) (by decide +kernel)) (pc' := 35) (L' := [some (.ref 1), some (.int y1)]) (st' := [.int y1]) rfl ?_
  refine q_ic (v := 3) (mz_fe (e := (35, .iconst 3, 1, (0, 0, 0), [])) (by decide +kernel)) (by decide) ?_
  refine q_if (c := .ge) (off := 16) (t := 52) (x := y1) (y := 3) (st := []) (mz_fe (e := (36, .if_icmp .ge 16, 3, (0, 0, 0), [])) (by decide +kernel)) (fun _ => rfl) rfl rfl rfl (fun c13 => ?_) (fun c13 => ?_)
  · exact q_retV (mz_fe (e := (52, .return_, 1, (0, 0, 0), [])) (by decide +kernel)) (by decide +kernel)
  · refine q_o (mz_fe (e := (39, .aload_n 0, 1, (0, 0, 0), [])) (by decide +kernel)) (pc2 := 40) rfl ?_
    refine q_getR (b := 200) (mz_fe (e := (40, .getfield 65, 99, (11, 9, 2), [])) (by decide +kernel)) rfl tg_1 (by rw [ln_1]; decide) (mz_rfS (by decide +kernel)) ?_
    refine q_o (mz_fe (e := (43, .iload_n 1, 1, (0, 0, 0), [])) (by decide +kernel)) (pc2 := 44) rfl ?_
    refine q_ic (v := 0) (mz_fe (e := (44, .iconst 0, 1, (0, 0, 0), [])) (by decide +kernel)) (by decide) ?_
    refine q_stAg (f := (vp_nar .boolean)) rfl (mz_fe (e := (45, .bastore, 1, (0, 0, 0), [])) (by decide +kernel)) (q_actZ tg_200) rfl tg_200 ln_200 (fun g14 => ?_)
    refine q_iinc (v := y1) (c := 1) (L3 := [some (.ref 1), some (.int (y1 + 1))]) (mz_fe (e := (46, .iinc 1 1, 3, (0, 0, 0), [])) (by decide +kernel)) rfl rfl (by decide) rfl ?_
    refine q_o (mz_fe (e := (49, .goto (-15), 3, (0, 0, 0), [])) (by decide +kernel)) (pc2 := 34) rfl ?_
    exact congrArg mz_cV (mz_At_msk (L := [some (.ref 1), some (.int (y1 + 1))]) (L2 := [some (.ref 1), some (.int (y1 + 1))]) (mz_fe (e := (34, .iload_n 1, 1, (0, 0, 0), [true, true])) (by decide +kernel)) rfl rfl)
set_option maxRecDepth 10000 in
theorem R_X11_place_eq (d : Nat)  (m : MzM)  : R_X11_place d  m = some ((mz_rd m 1 13), m) := by
  show mz_cI (mz_T d 120 0 (mz_en (mz_xl 120) [.ref 1]) [] m) = _
  rw [show mz_en (mz_xl 120) [.ref 1] = [some (.ref 1)] from by rw [show mz_xl 120 = 1 from by decide +kernel]; rfl]
  refine q_o (mz_fe (e := (0, .aload_n 0, 1, (0, 0, 0), [])) (by decide +kernel)) (pc2 := 1) rfl ?_
  refine q_getI (mz_fe (e := (1, .getfield 92, 103, (11, 13, 0), [])) (by decide +kernel)) rfl (by decide) tg_1 (by rw [ln_1]; decide) ?_
  exact q_retI (mz_fe (e := (4, .ireturn, 1, (0, 0, 0), [])) (by decide +kernel)) (by decide +kernel)
set_option maxRecDepth 10000 in
theorem R_X11_person_eq (d : Nat) (x0 : Int32) (x1 : Int32) (m : MzM)  : R_X11_person d x0 x1 m = (R_X11_isPerson d x0 m).bind (fun u3 => if ¬ u3.1 = 0 then ((R_X11_isStuff d x1 u3.2).bind (fun u7 => if u7.1 = 0 then (if x1 = 4 then ((R_X6_ofAll d 29 x0 u7.2).bind (fun u12 => some (u12.1, u12.2))) else if x1 = 5 then ((R_X3_foesOf d 29 x0 u7.2).bind (fun u16 => some (u16.1, u16.2))) else if x1 = 6 then (mz_g (mz_ok x0 6) (some ((mz_rd u7.2 32 (x0 : Int32).toNatClampNeg), u7.2))) else (some ((-1), u7.2))) else ((R_X6_amount d 29 x0 x1 u7.2).bind (fun u21 => some (u21.1, u21.2))))) else (some ((-1), u3.2))) := by
  show mz_cI (mz_T d 121 0 (mz_en (mz_xl 121) [.ref 1, .int x0, .int x1]) [] m) = _
  rw [show mz_en (mz_xl 121) [.ref 1, .int x0, .int x1] = [some (.ref 1), some (.int x0), some (.int x1)] from by rw [show mz_xl 121 = 3 from by decide +kernel]; rfl]
  refine q_o (mz_fe (e := (0, .aload_n 0, 1, (0, 0, 0), [])) (by decide +kernel)) (pc2 := 1) rfl ?_
  refine q_o (mz_fe (e := (1, .iload_n 1, 1, (0, 0, 0), [])) (by decide +kernel)) (pc2 := 2) rfl ?_
  refine q_callI (N := 165) (vs := [.ref 1, .int x0]) (rest := []) (L' := [some (.ref 1), some (.int x0), some (.int x1)]) (f := fun v2 m1 => if ¬ v2 = 0 then ((R_X11_isStuff d x1 m1).bind (fun u7 => if u7.1 = 0 then (if x1 = 4 then ((R_X6_ofAll d 29 x0 u7.2).bind (fun u12 => some (u12.1, u12.2))) else if x1 = 5 then ((R_X3_foesOf d 29 x0 u7.2).bind (fun u16 => some (u16.1, u16.2))) else if x1 = 6 then (mz_g (mz_ok x0 6) (some ((mz_rd u7.2 32 (x0 : Int32).toNatClampNeg), u7.2))) else (some ((-1), u7.2))) else ((R_X6_amount d 29 x0 x1 u7.2).bind (fun u21 => some (u21.1, u21.2))))) else (some ((-1), m1))) rfl (mz_fe (e := (2, .invokevirtual 129, 115, (165, 2, 17), [])) (by decide +kernel)) rfl (mz_inv_virt (N := 165) (k := 2) (t := 17) (st := [.int x0, .ref 1]) (rest := []) (b := 1) (vs := [.int x0]) (h := (mz_S0, m)) rfl rfl (Nat.le_of_ble_eq_true rfl) (Nat.le_of_ble_eq_true rfl) tg_1 (by decide)) (mz_dc_lt (n := 2) rfl (by decide +kernel) (by decide +kernel)) (by decide +kernel) (Or.inr (by decide +kernel)) (fun v2 m1 => ?_)
  refine q_if (c := .ne) (off := 5) (t := 10) (x := v2) (y := 0) (st := []) (mz_fe (e := (5, .ifCond .ne 5, 3, (0, 0, 0), [])) (by decide +kernel)) (fun _ => rfl) rfl rfl rfl (fun c4 => ?_) (fun c4 => ?_)
  · refine q_o (mz_fe (e := (10, .iload_n 2, 1, (0, 0, 0), [])) (by decide +kernel)) (pc2 := 11) rfl ?_
    refine q_callI (N := 167) (vs := [.int x1]) (rest := []) (L' := [some (.ref 1), some (.int x0), some (.int x1)]) (f := fun v6 m5 => if v6 = 0 then (if x1 = 4 then ((R_X6_ofAll d 29 x0 m5).bind (fun u12 => some (u12.1, u12.2))) else if x1 = 5 then ((R_X3_foesOf d 29 x0 m5).bind (fun u16 => some (u16.1, u16.2))) else if x1 = 6 then (mz_g (mz_ok x0 6) (some ((mz_rd m5 32 (x0 : Int32).toNatClampNeg), m5))) else (some ((-1), m5))) else ((R_X6_amount d 29 x0 x1 m5).bind (fun u21 => some (u21.1, u21.2)))) rfl (mz_fe (e := (11, .invokestatic 132, 116, (167, 1, 1000), [])) (by decide +kernel)) rfl (mz_inv_stat (N := 167) (k := 1) (st := [.int x1]) (rest := []) (vs := [.int x1]) (h := (mz_S0, m1)) rfl rfl (Nat.le_of_ble_eq_true rfl) (Nat.le_of_ble_eq_true rfl)) (mz_dc_lt (n := 1) rfl (by decide +kernel) (by decide +kernel)) (by decide +kernel) (Or.inr (by decide +kernel)) (fun v6 m5 => ?_)
    refine q_if (c := .eq) (off := 13) (t := 27) (x := v6) (y := 0) (st := []) (mz_fe (e := (14, .ifCond .eq 13, 3, (0, 0, 0), [])) (by decide +kernel)) (fun _ => rfl) rfl rfl rfl (fun c8 => ?_) (fun c8 => ?_)
    · refine q_o (mz_fe (e := (27, .iload_n 2, 1, (0, 0, 0), [])) (by decide +kernel)) (pc2 := 28) rfl ?_
      refine mz_ite (P := x1 = 4) (fun c9 => ?_) (fun c9 => ?_)
      · refine q_sw (t := 56) (st := []) (mz_fe (e := (28, .tableswitch 60 4 6 #[28, 37, 50], 28, (0, 0, 0), [])) (by decide +kernel)) rfl (by rw [c9]; decide +kernel) ?_
        refine q_o (mz_fe (e := (56, .aload_n 0, 1, (0, 0, 0), [])) (by decide +kernel)) (pc2 := 57) rfl ?_
        refine q_getR (b := 29) (mz_fe (e := (57, .getfield 47, 95, (11, 5, 2), [])) (by decide +kernel)) rfl tg_1 (by rw [ln_1]; decide) (mz_rfS (by decide +kernel)) ?_
        refine q_o (mz_fe (e := (60, .iload_n 1, 1, (0, 0, 0), [])) (by decide +kernel)) (pc2 := 61) rfl ?_
        refine q_callI (N := 74) (vs := [.ref 29, .int x0]) (rest := []) (L' := [some (.ref 1), some (.int x0), some (.int x1)]) (f := fun v11 m10 => some (v11, m10)) rfl (mz_fe (e := (61, .invokevirtual 139, 118, (74, 2, 12), [])) (by decide +kernel)) rfl (mz_inv_virt (N := 74) (k := 2) (t := 12) (st := [.int x0, .ref 29]) (rest := []) (b := 29) (vs := [.int x0]) (h := (mz_S0, m5)) rfl rfl (Nat.le_of_ble_eq_true rfl) (Nat.le_of_ble_eq_true rfl) (st_t (by decide : mz_isS 29 = true)) (by decide)) (mz_dc_lt (n := 2) rfl (by decide +kernel) (by decide +kernel)) (by decide +kernel) (Or.inl (by decide +kernel)) (fun v11 m10 => ?_)
        exact q_retI (mz_fe (e := (64, .ireturn, 1, (0, 0, 0), [])) (by decide +kernel)) (by decide +kernel)
      refine mz_ite (P := x1 = 5) (fun c13 => ?_) (fun c13 => ?_)
      · refine q_sw (t := 65) (st := []) (mz_fe (e := (28, .tableswitch 60 4 6 #[28, 37, 50], 28, (0, 0, 0), [])) (by decide +kernel)) rfl (by rw [c13]; decide +kernel) ?_
        refine q_o (mz_fe (e := (65, .aload_n 0, 1, (0, 0, 0), [])) (by decide +kernel)) (pc2 := 66) rfl ?_
        refine q_getR (b := 27) (mz_fe (e := (66, .getfield 40, 94, (11, 4, 2), [])) (by decide +kernel)) rfl tg_1 (by rw [ln_1]; decide) (mz_rfS (by decide +kernel)) ?_
        refine q_o (mz_fe (e := (69, .aload_n 0, 1, (0, 0, 0), [])) (by decide +kernel)) (pc2 := 70) rfl ?_
        refine q_getR (b := 29) (mz_fe (e := (70, .getfield 47, 95, (11, 5, 2), [])) (by decide +kernel)) rfl tg_1 (by rw [ln_1]; decide) (mz_rfS (by decide +kernel)) ?_
        refine q_o (mz_fe (e := (73, .iload_n 1, 1, (0, 0, 0), [])) (by decide +kernel)) (pc2 := 74) rfl ?_
        refine q_callI (N := 40) (vs := [.ref 27, .ref 29, .int x0]) (rest := []) (L' := [some (.ref 1), some (.int x0), some (.int x1)]) (f := fun v15 m14 => some (v15, m14)) rfl (mz_fe (e := (74, .invokevirtual 143, 119, (40, 3, 9), [])) (by decide +kernel)) rfl (mz_inv_virt (N := 40) (k := 3) (t := 9) (st := [.int x0, .ref 29, .ref 27]) (rest := []) (b := 27) (vs := [.ref 29, .int x0]) (h := (mz_S0, m5)) rfl rfl (Nat.le_of_ble_eq_true rfl) (Nat.le_of_ble_eq_true rfl) tg_27 (by decide)) (mz_dc_lt (n := 3) rfl (by decide +kernel) (by decide +kernel)) (by decide +kernel) (Or.inl (by decide +kernel)) (fun v15 m14 => ?_)
        exact q_retI (mz_fe (e := (77, .ireturn, 1, (0, 0, 0), [])) (by decide +kernel)) (by decide +kernel)
      refine mz_ite (P := x1 = 6) (fun c17 => ?_) (fun c17 => ?_)
      · refine q_sw (t := 78) (st := []) (mz_fe (e := (28, .tableswitch 60 4 6 #[28, 37, 50], 28, (0, 0, 0), [])) (by decide +kernel)) rfl (by rw [c17]; decide +kernel) ?_
        refine q_o (mz_fe (e := (78, .aload_n 0, 1, (0, 0, 0), [])) (by decide +kernel)) (pc2 := 79) rfl ?_
        refine q_getR (b := 29) (mz_fe (e := (79, .getfield 47, 95, (11, 5, 2), [])) (by decide +kernel)) rfl tg_1 (by rw [ln_1]; decide) (mz_rfS (by decide +kernel)) ?_
        refine q_getR (b := 32) (mz_fe (e := (82, .getfield 147, 105, (6, 2, 2), [])) (by decide +kernel)) rfl (st_t (by decide : mz_isS 29 = true)) (by rw [(st_l (by decide : mz_isS 29 = true))]; decide) (mz_rfS (by decide +kernel)) ?_
        refine q_o (mz_fe (e := (85, .iload_n 1, 1, (0, 0, 0), [])) (by decide +kernel)) (pc2 := 86) rfl ?_
        refine q_ialdg rfl (mz_fe (e := (86, .iaload, 1, (0, 0, 0), [])) (by decide +kernel)) rfl (by decide) (st_pt (by decide : mz_isS 29 = true)) (st_pl (by decide : mz_isS 29 = true)) (fun g18 => ?_)
        exact q_retI (mz_fe (e := (87, .ireturn, 1, (0, 0, 0), [])) (by decide +kernel)) (by decide +kernel)
      refine q_sw (t := 88) (st := []) (mz_fe (e := (28, .tableswitch 60 4 6 #[28, 37, 50], 28, (0, 0, 0), [])) (by decide +kernel)) rfl (mz_swd [4, 5, 6] (by decide +kernel) (List.forall_mem_cons.mpr ⟨c9, (List.forall_mem_cons.mpr ⟨c13, (List.forall_mem_cons.mpr ⟨c17, (fun _ z => absurd z List.not_mem_nil)⟩)⟩)⟩)) ?_
      refine q_ic (v := (-1)) (mz_fe (e := (88, .iconst (-1), 1, (0, 0, 0), [])) (by decide +kernel)) (by decide) ?_
      exact q_retI (mz_fe (e := (89, .ireturn, 1, (0, 0, 0), [])) (by decide +kernel)) (by decide +kernel)
    · refine q_o (mz_fe (e := (17, .aload_n 0, 1, (0, 0, 0), [])) (by decide +kernel)) (pc2 := 18) rfl ?_
      refine q_getR (b := 29) (mz_fe (e := (18, .getfield 47, 95, (11, 5, 2), [])) (by decide +kernel)) rfl tg_1 (by rw [ln_1]; decide) (mz_rfS (by decide +kernel)) ?_
      refine q_o (mz_fe (e := (21, .iload_n 1, 1, (0, 0, 0), [])) (by decide +kernel)) (pc2 := 22) rfl ?_
      refine q_o (mz_fe (e := (22, .iload_n 2, 1, (0, 0, 0), [])) (by decide +kernel)) (pc2 := 23) rfl ?_
      refine q_callI (N := 72) (vs := [.ref 29, .int x0, .int x1]) (rest := []) (L' := [some (.ref 1), some (.int x0), some (.int x1)]) (f := fun v20 m19 => some (v20, m19)) rfl (mz_fe (e := (23, .invokevirtual 135, 117, (72, 3, 12), [])) (by decide +kernel)) rfl (mz_inv_virt (N := 72) (k := 3) (t := 12) (st := [.int x1, .int x0, .ref 29]) (rest := []) (b := 29) (vs := [.int x0, .int x1]) (h := (mz_S0, m5)) rfl rfl (Nat.le_of_ble_eq_true rfl) (Nat.le_of_ble_eq_true rfl) (st_t (by decide : mz_isS 29 = true)) (by decide)) (mz_dc_lt (n := 3) rfl (by decide +kernel) (by decide +kernel)) (by decide +kernel) (Or.inl (by decide +kernel)) (fun v20 m19 => ?_)
      exact q_retI (mz_fe (e := (26, .ireturn, 1, (0, 0, 0), [])) (by decide +kernel)) (by decide +kernel)
  · refine q_ic (v := (-1)) (mz_fe (e := (8, .iconst (-1), 1, (0, 0, 0), [])) (by decide +kernel)) (by decide) ?_
    exact q_retI (mz_fe (e := (9, .ireturn, 1, (0, 0, 0), [])) (by decide +kernel)) (by decide +kernel)
set_option maxRecDepth 10000 in
theorem R_X11_screw_eq (d : Nat) (x0 : Int32) (m : MzM)  : R_X11_screw d x0 m = (R_X11_isStuff d x0 m).bind (fun u3 => if u3.1 = 0 then (some ((-1), u3.2)) else (mz_g (mz_ok x0 4) (some ((mz_rd u3.2 31 (x0 : Int32).toNatClampNeg), u3.2)))) := by
  show mz_cI (mz_T d 122 0 (mz_en (mz_xl 122) [.ref 1, .int x0]) [] m) = _
  rw [show mz_en (mz_xl 122) [.ref 1, .int x0] = [some (.ref 1), some (.int x0)] from by rw [show mz_xl 122 = 2 from by decide +kernel]; rfl]
  refine q_o (mz_fe (e := (0, .iload_n 1, 1, (0, 0, 0), [])) (by decide +kernel)) (pc2 := 1) rfl ?_
  refine q_callI (N := 167) (vs := [.int x0]) (rest := []) (L' := [some (.ref 1), some (.int x0)]) (f := fun v2 m1 => if v2 = 0 then (some ((-1), m1)) else (mz_g (mz_ok x0 4) (some ((mz_rd m1 31 (x0 : Int32).toNatClampNeg), m1)))) rfl (mz_fe (e := (1, .invokestatic 132, 116, (167, 1, 1000), [])) (by decide +kernel)) rfl (mz_inv_stat (N := 167) (k := 1) (st := [.int x0]) (rest := []) (vs := [.int x0]) (h := (mz_S0, m)) rfl rfl (Nat.le_of_ble_eq_true rfl) (Nat.le_of_ble_eq_true rfl)) (mz_dc_lt (n := 1) rfl (by decide +kernel) (by decide +kernel)) (by decide +kernel) (Or.inr (by decide +kernel)) (fun v2 m1 => ?_)
  refine q_if (c := .eq) (off := 15) (t := 19) (x := v2) (y := 0) (st := []) (mz_fe (e := (4, .ifCond .eq 15, 3, (0, 0, 0), [])) (by decide +kernel)) (fun _ => rfl) rfl rfl rfl (fun c4 => ?_) (fun c4 => ?_)
  · refine q_ic (v := (-1)) (mz_fe (e := (19, .iconst (-1), 1, (0, 0, 0), [])) (by decide +kernel)) (by decide) ?_
    exact q_retI (mz_fe (e := (20, .ireturn, 1, (0, 0, 0), [])) (by decide +kernel)) (by decide +kernel)
  · refine q_o (mz_fe (e := (7, .aload_n 0, 1, (0, 0, 0), [])) (by decide +kernel)) (pc2 := 8) rfl ?_
    refine q_getR (b := 29) (mz_fe (e := (8, .getfield 47, 95, (11, 5, 2), [])) (by decide +kernel)) rfl tg_1 (by rw [ln_1]; decide) (mz_rfS (by decide +kernel)) ?_
    refine q_getR (b := 31) (mz_fe (e := (11, .getfield 151, 106, (6, 1, 2), [])) (by decide +kernel)) rfl (st_t (by decide : mz_isS 29 = true)) (by rw [(st_l (by decide : mz_isS 29 = true))]; decide) (mz_rfS (by decide +kernel)) ?_
    refine q_o (mz_fe (e := (14, .iload_n 1, 1, (0, 0, 0), [])) (by decide +kernel)) (pc2 := 15) rfl ?_
    refine q_ialdg rfl (mz_fe (e := (15, .iaload, 1, (0, 0, 0), [])) (by decide +kernel)) rfl (by decide) (st_wt (by decide : mz_isS 29 = true)) (st_wl (by decide : mz_isS 29 = true)) (fun g5 => ?_)
    refine q_o (mz_fe (e := (16, .goto 4, 3, (0, 0, 0), [])) (by decide +kernel)) (pc2 := 20) rfl ?_
    exact q_retI (mz_fe (e := (20, .ireturn, 1, (0, 0, 0), [])) (by decide +kernel)) (by decide +kernel)
set_option maxRecDepth 10000 in
theorem R_X11_suit_eq (d : Nat) (x0 : Int32) (x1 : Int32) (m : MzM)  : R_X11_suit d x0 x1 m = if x0 < 0 then (some ((-1), m)) else (if x0 < (mz_rd m 4 5) then (if x1 < 0 then (if ¬ x1 = 4 then (some ((-1), m)) else ((R_X8_isDue d 4 x0 (mz_rd m 29 3) m).bind (fun u7 => if u7.1 = 0 then (some (0, u7.2)) else (some (1, u7.2))))) else (if (4 : Int32) ≤ x1 then (if ¬ x1 = 4 then (some ((-1), m)) else ((R_X8_isDue d 4 x0 (mz_rd m 29 3) m).bind (fun u13 => if u13.1 = 0 then (some (0, u13.2)) else (some (1, u13.2))))) else ((R_X8_suitPart d 4 x0 x1 m).bind (fun u17 => some (u17.1, u17.2))))) else (some ((-1), m))) := by
  show mz_cI (mz_T d 123 0 (mz_en (mz_xl 123) [.ref 1, .int x0, .int x1]) [] m) = _
  rw [show mz_en (mz_xl 123) [.ref 1, .int x0, .int x1] = [some (.ref 1), some (.int x0), some (.int x1)] from by rw [show mz_xl 123 = 3 from by decide +kernel]; rfl]
  refine q_o (mz_fe (e := (0, .iload_n 1, 1, (0, 0, 0), [])) (by decide +kernel)) (pc2 := 1) rfl ?_
  refine q_if (c := .lt) (off := 14) (t := 15) (x := x0) (y := 0) (st := []) (mz_fe (e := (1, .ifCond .lt 14, 3, (0, 0, 0), [])) (by decide +kernel)) (fun _ => rfl) rfl rfl rfl (fun c1 => ?_) (fun c1 => ?_)
  · refine q_ic (v := (-1)) (mz_fe (e := (15, .iconst (-1), 1, (0, 0, 0), [])) (by decide +kernel)) (by decide) ?_
    exact q_retI (mz_fe (e := (16, .ireturn, 1, (0, 0, 0), [])) (by decide +kernel)) (by decide +kernel)
  · refine q_o (mz_fe (e := (4, .iload_n 1, 1, (0, 0, 0), [])) (by decide +kernel)) (pc2 := 5) rfl ?_
    refine q_o (mz_fe (e := (5, .aload_n 0, 1, (0, 0, 0), [])) (by decide +kernel)) (pc2 := 6) rfl ?_
    refine q_getR (b := 4) (mz_fe (e := (6, .getfield 19, 91, (11, 1, 2), [])) (by decide +kernel)) rfl tg_1 (by rw [ln_1]; decide) (mz_rfS (by decide +kernel)) ?_
    refine q_getI (mz_fe (e := (9, .getfield 154, 107, (8, 5, 0), [])) (by decide +kernel)) rfl (by decide) tg_4 (by rw [ln_4]; decide) ?_
    refine q_if (c := .lt) (off := 5) (t := 17) (x := x0) (y := (mz_rd m 4 5)) (st := []) (mz_fe (e := (12, .if_icmp .lt 5, 3, (0, 0, 0), [])) (by decide +kernel)) (fun _ => rfl) rfl rfl rfl (fun c2 => ?_) (fun c2 => ?_)
    · refine q_o (mz_fe (e := (17, .iload_n 2, 1, (0, 0, 0), [])) (by decide +kernel)) (pc2 := 18) rfl ?_
      refine q_if (c := .lt) (off := 18) (t := 36) (x := x1) (y := 0) (st := []) (mz_fe (e := (18, .ifCond .lt 18, 3, (0, 0, 0), [])) (by decide +kernel)) (fun _ => rfl) rfl rfl rfl (fun c3 => ?_) (fun c3 => ?_)
      · refine q_o (mz_fe (e := (36, .iload_n 2, 1, (0, 0, 0), [])) (by decide +kernel)) (pc2 := 37) rfl ?_
        refine q_ic (v := 4) (mz_fe (e := (37, .iconst 4, 1, (0, 0, 0), [])) (by decide +kernel)) (by decide) ?_
        refine q_if (c := .ne) (off := 27) (t := 65) (x := x1) (y := 4) (st := []) (mz_fe (e := (38, .if_icmp .ne 27, 3, (0, 0, 0), [])) (by decide +kernel)) (fun _ => rfl) rfl rfl rfl (fun c4 => ?_) (fun c4 => ?_)
        · refine q_ic (v := (-1)) (mz_fe (e := (65, .iconst (-1), 1, (0, 0, 0), [])) (by decide +kernel)) (by decide) ?_
          exact q_retI (mz_fe (e := (66, .ireturn, 1, (0, 0, 0), [])) (by decide +kernel)) (by decide +kernel)
        · refine q_o (mz_fe (e := (41, .aload_n 0, 1, (0, 0, 0), [])) (by decide +kernel)) (pc2 := 42) rfl ?_
          refine q_getR (b := 4) (mz_fe (e := (42, .getfield 19, 91, (11, 1, 2), [])) (by decide +kernel)) rfl tg_1 (by rw [ln_1]; decide) (mz_rfS (by decide +kernel)) ?_
          refine q_o (mz_fe (e := (45, .iload_n 1, 1, (0, 0, 0), [])) (by decide +kernel)) (pc2 := 46) rfl ?_
          refine q_o (mz_fe (e := (46, .aload_n 0, 1, (0, 0, 0), [])) (by decide +kernel)) (pc2 := 47) rfl ?_
          refine q_getR (b := 29) (mz_fe (e := (47, .getfield 47, 95, (11, 5, 2), [])) (by decide +kernel)) rfl tg_1 (by rw [ln_1]; decide) (mz_rfS (by decide +kernel)) ?_
          refine q_getI (mz_fe (e := (50, .getfield 160, 108, (6, 3, 0), [])) (by decide +kernel)) rfl (by decide) (st_t (by decide : mz_isS 29 = true)) (by rw [(st_l (by decide : mz_isS 29 = true))]; decide) ?_
          refine q_callI (N := 87) (vs := [.ref 4, .int x0, .int (mz_rd m 29 3)]) (rest := []) (L' := [some (.ref 1), some (.int x0), some (.int x1)]) (f := fun v6 m5 => if v6 = 0 then (some (0, m5)) else (some (1, m5))) rfl (mz_fe (e := (53, .invokevirtual 163, 121, (87, 3, 14), [])) (by decide +kernel)) rfl (mz_inv_virt (N := 87) (k := 3) (t := 14) (st := [.int (mz_rd m 29 3), .int x0, .ref 4]) (rest := []) (b := 4) (vs := [.int x0, .int (mz_rd m 29 3)]) (h := (mz_S0, m)) rfl rfl (Nat.le_of_ble_eq_true rfl) (Nat.le_of_ble_eq_true rfl) tg_4 (by decide)) (mz_dc_lt (n := 3) rfl (by decide +kernel) (by decide +kernel)) (by decide +kernel) (Or.inr (by decide +kernel)) (fun v6 m5 => ?_)
          refine q_if (c := .eq) (off := 7) (t := 63) (x := v6) (y := 0) (st := []) (mz_fe (e := (56, .ifCond .eq 7, 3, (0, 0, 0), [])) (by decide +kernel)) (fun _ => rfl) rfl rfl rfl (fun c8 => ?_) (fun c8 => ?_)
          · refine q_ic (v := 0) (mz_fe (e := (63, .iconst 0, 1, (0, 0, 0), [])) (by decide +kernel)) (by decide) ?_
            exact q_retI (mz_fe (e := (64, .ireturn, 1, (0, 0, 0), [])) (by decide +kernel)) (by decide +kernel)
          · refine q_ic (v := 1) (mz_fe (e := (59, .iconst 1, 1, (0, 0, 0), [])) (by decide +kernel)) (by decide) ?_
            refine q_o (mz_fe (e := (60, .goto 4, 3, (0, 0, 0), [])) (by decide +kernel)) (pc2 := 64) rfl ?_
            exact q_retI (mz_fe (e := (64, .ireturn, 1, (0, 0, 0), [])) (by decide +kernel)) (by decide +kernel)
      · refine q_o (mz_fe (e := (21, .iload_n 2, 1, (0, 0, 0), [])) (by decide +kernel)) (pc2 := 22) rfl ?_
        refine q_ic (v := 4) (mz_fe (e := (22, .iconst 4, 1, (0, 0, 0), [])) (by decide +kernel)) (by decide) ?_
        refine q_if (c := .ge) (off := 13) (t := 36) (x := x1) (y := 4) (st := []) (mz_fe (e := (23, .if_icmp .ge 13, 3, (0, 0, 0), [])) (by decide +kernel)) (fun _ => rfl) rfl rfl rfl (fun c9 => ?_) (fun c9 => ?_)
        · refine q_o (mz_fe (e := (36, .iload_n 2, 1, (0, 0, 0), [])) (by decide +kernel)) (pc2 := 37) rfl ?_
          refine q_ic (v := 4) (mz_fe (e := (37, .iconst 4, 1, (0, 0, 0), [])) (by decide +kernel)) (by decide) ?_
          refine q_if (c := .ne) (off := 27) (t := 65) (x := x1) (y := 4) (st := []) (mz_fe (e := (38, .if_icmp .ne 27, 3, (0, 0, 0), [])) (by decide +kernel)) (fun _ => rfl) rfl rfl rfl (fun c10 => ?_) (fun c10 => ?_)
          · refine q_ic (v := (-1)) (mz_fe (e := (65, .iconst (-1), 1, (0, 0, 0), [])) (by decide +kernel)) (by decide) ?_
            exact q_retI (mz_fe (e := (66, .ireturn, 1, (0, 0, 0), [])) (by decide +kernel)) (by decide +kernel)
          · refine q_o (mz_fe (e := (41, .aload_n 0, 1, (0, 0, 0), [])) (by decide +kernel)) (pc2 := 42) rfl ?_
            refine q_getR (b := 4) (mz_fe (e := (42, .getfield 19, 91, (11, 1, 2), [])) (by decide +kernel)) rfl tg_1 (by rw [ln_1]; decide) (mz_rfS (by decide +kernel)) ?_
            refine q_o (mz_fe (e := (45, .iload_n 1, 1, (0, 0, 0), [])) (by decide +kernel)) (pc2 := 46) rfl ?_
            refine q_o (mz_fe (e := (46, .aload_n 0, 1, (0, 0, 0), [])) (by decide +kernel)) (pc2 := 47) rfl ?_
            refine q_getR (b := 29) (mz_fe (e := (47, .getfield 47, 95, (11, 5, 2), [])) (by decide +kernel)) rfl tg_1 (by rw [ln_1]; decide) (mz_rfS (by decide +kernel)) ?_
            refine q_getI (mz_fe (e := (50, .getfield 160, 108, (6, 3, 0), [])) (by decide +kernel)) rfl (by decide) (st_t (by decide : mz_isS 29 = true)) (by rw [(st_l (by decide : mz_isS 29 = true))]; decide) ?_
            refine q_callI (N := 87) (vs := [.ref 4, .int x0, .int (mz_rd m 29 3)]) (rest := []) (L' := [some (.ref 1), some (.int x0), some (.int x1)]) (f := fun v12 m11 => if v12 = 0 then (some (0, m11)) else (some (1, m11))) rfl (mz_fe (e := (53, .invokevirtual 163, 121, (87, 3, 14), [])) (by decide +kernel)) rfl (mz_inv_virt (N := 87) (k := 3) (t := 14) (st := [.int (mz_rd m 29 3), .int x0, .ref 4]) (rest := []) (b := 4) (vs := [.int x0, .int (mz_rd m 29 3)]) (h := (mz_S0, m)) rfl rfl (Nat.le_of_ble_eq_true rfl) (Nat.le_of_ble_eq_true rfl) tg_4 (by decide)) (mz_dc_lt (n := 3) rfl (by decide +kernel) (by decide +kernel)) (by decide +kernel) (Or.inr (by decide +kernel)) (fun v12 m11 => ?_)
            refine q_if (c := .eq) (off := 7) (t := 63) (x := v12) (y := 0) (st := []) (mz_fe (e := (56, .ifCond .eq 7, 3, (0, 0, 0), [])) (by decide +kernel)) (fun _ => rfl) rfl rfl rfl (fun c14 => ?_) (fun c14 => ?_)
            · refine q_ic (v := 0) (mz_fe (e := (63, .iconst 0, 1, (0, 0, 0), [])) (by decide +kernel)) (by decide) ?_
              exact q_retI (mz_fe (e := (64, .ireturn, 1, (0, 0, 0), [])) (by decide +kernel)) (by decide +kernel)
            · refine q_ic (v := 1) (mz_fe (e := (59, .iconst 1, 1, (0, 0, 0), [])) (by decide +kernel)) (by decide) ?_
              refine q_o (mz_fe (e := (60, .goto 4, 3, (0, 0, 0), [])) (by decide +kernel)) (pc2 := 64) rfl ?_
              exact q_retI (mz_fe (e := (64, .ireturn, 1, (0, 0, 0), [])) (by decide +kernel)) (by decide +kernel)
        · refine q_o (mz_fe (e := (26, .aload_n 0, 1, (0, 0, 0), [])) (by decide +kernel)) (pc2 := 27) rfl ?_
          refine q_getR (b := 4) (mz_fe (e := (27, .getfield 19, 91, (11, 1, 2), [])) (by decide +kernel)) rfl tg_1 (by rw [ln_1]; decide) (mz_rfS (by decide +kernel)) ?_
          refine q_o (mz_fe (e := (30, .iload_n 1, 1, (0, 0, 0), [])) (by decide +kernel)) (pc2 := 31) rfl ?_
          refine q_o (mz_fe (e := (31, .iload_n 2, 1, (0, 0, 0), [])) (by decide +kernel)) (pc2 := 32) rfl ?_
          refine q_callI (N := 86) (vs := [.ref 4, .int x0, .int x1]) (rest := []) (L' := [some (.ref 1), some (.int x0), some (.int x1)]) (f := fun v16 m15 => some (v16, m15)) rfl (mz_fe (e := (32, .invokevirtual 157, 120, (86, 3, 14), [])) (by decide +kernel)) rfl (mz_inv_virt (N := 86) (k := 3) (t := 14) (st := [.int x1, .int x0, .ref 4]) (rest := []) (b := 4) (vs := [.int x0, .int x1]) (h := (mz_S0, m)) rfl rfl (Nat.le_of_ble_eq_true rfl) (Nat.le_of_ble_eq_true rfl) tg_4 (by decide)) (mz_dc_lt (n := 3) rfl (by decide +kernel) (by decide +kernel)) (by decide +kernel) (Or.inl (by decide +kernel)) (fun v16 m15 => ?_)
          exact q_retI (mz_fe (e := (35, .ireturn, 1, (0, 0, 0), [])) (by decide +kernel)) (by decide +kernel)
    · refine q_ic (v := (-1)) (mz_fe (e := (15, .iconst (-1), 1, (0, 0, 0), [])) (by decide +kernel)) (by decide) ?_
      exact q_retI (mz_fe (e := (16, .ireturn, 1, (0, 0, 0), [])) (by decide +kernel)) (by decide +kernel)
set_option maxRecDepth 10000 in
theorem R_X11_tells_eq (d : Nat) (x0 : Int32) (x1 : Int32) (x2 : Int32) (m : MzM)  : R_X11_tells d x0 x1 x2 m = (R_X11_areTwo d x0 x1 m).bind (fun u3 => if ¬ u3.1 = 0 then ((R_X11_isStuff d (x2 - 4) u3.2).bind (fun u7 => if u7.1 = 0 then (if x2 = 0 then ((R_X3_quarrel d 29 x0 x1 u7.2).bind (fun u12 => if u12.1 = 0 then (some (0, u12.2)) else (some (1, u12.2)))) else if x2 = 1 then ((R_X6_apart d 29 x0 x1 u7.2).bind (fun u17 => some (u17.1, u17.2))) else if x2 = 2 then ((R_X3_wear d 2 29 x0 x1 u7.2).bind (fun u21 => some (u21.1, u21.2))) else if x2 = 3 then ((R_X3_wear d 3 29 x0 x1 u7.2).bind (fun u25 => some (u25.1, u25.2))) else (some ((-1), u7.2))) else ((R_X3_staying d 29 x0 x1 (x2 - 4) u7.2).bind (fun u28 => some (u28.1, u28.2))))) else (some ((-1), u3.2))) := by
  show mz_cI (mz_T d 124 0 (mz_en (mz_xl 124) [.ref 1, .int x0, .int x1, .int x2]) [] m) = _
  rw [show mz_en (mz_xl 124) [.ref 1, .int x0, .int x1, .int x2] = [some (.ref 1), some (.int x0), some (.int x1), some (.int x2)] from by rw [show mz_xl 124 = 4 from by decide +kernel]; rfl]
  refine q_o (mz_fe (e := (0, .aload_n 0, 1, (0, 0, 0), [])) (by decide +kernel)) (pc2 := 1) rfl ?_
  refine q_o (mz_fe (e := (1, .iload_n 1, 1, (0, 0, 0), [])) (by decide +kernel)) (pc2 := 2) rfl ?_
  refine q_o (mz_fe (e := (2, .iload_n 2, 1, (0, 0, 0), [])) (by decide +kernel)) (pc2 := 3) rfl ?_
  refine q_callI (N := 166) (vs := [.ref 1, .int x0, .int x1]) (rest := []) (L' := [some (.ref 1), some (.int x0), some (.int x1), some (.int x2)]) (f := fun v2 m1 => if ¬ v2 = 0 then ((R_X11_isStuff d (x2 - 4) m1).bind (fun u7 => if u7.1 = 0 then (if x2 = 0 then ((R_X3_quarrel d 29 x0 x1 u7.2).bind (fun u12 => if u12.1 = 0 then (some (0, u12.2)) else (some (1, u12.2)))) else if x2 = 1 then ((R_X6_apart d 29 x0 x1 u7.2).bind (fun u17 => some (u17.1, u17.2))) else if x2 = 2 then ((R_X3_wear d 2 29 x0 x1 u7.2).bind (fun u21 => some (u21.1, u21.2))) else if x2 = 3 then ((R_X3_wear d 3 29 x0 x1 u7.2).bind (fun u25 => some (u25.1, u25.2))) else (some ((-1), u7.2))) else ((R_X3_staying d 29 x0 x1 (x2 - 4) u7.2).bind (fun u28 => some (u28.1, u28.2))))) else (some ((-1), m1))) rfl (mz_fe (e := (3, .invokevirtual 167, 122, (166, 3, 17), [])) (by decide +kernel)) rfl (mz_inv_virt (N := 166) (k := 3) (t := 17) (st := [.int x1, .int x0, .ref 1]) (rest := []) (b := 1) (vs := [.int x0, .int x1]) (h := (mz_S0, m)) rfl rfl (Nat.le_of_ble_eq_true rfl) (Nat.le_of_ble_eq_true rfl) tg_1 (by decide)) (mz_dc_lt (n := 3) rfl (by decide +kernel) (by decide +kernel)) (by decide +kernel) (Or.inr (by decide +kernel)) (fun v2 m1 => ?_)
  refine q_if (c := .ne) (off := 5) (t := 11) (x := v2) (y := 0) (st := []) (mz_fe (e := (6, .ifCond .ne 5, 3, (0, 0, 0), [])) (by decide +kernel)) (fun _ => rfl) rfl rfl rfl (fun c4 => ?_) (fun c4 => ?_)
  · refine q_o (mz_fe (e := (11, .iload_n 3, 1, (0, 0, 0), [])) (by decide +kernel)) (pc2 := 12) rfl ?_
    refine q_ic (v := 4) (mz_fe (e := (12, .iconst 4, 1, (0, 0, 0), [])) (by decide +kernel)) (by decide) ?_
    refine q_o (mz_fe (e := (13, .isub, 1, (0, 0, 0), [])) (by decide +kernel)) (pc2 := 14) rfl ?_
    refine q_callI (N := 167) (vs := [.int (x2 - 4)]) (rest := []) (L' := [some (.ref 1), some (.int x0), some (.int x1), some (.int x2)]) (f := fun v6 m5 => if v6 = 0 then (if x2 = 0 then ((R_X3_quarrel d 29 x0 x1 m5).bind (fun u12 => if u12.1 = 0 then (some (0, u12.2)) else (some (1, u12.2)))) else if x2 = 1 then ((R_X6_apart d 29 x0 x1 m5).bind (fun u17 => some (u17.1, u17.2))) else if x2 = 2 then ((R_X3_wear d 2 29 x0 x1 m5).bind (fun u21 => some (u21.1, u21.2))) else if x2 = 3 then ((R_X3_wear d 3 29 x0 x1 m5).bind (fun u25 => some (u25.1, u25.2))) else (some ((-1), m5))) else ((R_X3_staying d 29 x0 x1 (x2 - 4) m5).bind (fun u28 => some (u28.1, u28.2)))) rfl (mz_fe (e := (14, .invokestatic 132, 116, (167, 1, 1000), [])) (by decide +kernel)) rfl (mz_inv_stat (N := 167) (k := 1) (st := [.int (x2 - 4)]) (rest := []) (vs := [.int (x2 - 4)]) (h := (mz_S0, m1)) rfl rfl (Nat.le_of_ble_eq_true rfl) (Nat.le_of_ble_eq_true rfl)) (mz_dc_lt (n := 1) rfl (by decide +kernel) (by decide +kernel)) (by decide +kernel) (Or.inr (by decide +kernel)) (fun v6 m5 => ?_)
    refine q_if (c := .eq) (off := 20) (t := 37) (x := v6) (y := 0) (st := []) (mz_fe (e := (17, .ifCond .eq 20, 3, (0, 0, 0), [])) (by decide +kernel)) (fun _ => rfl) rfl rfl rfl (fun c8 => ?_) (fun c8 => ?_)
    · refine q_o (mz_fe (e := (37, .iload_n 3, 1, (0, 0, 0), [])) (by decide +kernel)) (pc2 := 38) rfl ?_
      refine mz_ite (P := x2 = 0) (fun c9 => ?_) (fun c9 => ?_)
      · refine q_sw (t := 68) (st := []) (mz_fe (e := (38, .tableswitch 92 0 3 #[30, 52, 62, 77], 30, (0, 0, 0), [])) (by decide +kernel)) rfl (by rw [c9]; decide +kernel) ?_
        refine q_o (mz_fe (e := (68, .aload_n 0, 1, (0, 0, 0), [])) (by decide +kernel)) (pc2 := 69) rfl ?_
        refine q_getR (b := 27) (mz_fe (e := (69, .getfield 40, 94, (11, 4, 2), [])) (by decide +kernel)) rfl tg_1 (by rw [ln_1]; decide) (mz_rfS (by decide +kernel)) ?_
        refine q_o (mz_fe (e := (72, .aload_n 0, 1, (0, 0, 0), [])) (by decide +kernel)) (pc2 := 73) rfl ?_
        refine q_getR (b := 29) (mz_fe (e := (73, .getfield 47, 95, (11, 5, 2), [])) (by decide +kernel)) rfl tg_1 (by rw [ln_1]; decide) (mz_rfS (by decide +kernel)) ?_
        refine q_o (mz_fe (e := (76, .iload_n 1, 1, (0, 0, 0), [])) (by decide +kernel)) (pc2 := 77) rfl ?_
        refine q_o (mz_fe (e := (77, .iload_n 2, 1, (0, 0, 0), [])) (by decide +kernel)) (pc2 := 78) rfl ?_
        refine q_callI (N := 28) (vs := [.ref 27, .ref 29, .int x0, .int x1]) (rest := []) (L' := [some (.ref 1), some (.int x0), some (.int x1), some (.int x2)]) (f := fun v11 m10 => if v11 = 0 then (some (0, m10)) else (some (1, m10))) rfl (mz_fe (e := (78, .invokevirtual 174, 124, (28, 4, 9), [])) (by decide +kernel)) rfl (mz_inv_virt (N := 28) (k := 4) (t := 9) (st := [.int x1, .int x0, .ref 29, .ref 27]) (rest := []) (b := 27) (vs := [.ref 29, .int x0, .int x1]) (h := (mz_S0, m5)) rfl rfl (Nat.le_of_ble_eq_true rfl) (Nat.le_of_ble_eq_true rfl) tg_27 (by decide)) (mz_dc_lt (n := 4) rfl (by decide +kernel) (by decide +kernel)) (by decide +kernel) (Or.inr (by decide +kernel)) (fun v11 m10 => ?_)
        refine q_if (c := .eq) (off := 7) (t := 88) (x := v11) (y := 0) (st := []) (mz_fe (e := (81, .ifCond .eq 7, 3, (0, 0, 0), [])) (by decide +kernel)) (fun _ => rfl) rfl rfl rfl (fun c13 => ?_) (fun c13 => ?_)
        · refine q_ic (v := 0) (mz_fe (e := (88, .iconst 0, 1, (0, 0, 0), [])) (by decide +kernel)) (by decide) ?_
          exact q_retI (mz_fe (e := (89, .ireturn, 1, (0, 0, 0), [])) (by decide +kernel)) (by decide +kernel)
        · refine q_ic (v := 1) (mz_fe (e := (84, .iconst 1, 1, (0, 0, 0), [])) (by decide +kernel)) (by decide) ?_
          refine q_o (mz_fe (e := (85, .goto 4, 3, (0, 0, 0), [])) (by decide +kernel)) (pc2 := 89) rfl ?_
          exact q_retI (mz_fe (e := (89, .ireturn, 1, (0, 0, 0), [])) (by decide +kernel)) (by decide +kernel)
      refine mz_ite (P := x2 = 1) (fun c14 => ?_) (fun c14 => ?_)
      · refine q_sw (t := 90) (st := []) (mz_fe (e := (38, .tableswitch 92 0 3 #[30, 52, 62, 77], 30, (0, 0, 0), [])) (by decide +kernel)) rfl (by rw [c14]; decide +kernel) ?_
        refine q_o (mz_fe (e := (90, .aload_n 0, 1, (0, 0, 0), [])) (by decide +kernel)) (pc2 := 91) rfl ?_
        refine q_getR (b := 29) (mz_fe (e := (91, .getfield 47, 95, (11, 5, 2), [])) (by decide +kernel)) rfl tg_1 (by rw [ln_1]; decide) (mz_rfS (by decide +kernel)) ?_
        refine q_o (mz_fe (e := (94, .iload_n 1, 1, (0, 0, 0), [])) (by decide +kernel)) (pc2 := 95) rfl ?_
        refine q_o (mz_fe (e := (95, .iload_n 2, 1, (0, 0, 0), [])) (by decide +kernel)) (pc2 := 96) rfl ?_
        refine q_callI (N := 76) (vs := [.ref 29, .int x0, .int x1]) (rest := []) (L' := [some (.ref 1), some (.int x0), some (.int x1), some (.int x2)]) (f := fun v16 m15 => some (v16, m15)) rfl (mz_fe (e := (96, .invokevirtual 178, 125, (76, 3, 12), [])) (by decide +kernel)) rfl (mz_inv_virt (N := 76) (k := 3) (t := 12) (st := [.int x1, .int x0, .ref 29]) (rest := []) (b := 29) (vs := [.int x0, .int x1]) (h := (mz_S0, m5)) rfl rfl (Nat.le_of_ble_eq_true rfl) (Nat.le_of_ble_eq_true rfl) (st_t (by decide : mz_isS 29 = true)) (by decide)) (mz_dc_lt (n := 3) rfl (by decide +kernel) (by decide +kernel)) (by decide +kernel) (Or.inl (by decide +kernel)) (fun v16 m15 => ?_)
        exact q_retI (mz_fe (e := (99, .ireturn, 1, (0, 0, 0), [])) (by decide +kernel)) (by decide +kernel)
      refine mz_ite (P := x2 = 2) (fun c18 => ?_) (fun c18 => ?_)
      · refine q_sw (t := 100) (st := []) (mz_fe (e := (38, .tableswitch 92 0 3 #[30, 52, 62, 77], 30, (0, 0, 0), [])) (by decide +kernel)) rfl (by rw [c18]; decide +kernel) ?_
        refine q_o (mz_fe (e := (100, .aload_n 0, 1, (0, 0, 0), [])) (by decide +kernel)) (pc2 := 101) rfl ?_
        refine q_getR (b := 27) (mz_fe (e := (101, .getfield 40, 94, (11, 4, 2), [])) (by decide +kernel)) rfl tg_1 (by rw [ln_1]; decide) (mz_rfS (by decide +kernel)) ?_
        refine q_ic (v := 2) (mz_fe (e := (104, .iconst 2, 1, (0, 0, 0), [])) (by decide +kernel)) (by decide) ?_
        refine q_o (mz_fe (e := (105, .aload_n 0, 1, (0, 0, 0), [])) (by decide +kernel)) (pc2 := 106) rfl ?_
        refine q_getR (b := 29) (mz_fe (e := (106, .getfield 47, 95, (11, 5, 2), [])) (by decide +kernel)) rfl tg_1 (by rw [ln_1]; decide) (mz_rfS (by decide +kernel)) ?_
        refine q_o (mz_fe (e := (109, .iload_n 1, 1, (0, 0, 0), [])) (by decide +kernel)) (pc2 := 110) rfl ?_
        refine q_o (mz_fe (e := (110, .iload_n 2, 1, (0, 0, 0), [])) (by decide +kernel)) (pc2 := 111) rfl ?_
        refine q_callI (N := 29) (vs := [.ref 27, .int 2, .ref 29, .int x0, .int x1]) (rest := []) (L' := [some (.ref 1), some (.int x0), some (.int x1), some (.int x2)]) (f := fun v20 m19 => some (v20, m19)) rfl (mz_fe (e := (111, .invokevirtual 183, 126, (29, 5, 9), [])) (by decide +kernel)) rfl (mz_inv_virt (N := 29) (k := 5) (t := 9) (st := [.int x1, .int x0, .ref 29, .int 2, .ref 27]) (rest := []) (b := 27) (vs := [.int 2, .ref 29, .int x0, .int x1]) (h := (mz_S0, m5)) rfl rfl (Nat.le_of_ble_eq_true rfl) (Nat.le_of_ble_eq_true rfl) tg_27 (by decide)) (mz_dc_lt (n := 5) rfl (by decide +kernel) (by decide +kernel)) (by decide +kernel) (Or.inl (by decide +kernel)) (fun v20 m19 => ?_)
        exact q_retI (mz_fe (e := (114, .ireturn, 1, (0, 0, 0), [])) (by decide +kernel)) (by decide +kernel)
      refine mz_ite (P := x2 = 3) (fun c22 => ?_) (fun c22 => ?_)
      · refine q_sw (t := 115) (st := []) (mz_fe (e := (38, .tableswitch 92 0 3 #[30, 52, 62, 77], 30, (0, 0, 0), [])) (by decide +kernel)) rfl (by rw [c22]; decide +kernel) ?_
        refine q_o (mz_fe (e := (115, .aload_n 0, 1, (0, 0, 0), [])) (by decide +kernel)) (pc2 := 116) rfl ?_
        refine q_getR (b := 27) (mz_fe (e := (116, .getfield 40, 94, (11, 4, 2), [])) (by decide +kernel)) rfl tg_1 (by rw [ln_1]; decide) (mz_rfS (by decide +kernel)) ?_
        refine q_ic (v := 3) (mz_fe (e := (119, .iconst 3, 1, (0, 0, 0), [])) (by decide +kernel)) (by decide) ?_
        refine q_o (mz_fe (e := (120, .aload_n 0, 1, (0, 0, 0), [])) (by decide +kernel)) (pc2 := 121) rfl ?_
        refine q_getR (b := 29) (mz_fe (e := (121, .getfield 47, 95, (11, 5, 2), [])) (by decide +kernel)) rfl tg_1 (by rw [ln_1]; decide) (mz_rfS (by decide +kernel)) ?_
        refine q_o (mz_fe (e := (124, .iload_n 1, 1, (0, 0, 0), [])) (by decide +kernel)) (pc2 := 125) rfl ?_
        refine q_o (mz_fe (e := (125, .iload_n 2, 1, (0, 0, 0), [])) (by decide +kernel)) (pc2 := 126) rfl ?_
        refine q_callI (N := 29) (vs := [.ref 27, .int 3, .ref 29, .int x0, .int x1]) (rest := []) (L' := [some (.ref 1), some (.int x0), some (.int x1), some (.int x2)]) (f := fun v24 m23 => some (v24, m23)) rfl (mz_fe (e := (126, .invokevirtual 183, 126, (29, 5, 9), [])) (by decide +kernel)) rfl (mz_inv_virt (N := 29) (k := 5) (t := 9) (st := [.int x1, .int x0, .ref 29, .int 3, .ref 27]) (rest := []) (b := 27) (vs := [.int 3, .ref 29, .int x0, .int x1]) (h := (mz_S0, m5)) rfl rfl (Nat.le_of_ble_eq_true rfl) (Nat.le_of_ble_eq_true rfl) tg_27 (by decide)) (mz_dc_lt (n := 5) rfl (by decide +kernel) (by decide +kernel)) (by decide +kernel) (Or.inl (by decide +kernel)) (fun v24 m23 => ?_)
        exact q_retI (mz_fe (e := (129, .ireturn, 1, (0, 0, 0), [])) (by decide +kernel)) (by decide +kernel)
      refine q_sw (t := 130) (st := []) (mz_fe (e := (38, .tableswitch 92 0 3 #[30, 52, 62, 77], 30, (0, 0, 0), [])) (by decide +kernel)) rfl (mz_swd [0, 1, 2, 3] (by decide +kernel) (List.forall_mem_cons.mpr ⟨c9, (List.forall_mem_cons.mpr ⟨c14, (List.forall_mem_cons.mpr ⟨c18, (List.forall_mem_cons.mpr ⟨c22, (fun _ z => absurd z List.not_mem_nil)⟩)⟩)⟩)⟩)) ?_
      refine q_ic (v := (-1)) (mz_fe (e := (130, .iconst (-1), 1, (0, 0, 0), [])) (by decide +kernel)) (by decide) ?_
      exact q_retI (mz_fe (e := (131, .ireturn, 1, (0, 0, 0), [])) (by decide +kernel)) (by decide +kernel)
    · refine q_o (mz_fe (e := (20, .aload_n 0, 1, (0, 0, 0), [])) (by decide +kernel)) (pc2 := 21) rfl ?_
      refine q_getR (b := 27) (mz_fe (e := (21, .getfield 40, 94, (11, 4, 2), [])) (by decide +kernel)) rfl tg_1 (by rw [ln_1]; decide) (mz_rfS (by decide +kernel)) ?_
      refine q_o (mz_fe (e := (24, .aload_n 0, 1, (0, 0, 0), [])) (by decide +kernel)) (pc2 := 25) rfl ?_
      refine q_getR (b := 29) (mz_fe (e := (25, .getfield 47, 95, (11, 5, 2), [])) (by decide +kernel)) rfl tg_1 (by rw [ln_1]; decide) (mz_rfS (by decide +kernel)) ?_
      refine q_o (mz_fe (e := (28, .iload_n 1, 1, (0, 0, 0), [])) (by decide +kernel)) (pc2 := 29) rfl ?_
      refine q_o (mz_fe (e := (29, .iload_n 2, 1, (0, 0, 0), [])) (by decide +kernel)) (pc2 := 30) rfl ?_
      refine q_o (mz_fe (e := (30, .iload_n 3, 1, (0, 0, 0), [])) (by decide +kernel)) (pc2 := 31) rfl ?_
      refine q_ic (v := 4) (mz_fe (e := (31, .iconst 4, 1, (0, 0, 0), [])) (by decide +kernel)) (by decide) ?_
      refine q_o (mz_fe (e := (32, .isub, 1, (0, 0, 0), [])) (by decide +kernel)) (pc2 := 33) rfl ?_
      refine q_callI (N := 31) (vs := [.ref 27, .ref 29, .int x0, .int x1, .int (x2 - 4)]) (rest := []) (L' := [some (.ref 1), some (.int x0), some (.int x1), some (.int x2)]) (f := fun v27 m26 => some (v27, m26)) rfl (mz_fe (e := (33, .invokevirtual 170, 123, (31, 5, 9), [])) (by decide +kernel)) rfl (mz_inv_virt (N := 31) (k := 5) (t := 9) (st := [.int (x2 - 4), .int x1, .int x0, .ref 29, .ref 27]) (rest := []) (b := 27) (vs := [.ref 29, .int x0, .int x1, .int (x2 - 4)]) (h := (mz_S0, m5)) rfl rfl (Nat.le_of_ble_eq_true rfl) (Nat.le_of_ble_eq_true rfl) tg_27 (by decide)) (mz_dc_lt (n := 5) rfl (by decide +kernel) (by decide +kernel)) (by decide +kernel) (Or.inl (by decide +kernel)) (fun v27 m26 => ?_)
      exact q_retI (mz_fe (e := (36, .ireturn, 1, (0, 0, 0), [])) (by decide +kernel)) (by decide +kernel)
  · refine q_ic (v := (-1)) (mz_fe (e := (9, .iconst (-1), 1, (0, 0, 0), [])) (by decide +kernel)) (by decide) ?_
    exact q_retI (mz_fe (e := (10, .ireturn, 1, (0, 0, 0), [])) (by decide +kernel)) (by decide +kernel)
set_option maxRecDepth 10000 in
theorem R_X11_count_eq (d : Nat) (x0 : Int32) (m : MzM)  : R_X11_count d x0 m = if x0 = 0 then (some ((mz_rd m 4 4), m)) else if x0 = 1 then (some ((mz_rd m 4 5), m)) else if x0 = 2 then (some ((mz_rd m 29 3), m)) else if x0 = 3 then (some ((mz_rd m 29 4), m)) else if x0 = 4 then (some ((mz_rd m 29 5), m)) else if x0 = 5 then (some ((mz_rd m 29 6), m)) else if x0 = 6 then ((R_X6_inScrew d 29 m).bind (fun u10 => some (u10.1, u10.2))) else if x0 = 7 then (some ((mz_rd m 29 7), m)) else if x0 = 8 then (some ((mz_rd m 2 1), m)) else if x0 = 9 then (some ((mz_rd m 37 2), m)) else if x0 = 10 then (some ((mz_rd m 222 6), m)) else if x0 = 11 then ((R_X11_heldSlots d  m).bind (fun u18 => some (u18.1, u18.2))) else if x0 = 12 then ((R_X8_isThumb d 4 (mz_rd m 4 8) (mz_rd m 29 3) m).bind (fun u22 => if u22.1 = 0 then (some (0, u22.2)) else (some (1, u22.2)))) else if x0 = 13 then ((R_X11_ofAllPeople d  m).bind (fun u27 => some (u27.1, u27.2))) else if x0 = 14 then ((R_X3_whoQuarrels d 29 m).bind (fun u31 => some (u31.1, u31.2))) else if x0 = 15 then ((R_X11_stuffsInScrew d  m).bind (fun u35 => some (u35.1, u35.2))) else if x0 = 16 then ((R_X11_suitsDue d  m).bind (fun u39 => some (u39.1, u39.2))) else (some ((-1), m)) := by
  show mz_cI (mz_T d 125 0 (mz_en (mz_xl 125) [.ref 1, .int x0]) [] m) = _
  rw [show mz_en (mz_xl 125) [.ref 1, .int x0] = [some (.ref 1), some (.int x0)] from by rw [show mz_xl 125 = 2 from by decide +kernel]; rfl]
  refine q_o (mz_fe (e := (0, .iload_n 1, 1, (0, 0, 0), [])) (by decide +kernel)) (pc2 := 1) rfl ?_
  refine mz_ite (P := x0 = 0) (fun c1 => ?_) (fun c1 => ?_)
  · refine q_sw (t := 84) (st := []) (mz_fe (e := (1, .tableswitch 233 0 16 #[83, 91, 99, 107, 115, 123, 131, 139, 147, 155, 163, 171, 176, 206, 211, 223, 228], 83, (0, 0, 0), [])) (by decide +kernel)) rfl (by rw [c1]; decide +kernel) ?_
    refine q_o (mz_fe (e := (84, .aload_n 0, 1, (0, 0, 0), [])) (by decide +kernel)) (pc2 := 85) rfl ?_
    refine q_getR (b := 4) (mz_fe (e := (85, .getfield 19, 91, (11, 1, 2), [])) (by decide +kernel)) rfl tg_1 (by rw [ln_1]; decide) (mz_rfS (by decide +kernel)) ?_
    refine q_getI (mz_fe (e := (88, .getfield 187, 109, (8, 4, 0), [])) (by decide +kernel)) rfl (by decide) tg_4 (by rw [ln_4]; decide) ?_
    exact q_retI (mz_fe (e := (91, .ireturn, 1, (0, 0, 0), [])) (by decide +kernel)) (by decide +kernel)
  refine mz_ite (P := x0 = 1) (fun c2 => ?_) (fun c2 => ?_)
  · refine q_sw (t := 92) (st := []) (mz_fe (e := (1, .tableswitch 233 0 16 #[83, 91, 99, 107, 115, 123, 131, 139, 147, 155, 163, 171, 176, 206, 211, 223, 228], 83, (0, 0, 0), [])) (by decide +kernel)) rfl (by rw [c2]; decide +kernel) ?_
    refine q_o (mz_fe (e := (92, .aload_n 0, 1, (0, 0, 0), [])) (by decide +kernel)) (pc2 := 93) rfl ?_
    refine q_getR (b := 4) (mz_fe (e := (93, .getfield 19, 91, (11, 1, 2), [])) (by decide +kernel)) rfl tg_1 (by rw [ln_1]; decide) (mz_rfS (by decide +kernel)) ?_
    refine q_getI (mz_fe (e := (96, .getfield 154, 107, (8, 5, 0), [])) (by decide +kernel)) rfl (by decide) tg_4 (by rw [ln_4]; decide) ?_
    exact q_retI (mz_fe (e := (99, .ireturn, 1, (0, 0, 0), [])) (by decide +kernel)) (by decide +kernel)
  refine mz_ite (P := x0 = 2) (fun c3 => ?_) (fun c3 => ?_)
  · refine q_sw (t := 100) (st := []) (mz_fe (e := (1, .tableswitch 233 0 16 #[83, 91, 99, 107, 115, 123, 131, 139, 147, 155, 163, 171, 176, 206, 211, 223, 228], 83, (0, 0, 0), [])) (by decide +kernel)) rfl (by rw [c3]; decide +kernel) ?_
    refine q_o (mz_fe (e := (100, .aload_n 0, 1, (0, 0, 0), [])) (by decide +kernel)) (pc2 := 101) rfl ?_
    refine q_getR (b := 29) (mz_fe (e := (101, .getfield 47, 95, (11, 5, 2), [])) (by decide +kernel)) rfl tg_1 (by rw [ln_1]; decide) (mz_rfS (by decide +kernel)) ?_
    refine q_getI (mz_fe (e := (104, .getfield 160, 108, (6, 3, 0), [])) (by decide +kernel)) rfl (by decide) (st_t (by decide : mz_isS 29 = true)) (by rw [(st_l (by decide : mz_isS 29 = true))]; decide) ?_
    exact q_retI (mz_fe (e := (107, .ireturn, 1, (0, 0, 0), [])) (by decide +kernel)) (by decide +kernel)
  refine mz_ite (P := x0 = 3) (fun c4 => ?_) (fun c4 => ?_)
  · refine q_sw (t := 108) (st := []) (mz_fe (e := (1, .tableswitch 233 0 16 #[83, 91, 99, 107, 115, 123, 131, 139, 147, 155, 163, 171, 176, 206, 211, 223, 228], 83, (0, 0, 0), [])) (by decide +kernel)) rfl (by rw [c4]; decide +kernel) ?_
    refine q_o (mz_fe (e := (108, .aload_n 0, 1, (0, 0, 0), [])) (by decide +kernel)) (pc2 := 109) rfl ?_
    refine q_getR (b := 29) (mz_fe (e := (109, .getfield 47, 95, (11, 5, 2), [])) (by decide +kernel)) rfl tg_1 (by rw [ln_1]; decide) (mz_rfS (by decide +kernel)) ?_
    refine q_getI (mz_fe (e := (112, .getfield 190, 110, (6, 4, 0), [])) (by decide +kernel)) rfl (by decide) (st_t (by decide : mz_isS 29 = true)) (by rw [(st_l (by decide : mz_isS 29 = true))]; decide) ?_
    exact q_retI (mz_fe (e := (115, .ireturn, 1, (0, 0, 0), [])) (by decide +kernel)) (by decide +kernel)
  refine mz_ite (P := x0 = 4) (fun c5 => ?_) (fun c5 => ?_)
  · refine q_sw (t := 116) (st := []) (mz_fe (e := (1, .tableswitch 233 0 16 #[83, 91, 99, 107, 115, 123, 131, 139, 147, 155, 163, 171, 176, 206, 211, 223, 228], 83, (0, 0, 0), [])) (by decide +kernel)) rfl (by rw [c5]; decide +kernel) ?_
    refine q_o (mz_fe (e := (116, .aload_n 0, 1, (0, 0, 0), [])) (by decide +kernel)) (pc2 := 117) rfl ?_
    refine q_getR (b := 29) (mz_fe (e := (117, .getfield 47, 95, (11, 5, 2), [])) (by decide +kernel)) rfl tg_1 (by rw [ln_1]; decide) (mz_rfS (by decide +kernel)) ?_
    refine q_getI (mz_fe (e := (120, .getfield 193, 111, (6, 5, 0), [])) (by decide +kernel)) rfl (by decide) (st_t (by decide : mz_isS 29 = true)) (by rw [(st_l (by decide : mz_isS 29 = true))]; decide) ?_
    exact q_retI (mz_fe (e := (123, .ireturn, 1, (0, 0, 0), [])) (by decide +kernel)) (by decide +kernel)
  refine mz_ite (P := x0 = 5) (fun c6 => ?_) (fun c6 => ?_)
  · refine q_sw (t := 124) (st := []) (mz_fe (e := (1, .tableswitch 233 0 16 #[83, 91, 99, 107, 115, 123, 131, 139, 147, 155, 163, 171, 176, 206, 211, 223, 228], 83, (0, 0, 0), [])) (by decide +kernel)) rfl (by rw [c6]; decide +kernel) ?_
    refine q_o (mz_fe (e := (124, .aload_n 0, 1, (0, 0, 0), [])) (by decide +kernel)) (pc2 := 125) rfl ?_
    refine q_getR (b := 29) (mz_fe (e := (125, .getfield 47, 95, (11, 5, 2), [])) (by decide +kernel)) rfl tg_1 (by rw [ln_1]; decide) (mz_rfS (by decide +kernel)) ?_
    refine q_getI (mz_fe (e := (128, .getfield 196, 112, (6, 6, 0), [])) (by decide +kernel)) rfl (by decide) (st_t (by decide : mz_isS 29 = true)) (by rw [(st_l (by decide : mz_isS 29 = true))]; decide) ?_
    exact q_retI (mz_fe (e := (131, .ireturn, 1, (0, 0, 0), [])) (by decide +kernel)) (by decide +kernel)
  refine mz_ite (P := x0 = 6) (fun c7 => ?_) (fun c7 => ?_)
  · refine q_sw (t := 132) (st := []) (mz_fe (e := (1, .tableswitch 233 0 16 #[83, 91, 99, 107, 115, 123, 131, 139, 147, 155, 163, 171, 176, 206, 211, 223, 228], 83, (0, 0, 0), [])) (by decide +kernel)) rfl (by rw [c7]; decide +kernel) ?_
    refine q_o (mz_fe (e := (132, .aload_n 0, 1, (0, 0, 0), [])) (by decide +kernel)) (pc2 := 133) rfl ?_
    refine q_getR (b := 29) (mz_fe (e := (133, .getfield 47, 95, (11, 5, 2), [])) (by decide +kernel)) rfl tg_1 (by rw [ln_1]; decide) (mz_rfS (by decide +kernel)) ?_
    refine q_callI (N := 75) (vs := [.ref 29]) (rest := []) (L' := [some (.ref 1), some (.int x0)]) (f := fun v9 m8 => some (v9, m8)) rfl (mz_fe (e := (136, .invokevirtual 199, 127, (75, 1, 12), [])) (by decide +kernel)) rfl (mz_inv_virt (N := 75) (k := 1) (t := 12) (st := [.ref 29]) (rest := []) (b := 29) (vs := []) (h := (mz_S0, m)) rfl rfl (Nat.le_of_ble_eq_true rfl) (Nat.le_of_ble_eq_true rfl) (st_t (by decide : mz_isS 29 = true)) (by decide)) (mz_dc_lt (n := 1) rfl (by decide +kernel) (by decide +kernel)) (by decide +kernel) (Or.inl (by decide +kernel)) (fun v9 m8 => ?_)
    exact q_retI (mz_fe (e := (139, .ireturn, 1, (0, 0, 0), [])) (by decide +kernel)) (by decide +kernel)
  refine mz_ite (P := x0 = 7) (fun c11 => ?_) (fun c11 => ?_)
  · refine q_sw (t := 140) (st := []) (mz_fe (e := (1, .tableswitch 233 0 16 #[83, 91, 99, 107, 115, 123, 131, 139, 147, 155, 163, 171, 176, 206, 211, 223, 228], 83, (0, 0, 0), [])) (by decide +kernel)) rfl (by rw [c11]; decide +kernel) ?_
    refine q_o (mz_fe (e := (140, .aload_n 0, 1, (0, 0, 0), [])) (by decide +kernel)) (pc2 := 141) rfl ?_
    refine q_getR (b := 29) (mz_fe (e := (141, .getfield 47, 95, (11, 5, 2), [])) (by decide +kernel)) rfl tg_1 (by rw [ln_1]; decide) (mz_rfS (by decide +kernel)) ?_
    refine q_getI (mz_fe (e := (144, .getfield 202, 113, (6, 7, 0), [])) (by decide +kernel)) rfl (by decide) (st_t (by decide : mz_isS 29 = true)) (by rw [(st_l (by decide : mz_isS 29 = true))]; decide) ?_
    exact q_retI (mz_fe (e := (147, .ireturn, 1, (0, 0, 0), [])) (by decide +kernel)) (by decide +kernel)
  refine mz_ite (P := x0 = 8) (fun c12 => ?_) (fun c12 => ?_)
  · refine q_sw (t := 148) (st := []) (mz_fe (e := (1, .tableswitch 233 0 16 #[83, 91, 99, 107, 115, 123, 131, 139, 147, 155, 163, 171, 176, 206, 211, 223, 228], 83, (0, 0, 0), [])) (by decide +kernel)) rfl (by rw [c12]; decide +kernel) ?_
    refine q_o (mz_fe (e := (148, .aload_n 0, 1, (0, 0, 0), [])) (by decide +kernel)) (pc2 := 149) rfl ?_
    refine q_getR (b := 2) (mz_fe (e := (149, .getfield 10, 90, (11, 0, 2), [])) (by decide +kernel)) rfl tg_1 (by rw [ln_1]; decide) (mz_rfS (by decide +kernel)) ?_
    refine q_getI (mz_fe (e := (152, .getfield 104, 104, (7, 1, 0), [])) (by decide +kernel)) rfl (by decide) tg_2 (by rw [ln_2]; decide) ?_
    exact q_retI (mz_fe (e := (155, .ireturn, 1, (0, 0, 0), [])) (by decide +kernel)) (by decide +kernel)
  refine mz_ite (P := x0 = 9) (fun c13 => ?_) (fun c13 => ?_)
  · refine q_sw (t := 156) (st := []) (mz_fe (e := (1, .tableswitch 233 0 16 #[83, 91, 99, 107, 115, 123, 131, 139, 147, 155, 163, 171, 176, 206, 211, 223, 228], 83, (0, 0, 0), [])) (by decide +kernel)) rfl (by rw [c13]; decide +kernel) ?_
    refine q_o (mz_fe (e := (156, .aload_n 0, 1, (0, 0, 0), [])) (by decide +kernel)) (pc2 := 157) rfl ?_
    refine q_getR (b := 37) (mz_fe (e := (157, .getfield 57, 97, (11, 7, 2), [])) (by decide +kernel)) rfl tg_1 (by rw [ln_1]; decide) (mz_rfS (by decide +kernel)) ?_
    refine q_getI (mz_fe (e := (160, .getfield 205, 114, (1, 2, 0), [])) (by decide +kernel)) rfl (by decide) tg_37 (by rw [ln_37]; decide) ?_
    exact q_retI (mz_fe (e := (163, .ireturn, 1, (0, 0, 0), [])) (by decide +kernel)) (by decide +kernel)
  refine mz_ite (P := x0 = 10) (fun c14 => ?_) (fun c14 => ?_)
  · refine q_sw (t := 164) (st := []) (mz_fe (e := (1, .tableswitch 233 0 16 #[83, 91, 99, 107, 115, 123, 131, 139, 147, 155, 163, 171, 176, 206, 211, 223, 228], 83, (0, 0, 0), [])) (by decide +kernel)) rfl (by rw [c14]; decide +kernel) ?_
    refine q_o (mz_fe (e := (164, .aload_n 0, 1, (0, 0, 0), [])) (by decide +kernel)) (pc2 := 165) rfl ?_
    refine q_getR (b := 222) (mz_fe (e := (165, .getfield 88, 102, (11, 12, 2), [])) (by decide +kernel)) rfl tg_1 (by rw [ln_1]; decide) (mz_rfS (by decide +kernel)) ?_
    refine q_getI (mz_fe (e := (168, .getfield 206, 115, (10, 6, 0), [])) (by decide +kernel)) rfl (by decide) tg_222 (by rw [ln_222]; decide) ?_
    exact q_retI (mz_fe (e := (171, .ireturn, 1, (0, 0, 0), [])) (by decide +kernel)) (by decide +kernel)
  refine mz_ite (P := x0 = 11) (fun c15 => ?_) (fun c15 => ?_)
  · refine q_sw (t := 172) (st := []) (mz_fe (e := (1, .tableswitch 233 0 16 #[83, 91, 99, 107, 115, 123, 131, 139, 147, 155, 163, 171, 176, 206, 211, 223, 228], 83, (0, 0, 0), [])) (by decide +kernel)) rfl (by rw [c15]; decide +kernel) ?_
    refine q_o (mz_fe (e := (172, .aload_n 0, 1, (0, 0, 0), [])) (by decide +kernel)) (pc2 := 173) rfl ?_
    refine q_callI (N := 126) (vs := [.ref 1]) (rest := []) (L' := [some (.ref 1), some (.int x0)]) (f := fun v17 m16 => some (v17, m16)) rfl (mz_fe (e := (173, .invokevirtual 207, 128, (126, 1, 17), [])) (by decide +kernel)) rfl (mz_inv_virt (N := 126) (k := 1) (t := 17) (st := [.ref 1]) (rest := []) (b := 1) (vs := []) (h := (mz_S0, m)) rfl rfl (Nat.le_of_ble_eq_true rfl) (Nat.le_of_ble_eq_true rfl) tg_1 (by decide)) (mz_dc_lt (n := 1) rfl (by decide +kernel) (by decide +kernel)) (by decide +kernel) (Or.inl (by decide +kernel)) (fun v17 m16 => ?_)
    exact q_retI (mz_fe (e := (176, .ireturn, 1, (0, 0, 0), [])) (by decide +kernel)) (by decide +kernel)
  refine mz_ite (P := x0 = 12) (fun c19 => ?_) (fun c19 => ?_)
  · refine q_sw (t := 177) (st := []) (mz_fe (e := (1, .tableswitch 233 0 16 #[83, 91, 99, 107, 115, 123, 131, 139, 147, 155, 163, 171, 176, 206, 211, 223, 228], 83, (0, 0, 0), [])) (by decide +kernel)) rfl (by rw [c19]; decide +kernel) ?_
    refine q_o (mz_fe (e := (177, .aload_n 0, 1, (0, 0, 0), [])) (by decide +kernel)) (pc2 := 178) rfl ?_
    refine q_getR (b := 4) (mz_fe (e := (178, .getfield 19, 91, (11, 1, 2), [])) (by decide +kernel)) rfl tg_1 (by rw [ln_1]; decide) (mz_rfS (by decide +kernel)) ?_
    refine q_o (mz_fe (e := (181, .aload_n 0, 1, (0, 0, 0), [])) (by decide +kernel)) (pc2 := 182) rfl ?_
    refine q_getR (b := 4) (mz_fe (e := (182, .getfield 19, 91, (11, 1, 2), [])) (by decide +kernel)) rfl tg_1 (by rw [ln_1]; decide) (mz_rfS (by decide +kernel)) ?_
    refine q_getI (mz_fe (e := (185, .getfield 210, 116, (8, 8, 0), [])) (by decide +kernel)) rfl (by decide) tg_4 (by rw [ln_4]; decide) ?_
    refine q_o (mz_fe (e := (188, .aload_n 0, 1, (0, 0, 0), [])) (by decide +kernel)) (pc2 := 189) rfl ?_
    refine q_getR (b := 29) (mz_fe (e := (189, .getfield 47, 95, (11, 5, 2), [])) (by decide +kernel)) rfl tg_1 (by rw [ln_1]; decide) (mz_rfS (by decide +kernel)) ?_
    refine q_getI (mz_fe (e := (192, .getfield 160, 108, (6, 3, 0), [])) (by decide +kernel)) rfl (by decide) (st_t (by decide : mz_isS 29 = true)) (by rw [(st_l (by decide : mz_isS 29 = true))]; decide) ?_
    refine q_callI (N := 88) (vs := [.ref 4, .int (mz_rd m 4 8), .int (mz_rd m 29 3)]) (rest := []) (L' := [some (.ref 1), some (.int x0)]) (f := fun v21 m20 => if v21 = 0 then (some (0, m20)) else (some (1, m20))) rfl (mz_fe (e := (195, .invokevirtual 213, 129, (88, 3, 14), [])) (by decide +kernel)) rfl (mz_inv_virt (N := 88) (k := 3) (t := 14) (st := [.int (mz_rd m 29 3), .int (mz_rd m 4 8), .ref 4]) (rest := []) (b := 4) (vs := [.int (mz_rd m 4 8), .int (mz_rd m 29 3)]) (h := (mz_S0, m)) rfl rfl (Nat.le_of_ble_eq_true rfl) (Nat.le_of_ble_eq_true rfl) tg_4 (by decide)) (mz_dc_lt (n := 3) rfl (by decide +kernel) (by decide +kernel)) (by decide +kernel) (Or.inr (by decide +kernel)) (fun v21 m20 => ?_)
    refine q_if (c := .eq) (off := 7) (t := 205) (x := v21) (y := 0) (st := []) (mz_fe (e := (198, .ifCond .eq 7, 3, (0, 0, 0), [])) (by decide +kernel)) (fun _ => rfl) rfl rfl rfl (fun c23 => ?_) (fun c23 => ?_)
    · refine q_ic (v := 0) (mz_fe (e := (205, .iconst 0, 1, (0, 0, 0), [])) (by decide +kernel)) (by decide) ?_
      exact q_retI (mz_fe (e := (206, .ireturn, 1, (0, 0, 0), [])) (by decide +kernel)) (by decide +kernel)
    · refine q_ic (v := 1) (mz_fe (e := (201, .iconst 1, 1, (0, 0, 0), [])) (by decide +kernel)) (by decide) ?_
      refine q_o (mz_fe (e := (202, .goto 4, 3, (0, 0, 0), [])) (by decide +kernel)) (pc2 := 206) rfl ?_
      exact q_retI (mz_fe (e := (206, .ireturn, 1, (0, 0, 0), [])) (by decide +kernel)) (by decide +kernel)
  refine mz_ite (P := x0 = 13) (fun c24 => ?_) (fun c24 => ?_)
  · refine q_sw (t := 207) (st := []) (mz_fe (e := (1, .tableswitch 233 0 16 #[83, 91, 99, 107, 115, 123, 131, 139, 147, 155, 163, 171, 176, 206, 211, 223, 228], 83, (0, 0, 0), [])) (by decide +kernel)) rfl (by rw [c24]; decide +kernel) ?_
    refine q_o (mz_fe (e := (207, .aload_n 0, 1, (0, 0, 0), [])) (by decide +kernel)) (pc2 := 208) rfl ?_
    refine q_callI (N := 127) (vs := [.ref 1]) (rest := []) (L' := [some (.ref 1), some (.int x0)]) (f := fun v26 m25 => some (v26, m25)) rfl (mz_fe (e := (208, .invokevirtual 216, 130, (127, 1, 17), [])) (by decide +kernel)) rfl (mz_inv_virt (N := 127) (k := 1) (t := 17) (st := [.ref 1]) (rest := []) (b := 1) (vs := []) (h := (mz_S0, m)) rfl rfl (Nat.le_of_ble_eq_true rfl) (Nat.le_of_ble_eq_true rfl) tg_1 (by decide)) (mz_dc_lt (n := 1) rfl (by decide +kernel) (by decide +kernel)) (by decide +kernel) (Or.inl (by decide +kernel)) (fun v26 m25 => ?_)
    exact q_retI (mz_fe (e := (211, .ireturn, 1, (0, 0, 0), [])) (by decide +kernel)) (by decide +kernel)
  refine mz_ite (P := x0 = 14) (fun c28 => ?_) (fun c28 => ?_)
  · refine q_sw (t := 212) (st := []) (mz_fe (e := (1, .tableswitch 233 0 16 #[83, 91, 99, 107, 115, 123, 131, 139, 147, 155, 163, 171, 176, 206, 211, 223, 228], 83, (0, 0, 0), [])) (by decide +kernel)) rfl (by rw [c28]; decide +kernel) ?_
    refine q_o (mz_fe (e := (212, .aload_n 0, 1, (0, 0, 0), [])) (by decide +kernel)) (pc2 := 213) rfl ?_
    refine q_getR (b := 27) (mz_fe (e := (213, .getfield 40, 94, (11, 4, 2), [])) (by decide +kernel)) rfl tg_1 (by rw [ln_1]; decide) (mz_rfS (by decide +kernel)) ?_
    refine q_o (mz_fe (e := (216, .aload_n 0, 1, (0, 0, 0), [])) (by decide +kernel)) (pc2 := 217) rfl ?_
    refine q_getR (b := 29) (mz_fe (e := (217, .getfield 47, 95, (11, 5, 2), [])) (by decide +kernel)) rfl tg_1 (by rw [ln_1]; decide) (mz_rfS (by decide +kernel)) ?_
    refine q_callI (N := 41) (vs := [.ref 27, .ref 29]) (rest := []) (L' := [some (.ref 1), some (.int x0)]) (f := fun v30 m29 => some (v30, m29)) rfl (mz_fe (e := (220, .invokevirtual 219, 131, (41, 2, 9), [])) (by decide +kernel)) rfl (mz_inv_virt (N := 41) (k := 2) (t := 9) (st := [.ref 29, .ref 27]) (rest := []) (b := 27) (vs := [.ref 29]) (h := (mz_S0, m)) rfl rfl (Nat.le_of_ble_eq_true rfl) (Nat.le_of_ble_eq_true rfl) tg_27 (by decide)) (mz_dc_lt (n := 2) rfl (by decide +kernel) (by decide +kernel)) (by decide +kernel) (Or.inl (by decide +kernel)) (fun v30 m29 => ?_)
    exact q_retI (mz_fe (e := (223, .ireturn, 1, (0, 0, 0), [])) (by decide +kernel)) (by decide +kernel)
  refine mz_ite (P := x0 = 15) (fun c32 => ?_) (fun c32 => ?_)
  · refine q_sw (t := 224) (st := []) (mz_fe (e := (1, .tableswitch 233 0 16 #[83, 91, 99, 107, 115, 123, 131, 139, 147, 155, 163, 171, 176, 206, 211, 223, 228], 83, (0, 0, 0), [])) (by decide +kernel)) rfl (by rw [c32]; decide +kernel) ?_
    refine q_o (mz_fe (e := (224, .aload_n 0, 1, (0, 0, 0), [])) (by decide +kernel)) (pc2 := 225) rfl ?_
    refine q_callI (N := 128) (vs := [.ref 1]) (rest := []) (L' := [some (.ref 1), some (.int x0)]) (f := fun v34 m33 => some (v34, m33)) rfl (mz_fe (e := (225, .invokevirtual 223, 132, (128, 1, 17), [])) (by decide +kernel)) rfl (mz_inv_virt (N := 128) (k := 1) (t := 17) (st := [.ref 1]) (rest := []) (b := 1) (vs := []) (h := (mz_S0, m)) rfl rfl (Nat.le_of_ble_eq_true rfl) (Nat.le_of_ble_eq_true rfl) tg_1 (by decide)) (mz_dc_lt (n := 1) rfl (by decide +kernel) (by decide +kernel)) (by decide +kernel) (Or.inl (by decide +kernel)) (fun v34 m33 => ?_)
    exact q_retI (mz_fe (e := (228, .ireturn, 1, (0, 0, 0), [])) (by decide +kernel)) (by decide +kernel)
  refine mz_ite (P := x0 = 16) (fun c36 => ?_) (fun c36 => ?_)
  · refine q_sw (t := 229) (st := []) (mz_fe (e := (1, .tableswitch 233 0 16 #[83, 91, 99, 107, 115, 123, 131, 139, 147, 155, 163, 171, 176, 206, 211, 223, 228], 83, (0, 0, 0), [])) (by decide +kernel)) rfl (by rw [c36]; decide +kernel) ?_
    refine q_o (mz_fe (e := (229, .aload_n 0, 1, (0, 0, 0), [])) (by decide +kernel)) (pc2 := 230) rfl ?_
    refine q_callI (N := 129) (vs := [.ref 1]) (rest := []) (L' := [some (.ref 1), some (.int x0)]) (f := fun v38 m37 => some (v38, m37)) rfl (mz_fe (e := (230, .invokevirtual 226, 133, (129, 1, 17), [])) (by decide +kernel)) rfl (mz_inv_virt (N := 129) (k := 1) (t := 17) (st := [.ref 1]) (rest := []) (b := 1) (vs := []) (h := (mz_S0, m)) rfl rfl (Nat.le_of_ble_eq_true rfl) (Nat.le_of_ble_eq_true rfl) tg_1 (by decide)) (mz_dc_lt (n := 1) rfl (by decide +kernel) (by decide +kernel)) (by decide +kernel) (Or.inl (by decide +kernel)) (fun v38 m37 => ?_)
    exact q_retI (mz_fe (e := (233, .ireturn, 1, (0, 0, 0), [])) (by decide +kernel)) (by decide +kernel)
  refine q_sw (t := 234) (st := []) (mz_fe (e := (1, .tableswitch 233 0 16 #[83, 91, 99, 107, 115, 123, 131, 139, 147, 155, 163, 171, 176, 206, 211, 223, 228], 83, (0, 0, 0), [])) (by decide +kernel)) rfl (mz_swd [0, 1, 2, 3, 4, 5, 6, 7, 8, 9, 10, 11, 12, 13, 14, 15, 16] (by decide +kernel) (List.forall_mem_cons.mpr ⟨c1, (List.forall_mem_cons.mpr ⟨c2, (List.forall_mem_cons.mpr ⟨c3, (List.forall_mem_cons.mpr ⟨c4, (List.forall_mem_cons.mpr ⟨c5, (List.forall_mem_cons.mpr ⟨c6, (List.forall_mem_cons.mpr ⟨c7, (List.forall_mem_cons.mpr ⟨c11, (List.forall_mem_cons.mpr ⟨c12, (List.forall_mem_cons.mpr ⟨c13, (List.forall_mem_cons.mpr ⟨c14, (List.forall_mem_cons.mpr ⟨c15, (List.forall_mem_cons.mpr ⟨c19, (List.forall_mem_cons.mpr ⟨c24, (List.forall_mem_cons.mpr ⟨c28, (List.forall_mem_cons.mpr ⟨c32, (List.forall_mem_cons.mpr ⟨c36, (fun _ z => absurd z List.not_mem_nil)⟩)⟩)⟩)⟩)⟩)⟩)⟩)⟩)⟩)⟩)⟩)⟩)⟩)⟩)⟩)⟩)⟩)) ?_
  refine q_ic (v := (-1)) (mz_fe (e := (234, .iconst (-1), 1, (0, 0, 0), [])) (by decide +kernel)) (by decide) ?_
  exact q_retI (mz_fe (e := (235, .ireturn, 1, (0, 0, 0), [])) (by decide +kernel)) (by decide +kernel)
set_option maxRecDepth 10000 in
theorem R_X11_heldSlots_eq (d : Nat)  (m : MzM)  : R_X11_heldSlots d  m = H_X11_heldSlots_4 d 0 0 m := by
  show mz_cI (mz_T d 126 0 (mz_en (mz_xl 126) [.ref 1]) [] m) = _
  rw [show mz_en (mz_xl 126) [.ref 1] = [some (.ref 1), none, none] from by rw [show mz_xl 126 = 3 from by decide +kernel]; rfl]
  refine q_ic (v := 0) (mz_fe (e := (0, .iconst 0, 1, (0, 0, 0), [])) (by decide +kernel)) (by decide) ?_
  refine q_s (mz_fe (e := (1, .istore_n 1, 1, (0, 0, 0), [])) (by decide +kernel)) (pc' := 2) (L' := [some (.ref 1), some (.int 0), none]) (st' := []) rfl ?_
  refine q_ic (v := 0) (mz_fe (e := (2, .iconst 0, 1, (0, 0, 0), [])) (by decide +kernel)) (by decide) ?_
  refine q_s (mz_fe (e := (3, .istore_n 2, 1, (0, 0, 0), [])) (by decide +kernel)) (pc' := 4) (L' := [some (.ref 1), some (.int 0), some (.int 0)]) (st' := []) rfl ?_
  exact congrArg mz_cI (mz_At_msk (L := [some (.ref 1), some (.int 0), some (.int 0)]) (L2 := [some (.ref 1), some (.int 0), some (.int 0)]) (mz_fe (e := (4, .iload_n 2, 1, (0, 0, 0), [true, true, true])) (by decide +kernel)) rfl rfl)
set_option maxRecDepth 10000 in
theorem H_X11_heldSlots_4_eq (d : Nat) (y1 : Int32) (y2 : Int32) (m : MzM)  : H_X11_heldSlots_4 d y1 y2 m = if (3 : Int32) ≤ y2 then (some (y1, m)) else (mz_g (mz_ok y2 3) (if (mz_rd m 200 (y2 : Int32).toNatClampNeg) = 0 then (H_X11_heldSlots_4 d (y1 + 0) (y2 + 1) m) else (H_X11_heldSlots_4 d (y1 + 1) (y2 + 1) m))) := by
  show mz_cI (mz_T d 126 4 [some (.ref 1), some (.int y1), some (.int y2)] [] m) = _
  refine q_s (mz_fe (e := (4, .iload_n 2, 1, (0, 0, 0), [true, true, true])) (by decide +kernel)) (pc' := 5) (L' := [some (.ref 1), some (.int y1), some (.int y2)]) (st' := [.int y2]) rfl ?_
  refine q_ic (v := 3) (mz_fe (e := (5, .iconst 3, 1, (0, 0, 0), [])) (by decide +kernel)) (by decide) ?_
  refine q_if (c := .ge) (off := 26) (t := 32) (x := y2) (y := 3) (st := []) (mz_fe (e := (6, .if_icmp .ge 26, 3, (0, 0, 0), [])) (by decide +kernel)) (fun _ => rfl) rfl rfl rfl (fun c1 => ?_) (fun c1 => ?_)
  · refine q_o (mz_fe (e := (32, .iload_n 1, 1, (0, 0, 0), [])) (by decide +kernel)) (pc2 := 33) rfl ?_
    exact q_retI (mz_fe (e := (33, .ireturn, 1, (0, 0, 0), [])) (by decide +kernel)) (by decide +kernel)
  · refine q_o (mz_fe (e := (9, .iload_n 1, 1, (0, 0, 0), [])) (by decide +kernel)) (pc2 := 10) rfl ?_
    refine q_o (mz_fe (e := (10, .aload_n 0, 1, (0, 0, 0), [])) (by decide +kernel)) (pc2 := 11) rfl ?_
    refine q_getR (b := 200) (mz_fe (e := (11, .getfield 65, 99, (11, 9, 2), [])) (by decide +kernel)) rfl tg_1 (by rw [ln_1]; decide) (mz_rfS (by decide +kernel)) ?_
    refine q_o (mz_fe (e := (14, .iload_n 2, 1, (0, 0, 0), [])) (by decide +kernel)) (pc2 := 15) rfl ?_
    refine q_baldg rfl (mz_fe (e := (15, .baload, 1, (0, 0, 0), [])) (by decide +kernel)) rfl (Or.inl tg_200) ln_200 (fun g2 => ?_)
    refine q_if (c := .eq) (off := 7) (t := 23) (x := (mz_rd m 200 (y2 : Int32).toNatClampNeg)) (y := 0) (st := [.int y1]) (mz_fe (e := (16, .ifCond .eq 7, 3, (0, 0, 0), [])) (by decide +kernel)) (fun _ => rfl) rfl rfl rfl (fun c3 => ?_) (fun c3 => ?_)
    · refine q_ic (v := 0) (mz_fe (e := (23, .iconst 0, 1, (0, 0, 0), [])) (by decide +kernel)) (by decide) ?_
      refine q_o (mz_fe (e := (24, .iadd, 1, (0, 0, 0), [])) (by decide +kernel)) (pc2 := 25) rfl ?_
      refine q_s (mz_fe (e := (25, .istore_n 1, 1, (0, 0, 0), [])) (by decide +kernel)) (pc' := 26) (L' := [some (.ref 1), some (.int (y1 + 0)), some (.int y2)]) (st' := []) rfl ?_
      refine q_iinc (v := y2) (c := 1) (L3 := [some (.ref 1), some (.int (y1 + 0)), some (.int (y2 + 1))]) (mz_fe (e := (26, .iinc 2 1, 3, (0, 0, 0), [])) (by decide +kernel)) rfl rfl (by decide) rfl ?_
      refine q_o (mz_fe (e := (29, .goto (-25), 3, (0, 0, 0), [])) (by decide +kernel)) (pc2 := 4) rfl ?_
      exact congrArg mz_cI (mz_At_msk (L := [some (.ref 1), some (.int (y1 + 0)), some (.int (y2 + 1))]) (L2 := [some (.ref 1), some (.int (y1 + 0)), some (.int (y2 + 1))]) (mz_fe (e := (4, .iload_n 2, 1, (0, 0, 0), [true, true, true])) (by decide +kernel)) rfl rfl)
    · refine q_ic (v := 1) (mz_fe (e := (19, .iconst 1, 1, (0, 0, 0), [])) (by decide +kernel)) (by decide) ?_
      refine q_o (mz_fe (e := (20, .goto 4, 3, (0, 0, 0), [])) (by decide +kernel)) (pc2 := 24) rfl ?_
      refine q_o (mz_fe (e := (24, .iadd, 1, (0, 0, 0), [])) (by decide +kernel)) (pc2 := 25) rfl ?_
      refine q_s (mz_fe (e := (25, .istore_n 1, 1, (0, 0, 0), [])) (by decide +kernel)) (pc' := 26) (L' := [some (.ref 1), some (.int (y1 + 1)), some (.int y2)]) (st' := []) rfl ?_
      refine q_iinc (v := y2) (c := 1) (L3 := [some (.ref 1), some (.int (y1 + 1)), some (.int (y2 + 1))]) (mz_fe (e := (26, .iinc 2 1, 3, (0, 0, 0), [])) (by decide +kernel)) rfl rfl (by decide) rfl ?_
      refine q_o (mz_fe (e := (29, .goto (-25), 3, (0, 0, 0), [])) (by decide +kernel)) (pc2 := 4) rfl ?_
      exact congrArg mz_cI (mz_At_msk (L := [some (.ref 1), some (.int (y1 + 1)), some (.int (y2 + 1))]) (L2 := [some (.ref 1), some (.int (y1 + 1)), some (.int (y2 + 1))]) (mz_fe (e := (4, .iload_n 2, 1, (0, 0, 0), [true, true, true])) (by decide +kernel)) rfl rfl)
set_option maxRecDepth 10000 in
theorem R_X11_ofAllPeople_eq (d : Nat)  (m : MzM)  : R_X11_ofAllPeople d  m = H_X11_ofAllPeople_4 d 0 0 m := by
  show mz_cI (mz_T d 127 0 (mz_en (mz_xl 127) [.ref 1]) [] m) = _
  rw [show mz_en (mz_xl 127) [.ref 1] = [some (.ref 1), none, none] from by rw [show mz_xl 127 = 3 from by decide +kernel]; rfl]
  refine q_ic (v := 0) (mz_fe (e := (0, .iconst 0, 1, (0, 0, 0), [])) (by decide +kernel)) (by decide) ?_
  refine q_s (mz_fe (e := (1, .istore_n 1, 1, (0, 0, 0), [])) (by decide +kernel)) (pc' := 2) (L' := [some (.ref 1), some (.int 0), none]) (st' := []) rfl ?_
  refine q_ic (v := 0) (mz_fe (e := (2, .iconst 0, 1, (0, 0, 0), [])) (by decide +kernel)) (by decide) ?_
  refine q_s (mz_fe (e := (3, .istore_n 2, 1, (0, 0, 0), [])) (by decide +kernel)) (pc' := 4) (L' := [some (.ref 1), some (.int 0), some (.int 0)]) (st' := []) rfl ?_
  exact congrArg mz_cI (mz_At_msk (L := [some (.ref 1), some (.int 0), some (.int 0)]) (L2 := [some (.ref 1), some (.int 0), some (.int 0)]) (mz_fe (e := (4, .iload_n 2, 1, (0, 0, 0), [true, true, true])) (by decide +kernel)) rfl rfl)
set_option maxRecDepth 10000 in
theorem H_X11_ofAllPeople_4_eq (d : Nat) (y1 : Int32) (y2 : Int32) (m : MzM)  : H_X11_ofAllPeople_4 d y1 y2 m = if (mz_rd m 4 4) ≤ y2 then (some (y1, m)) else ((R_X6_ofAll d 29 y2 m).bind (fun u4 => H_X11_ofAllPeople_4 d (y1 + u4.1) (y2 + 1) u4.2)) := by
  show mz_cI (mz_T d 127 4 [some (.ref 1), some (.int y1), some (.int y2)] [] m) = _
  refine q_s (mz_fe (e := (4, .iload_n 2, 1, (0, 0, 0), [true, true, true])) (by decide +kernel)) (pc' := 5) (L' := [some (.ref 1), some (.int y1), some (.int y2)]) (st' := [.int y2]) rfl ?_
  refine q_o (mz_fe (e := (5, .aload_n 0, 1, (0, 0, 0), [])) (by decide +kernel)) (pc2 := 6) rfl ?_
  refine q_getR (b := 4) (mz_fe (e := (6, .getfield 19, 91, (11, 1, 2), [])) (by decide +kernel)) rfl tg_1 (by rw [ln_1]; decide) (mz_rfS (by decide +kernel)) ?_
  refine q_getI (mz_fe (e := (9, .getfield 187, 109, (8, 4, 0), [])) (by decide +kernel)) rfl (by decide) tg_4 (by rw [ln_4]; decide) ?_
  refine q_if (c := .ge) (off := 20) (t := 32) (x := y2) (y := (mz_rd m 4 4)) (st := []) (mz_fe (e := (12, .if_icmp .ge 20, 3, (0, 0, 0), [])) (by decide +kernel)) (fun _ => rfl) rfl rfl rfl (fun c1 => ?_) (fun c1 => ?_)
  · refine q_o (mz_fe (e := (32, .iload_n 1, 1, (0, 0, 0), [])) (by decide +kernel)) (pc2 := 33) rfl ?_
    exact q_retI (mz_fe (e := (33, .ireturn, 1, (0, 0, 0), [])) (by decide +kernel)) (by decide +kernel)
  · refine q_o (mz_fe (e := (15, .iload_n 1, 1, (0, 0, 0), [])) (by decide +kernel)) (pc2 := 16) rfl ?_
    refine q_o (mz_fe (e := (16, .aload_n 0, 1, (0, 0, 0), [])) (by decide +kernel)) (pc2 := 17) rfl ?_
    refine q_getR (b := 29) (mz_fe (e := (17, .getfield 47, 95, (11, 5, 2), [])) (by decide +kernel)) rfl tg_1 (by rw [ln_1]; decide) (mz_rfS (by decide +kernel)) ?_
    refine q_o (mz_fe (e := (20, .iload_n 2, 1, (0, 0, 0), [])) (by decide +kernel)) (pc2 := 21) rfl ?_
    refine q_callI (N := 74) (vs := [.ref 29, .int y2]) (rest := [.int y1]) (L' := [some (.ref 1), some (.int y1), some (.int y2)]) (f := fun v3 m2 => H_X11_ofAllPeople_4 d (y1 + v3) (y2 + 1) m2) rfl (mz_fe (e := (21, .invokevirtual 139, 118, (74, 2, 12), [])) (by decide +kernel)) rfl (mz_inv_virt (N := 74) (k := 2) (t := 12) (st := [.int y2, .ref 29, .int y1]) (rest := [.int y1]) (b := 29) (vs := [.int y2]) (h := (mz_S0, m)) rfl rfl (Nat.le_of_ble_eq_true rfl) (Nat.le_of_ble_eq_true rfl) (st_t (by decide : mz_isS 29 = true)) (by decide)) (mz_dc_lt (n := 2) rfl (by decide +kernel) (by decide +kernel)) (by decide +kernel) (Or.inl (by decide +kernel)) (fun v3 m2 => ?_)
    refine q_o (mz_fe (e := (24, .iadd, 1, (0, 0, 0), [])) (by decide +kernel)) (pc2 := 25) rfl ?_
    refine q_s (mz_fe (e := (25, .istore_n 1, 1, (0, 0, 0), [])) (by decide +kernel)) (pc' := 26) (L' := [some (.ref 1), some (.int (y1 + v3)), some (.int y2)]) (st' := []) rfl ?_
    refine q_iinc (v := y2) (c := 1) (L3 := [some (.ref 1), some (.int (y1 + v3)), some (.int (y2 + 1))]) (mz_fe (e := (26, .iinc 2 1, 3, (0, 0, 0), [])) (by decide +kernel)) rfl rfl (by decide) rfl ?_
    refine q_o (mz_fe (e := (29, .goto (-25), 3, (0, 0, 0), [])) (by decide +kernel)) (pc2 := 4) rfl ?_
    exact congrArg mz_cI (mz_At_msk (L := [some (.ref 1), some (.int (y1 + v3)), some (.int (y2 + 1))]) (L2 := [some (.ref 1), some (.int (y1 + v3)), some (.int (y2 + 1))]) (mz_fe (e := (4, .iload_n 2, 1, (0, 0, 0), [true, true, true])) (by decide +kernel)) rfl rfl)
set_option maxRecDepth 10000 in
theorem R_X11_stuffsInScrew_eq (d : Nat)  (m : MzM)  : R_X11_stuffsInScrew d  m = H_X11_stuffsInScrew_4 d 0 0 m := by
  show mz_cI (mz_T d 128 0 (mz_en (mz_xl 128) [.ref 1]) [] m) = _
  rw [show mz_en (mz_xl 128) [.ref 1] = [some (.ref 1), none, none] from by rw [show mz_xl 128 = 3 from by decide +kernel]; rfl]
  refine q_ic (v := 0) (mz_fe (e := (0, .iconst 0, 1, (0, 0, 0), [])) (by decide +kernel)) (by decide) ?_
  refine q_s (mz_fe (e := (1, .istore_n 1, 1, (0, 0, 0), [])) (by decide +kernel)) (pc' := 2) (L' := [some (.ref 1), some (.int 0), none]) (st' := []) rfl ?_
  refine q_ic (v := 0) (mz_fe (e := (2, .iconst 0, 1, (0, 0, 0), [])) (by decide +kernel)) (by decide) ?_
  refine q_s (mz_fe (e := (3, .istore_n 2, 1, (0, 0, 0), [])) (by decide +kernel)) (pc' := 4) (L' := [some (.ref 1), some (.int 0), some (.int 0)]) (st' := []) rfl ?_
  exact congrArg mz_cI (mz_At_msk (L := [some (.ref 1), some (.int 0), some (.int 0)]) (L2 := [some (.ref 1), some (.int 0), some (.int 0)]) (mz_fe (e := (4, .iload_n 2, 1, (0, 0, 0), [true, true, true])) (by decide +kernel)) rfl rfl)
set_option maxRecDepth 10000 in
theorem H_X11_stuffsInScrew_4_eq (d : Nat) (y1 : Int32) (y2 : Int32) (m : MzM)  : H_X11_stuffsInScrew_4 d y1 y2 m = if (4 : Int32) ≤ y2 then (some (y1, m)) else (mz_g (mz_ok y2 4) (if (mz_rd m 31 (y2 : Int32).toNatClampNeg) ≤ 0 then (H_X11_stuffsInScrew_4 d (y1 ||| 0) (y2 + 1) m) else (H_X11_stuffsInScrew_4 d (y1 ||| ((1 : Int32) <<< (y2 &&& 31))) (y2 + 1) m))) := by
  show mz_cI (mz_T d 128 4 [some (.ref 1), some (.int y1), some (.int y2)] [] m) = _
  refine q_s (mz_fe (e := (4, .iload_n 2, 1, (0, 0, 0), [true, true, true])) (by decide +kernel)) (pc' := 5) (L' := [some (.ref 1), some (.int y1), some (.int y2)]) (st' := [.int y2]) rfl ?_
  refine q_ic (v := 4) (mz_fe (e := (5, .iconst 4, 1, (0, 0, 0), [])) (by decide +kernel)) (by decide) ?_
  refine q_if (c := .ge) (off := 31) (t := 37) (x := y2) (y := 4) (st := []) (mz_fe (e := (6, .if_icmp .ge 31, 3, (0, 0, 0), [])) (by decide +kernel)) (fun _ => rfl) rfl rfl rfl (fun c1 => ?_) (fun c1 => ?_)
  · refine q_o (mz_fe (e := (37, .iload_n 1, 1, (0, 0, 0), [])) (by decide +kernel)) (pc2 := 38) rfl ?_
    exact q_retI (mz_fe (e := (38, .ireturn, 1, (0, 0, 0), [])) (by decide +kernel)) (by decide +kernel)
  · refine q_o (mz_fe (e := (9, .iload_n 1, 1, (0, 0, 0), [])) (by decide +kernel)) (pc2 := 10) rfl ?_
    refine q_o (mz_fe (e := (10, .aload_n 0, 1, (0, 0, 0), [])) (by decide +kernel)) (pc2 := 11) rfl ?_
    refine q_getR (b := 29) (mz_fe (e := (11, .getfield 47, 95, (11, 5, 2), [])) (by decide +kernel)) rfl tg_1 (by rw [ln_1]; decide) (mz_rfS (by decide +kernel)) ?_
    refine q_getR (b := 31) (mz_fe (e := (14, .getfield 151, 106, (6, 1, 2), [])) (by decide +kernel)) rfl (st_t (by decide : mz_isS 29 = true)) (by rw [(st_l (by decide : mz_isS 29 = true))]; decide) (mz_rfS (by decide +kernel)) ?_
    refine q_o (mz_fe (e := (17, .iload_n 2, 1, (0, 0, 0), [])) (by decide +kernel)) (pc2 := 18) rfl ?_
    refine q_ialdg rfl (mz_fe (e := (18, .iaload, 1, (0, 0, 0), [])) (by decide +kernel)) rfl (by decide) (st_wt (by decide : mz_isS 29 = true)) (st_wl (by decide : mz_isS 29 = true)) (fun g2 => ?_)
    refine q_if (c := .le) (off := 9) (t := 28) (x := (mz_rd m 31 (y2 : Int32).toNatClampNeg)) (y := 0) (st := [.int y1]) (mz_fe (e := (19, .ifCond .le 9, 3, (0, 0, 0), [])) (by decide +kernel)) (fun _ => rfl) rfl rfl rfl (fun c3 => ?_) (fun c3 => ?_)
    · refine q_ic (v := 0) (mz_fe (e := (28, .iconst 0, 1, (0, 0, 0), [])) (by decide +kernel)) (by decide) ?_
      refine q_o (mz_fe (e := (29, .ior, 1, (0, 0, 0), [])) (by decide +kernel)) (pc2 := 30) rfl ?_
      refine q_s (mz_fe (e := (30, .istore_n 1, 1, (0, 0, 0), [])) (by decide +kernel)) (pc' := 31) (L' := [some (.ref 1), some (.int (y1 ||| 0)), some (.int y2)]) (st' := []) rfl ?_
      refine q_iinc (v := y2) (c := 1) (L3 := [some (.ref 1), some (.int (y1 ||| 0)), some (.int (y2 + 1))]) (mz_fe (e := (31, .iinc 2 1, 3, (0, 0, 0), [])) (by decide +kernel)) rfl rfl (by decide) rfl ?_
      refine q_o (mz_fe (e := (34, .goto (-30), 3, (0, 0, 0), [])) (by decide +kernel)) (pc2 := 4) rfl ?_
      exact congrArg mz_cI (mz_At_msk (L := [some (.ref 1), some (.int (y1 ||| 0)), some (.int (y2 + 1))]) (L2 := [some (.ref 1), some (.int (y1 ||| 0)), some (.int (y2 + 1))]) (mz_fe (e := (4, .iload_n 2, 1, (0, 0, 0), [true, true, true])) (by decide +kernel)) rfl rfl)
    · refine q_ic (v := 1) (mz_fe (e := (22, .iconst 1, 1, (0, 0, 0), [])) (by decide +kernel)) (by decide) ?_
      refine q_o (mz_fe (e := (23, .iload_n 2, 1, (0, 0, 0), [])) (by decide +kernel)) (pc2 := 24) rfl ?_
      refine q_o (mz_fe (e := (24, .ishl, 1, (0, 0, 0), [])) (by decide +kernel)) (pc2 := 25) rfl ?_
      refine q_o (mz_fe (e := (25, .goto 4, 3, (0, 0, 0), [])) (by decide +kernel)) (pc2 := 29) rfl ?_
      refine q_o (mz_fe (e := (29, .ior, 1, (0, 0, 0), [])) (by decide +kernel)) (pc2 := 30) rfl ?_
      refine q_s (mz_fe (e := (30, .istore_n 1, 1, (0, 0, 0), [])) (by decide +kernel)) (pc' := 31) (L' := [some (.ref 1), some (.int (y1 ||| ((1 : Int32) <<< (y2 &&& 31)))), some (.int y2)]) (st' := []) rfl ?_
      refine q_iinc (v := y2) (c := 1) (L3 := [some (.ref 1), some (.int (y1 ||| ((1 : Int32) <<< (y2 &&& 31)))), some (.int (y2 + 1))]) (mz_fe (e := (31, .iinc 2 1, 3, (0, 0, 0), [])) (by decide +kernel)) rfl rfl (by decide) rfl ?_
      refine q_o (mz_fe (e := (34, .goto (-30), 3, (0, 0, 0), [])) (by decide +kernel)) (pc2 := 4) rfl ?_
      exact congrArg mz_cI (mz_At_msk (L := [some (.ref 1), some (.int (y1 ||| ((1 : Int32) <<< (y2 &&& 31)))), some (.int (y2 + 1))]) (L2 := [some (.ref 1), some (.int (y1 ||| ((1 : Int32) <<< (y2 &&& 31)))), some (.int (y2 + 1))]) (mz_fe (e := (4, .iload_n 2, 1, (0, 0, 0), [true, true, true])) (by decide +kernel)) rfl rfl)
set_option maxRecDepth 10000 in
theorem R_X11_suitsDue_eq (d : Nat)  (m : MzM)  : R_X11_suitsDue d  m = H_X11_suitsDue_4 d 0 0 m := by
  show mz_cI (mz_T d 129 0 (mz_en (mz_xl 129) [.ref 1]) [] m) = _
  rw [show mz_en (mz_xl 129) [.ref 1] = [some (.ref 1), none, none] from by rw [show mz_xl 129 = 3 from by decide +kernel]; rfl]
  refine q_ic (v := 0) (mz_fe (e := (0, .iconst 0, 1, (0, 0, 0), [])) (by decide +kernel)) (by decide) ?_
  refine q_s (mz_fe (e := (1, .istore_n 1, 1, (0, 0, 0), [])) (by decide +kernel)) (pc' := 2) (L' := [some (.ref 1), some (.int 0), none]) (st' := []) rfl ?_
  refine q_ic (v := 0) (mz_fe (e := (2, .iconst 0, 1, (0, 0, 0), [])) (by decide +kernel)) (by decide) ?_
  refine q_s (mz_fe (e := (3, .istore_n 2, 1, (0, 0, 0), [])) (by decide +kernel)) (pc' := 4) (L' := [some (.ref 1), some (.int 0), some (.int 0)]) (st' := []) rfl ?_
  exact congrArg mz_cI (mz_At_msk (L := [some (.ref 1), some (.int 0), some (.int 0)]) (L2 := [some (.ref 1), some (.int 0), some (.int 0)]) (mz_fe (e := (4, .iload_n 2, 1, (0, 0, 0), [true, true, true])) (by decide +kernel)) rfl rfl)
set_option maxRecDepth 10000 in
theorem H_X11_suitsDue_4_eq (d : Nat) (y1 : Int32) (y2 : Int32) (m : MzM)  : H_X11_suitsDue_4 d y1 y2 m = if (mz_rd m 4 5) ≤ y2 then (some (y1, m)) else ((R_X8_isDue d 4 y2 (mz_rd m 29 3) m).bind (fun u4 => if u4.1 = 0 then (H_X11_suitsDue_4 d (y1 ||| 0) (y2 + 1) u4.2) else (H_X11_suitsDue_4 d (y1 ||| ((1 : Int32) <<< (y2 &&& 31))) (y2 + 1) u4.2))) := by
  show mz_cI (mz_T d 129 4 [some (.ref 1), some (.int y1), some (.int y2)] [] m) = _
  refine q_s (mz_fe (e := (4, .iload_n 2, 1, (0, 0, 0), [true, true, true])) (by decide +kernel)) (pc' := 5) (L' := [some (.ref 1), some (.int y1), some (.int y2)]) (st' := [.int y2]) rfl ?_
  refine q_o (mz_fe (e := (5, .aload_n 0, 1, (0, 0, 0), [])) (by decide +kernel)) (pc2 := 6) rfl ?_
  refine q_getR (b := 4) (mz_fe (e := (6, .getfield 19, 91, (11, 1, 2), [])) (by decide +kernel)) rfl tg_1 (by rw [ln_1]; decide) (mz_rfS (by decide +kernel)) ?_
  refine q_getI (mz_fe (e := (9, .getfield 154, 107, (8, 5, 0), [])) (by decide +kernel)) rfl (by decide) tg_4 (by rw [ln_4]; decide) ?_
  refine q_if (c := .ge) (off := 37) (t := 49) (x := y2) (y := (mz_rd m 4 5)) (st := []) (mz_fe (e := (12, .if_icmp .ge 37, 3, (0, 0, 0), [])) (by decide +kernel)) (fun _ => rfl) rfl rfl rfl (fun c1 => ?_) (fun c1 => ?_)
  · refine q_o (mz_fe (e := (49, .iload_n 1, 1, (0, 0, 0), [])) (by decide +kernel)) (pc2 := 50) rfl ?_
    exact q_retI (mz_fe (e := (50, .ireturn, 1, (0, 0, 0), [])) (by decide +kernel)) (by decide +kernel)
  · refine q_o (mz_fe (e := (15, .iload_n 1, 1, (0, 0, 0), [])) (by decide +kernel)) (pc2 := 16) rfl ?_
    refine q_o (mz_fe (e := (16, .aload_n 0, 1, (0, 0, 0), [])) (by decide +kernel)) (pc2 := 17) rfl ?_
    refine q_getR (b := 4) (mz_fe (e := (17, .getfield 19, 91, (11, 1, 2), [])) (by decide +kernel)) rfl tg_1 (by rw [ln_1]; decide) (mz_rfS (by decide +kernel)) ?_
    refine q_o (mz_fe (e := (20, .iload_n 2, 1, (0, 0, 0), [])) (by decide +kernel)) (pc2 := 21) rfl ?_
    refine q_o (mz_fe (e := (21, .aload_n 0, 1, (0, 0, 0), [])) (by decide +kernel)) (pc2 := 22) rfl ?_
    refine q_getR (b := 29) (mz_fe (e := (22, .getfield 47, 95, (11, 5, 2), [])) (by decide +kernel)) rfl tg_1 (by rw [ln_1]; decide) (mz_rfS (by decide +kernel)) ?_
    refine q_getI (mz_fe (e := (25, .getfield 160, 108, (6, 3, 0), [])) (by decide +kernel)) rfl (by decide) (st_t (by decide : mz_isS 29 = true)) (by rw [(st_l (by decide : mz_isS 29 = true))]; decide) ?_
    refine q_callI (N := 87) (vs := [.ref 4, .int y2, .int (mz_rd m 29 3)]) (rest := [.int y1]) (L' := [some (.ref 1), some (.int y1), some (.int y2)]) (f := fun v3 m2 => if v3 = 0 then (H_X11_suitsDue_4 d (y1 ||| 0) (y2 + 1) m2) else (H_X11_suitsDue_4 d (y1 ||| ((1 : Int32) <<< (y2 &&& 31))) (y2 + 1) m2)) rfl (mz_fe (e := (28, .invokevirtual 163, 121, (87, 3, 14), [])) (by decide +kernel)) rfl (mz_inv_virt (N := 87) (k := 3) (t := 14) (st := [.int (mz_rd m 29 3), .int y2, .ref 4, .int y1]) (rest := [.int y1]) (b := 4) (vs := [.int y2, .int (mz_rd m 29 3)]) (h := (mz_S0, m)) rfl rfl (Nat.le_of_ble_eq_true rfl) (Nat.le_of_ble_eq_true rfl) tg_4 (by decide)) (mz_dc_lt (n := 3) rfl (by decide +kernel) (by decide +kernel)) (by decide +kernel) (Or.inr (by decide +kernel)) (fun v3 m2 => ?_)
    refine q_if (c := .eq) (off := 9) (t := 40) (x := v3) (y := 0) (st := [.int y1]) (mz_fe (e := (31, .ifCond .eq 9, 3, (0, 0, 0), [])) (by decide +kernel)) (fun _ => rfl) rfl rfl rfl (fun c5 => ?_) (fun c5 => ?_)
    · refine q_ic (v := 0) (mz_fe (e := (40, .iconst 0, 1, (0, 0, 0), [])) (by decide +kernel)) (by decide) ?_
      refine q_o (mz_fe (e := (41, .ior, 1, (0, 0, 0), [])) (by decide +kernel)) (pc2 := 42) rfl ?_
      refine q_s (mz_fe (e := (42, .istore_n 1, 1, (0, 0, 0), [])) (by decide +kernel)) (pc' := 43) (L' := [some (.ref 1), some (.int (y1 ||| 0)), some (.int y2)]) (st' := []) rfl ?_
      refine q_iinc (v := y2) (c := 1) (L3 := [some (.ref 1), some (.int (y1 ||| 0)), some (.int (y2 + 1))]) (mz_fe (e := (43, .iinc 2 1, 3, (0, 0, 0), [])) (by decide +kernel)) rfl rfl (by decide) rfl ?_
      refine q_o (mz_fe (e := (46, .goto (-42), 3, (0, 0, 0), [])) (by decide +kernel)) (pc2 := 4) rfl ?_
      exact congrArg mz_cI (mz_At_msk (L := [some (.ref 1), some (.int (y1 ||| 0)), some (.int (y2 + 1))]) (L2 := [some (.ref 1), some (.int (y1 ||| 0)), some (.int (y2 + 1))]) (mz_fe (e := (4, .iload_n 2, 1, (0, 0, 0), [true, true, true])) (by decide +kernel)) rfl rfl)
    · refine q_ic (v := 1) (mz_fe (e := (34, .iconst 1, 1, (0, 0, 0), [])) (by decide +kernel)) (by decide) ?_
      refine q_o (mz_fe (e := (35, .iload_n 2, 1, (0, 0, 0), [])) (by decide +kernel)) (pc2 := 36) rfl ?_
      refine q_o (mz_fe (e := (36, .ishl, 1, (0, 0, 0), [])) (by decide +kernel)) (pc2 := 37) rfl ?_
      refine q_o (mz_fe (e := (37, .goto 4, 3, (0, 0, 0), [])) (by decide +kernel)) (pc2 := 41) rfl ?_
      refine q_o (mz_fe (e := (41, .ior, 1, (0, 0, 0), [])) (by decide +kernel)) (pc2 := 42) rfl ?_
      refine q_s (mz_fe (e := (42, .istore_n 1, 1, (0, 0, 0), [])) (by decide +kernel)) (pc' := 43) (L' := [some (.ref 1), some (.int (y1 ||| ((1 : Int32) <<< (y2 &&& 31)))), some (.int y2)]) (st' := []) rfl ?_
      refine q_iinc (v := y2) (c := 1) (L3 := [some (.ref 1), some (.int (y1 ||| ((1 : Int32) <<< (y2 &&& 31)))), some (.int (y2 + 1))]) (mz_fe (e := (43, .iinc 2 1, 3, (0, 0, 0), [])) (by decide +kernel)) rfl rfl (by decide) rfl ?_
      refine q_o (mz_fe (e := (46, .goto (-42), 3, (0, 0, 0), [])) (by decide +kernel)) (pc2 := 4) rfl ?_
      exact congrArg mz_cI (mz_At_msk (L := [some (.ref 1), some (.int (y1 ||| ((1 : Int32) <<< (y2 &&& 31)))), some (.int (y2 + 1))]) (L2 := [some (.ref 1), some (.int (y1 ||| ((1 : Int32) <<< (y2 &&& 31)))), some (.int (y2 + 1))]) (mz_fe (e := (4, .iload_n 2, 1, (0, 0, 0), [true, true, true])) (by decide +kernel)) rfl rfl)
set_option maxRecDepth 10000 in
theorem R_X11_put_eq (d : Nat) (x0 : Int32) (x1 : Int32) (m : MzM)  : R_X11_put d x0 x1 m = (R_X11_areTwo d x0 x1 m).bind (fun u3 => if ¬ u3.1 = 0 then ((R_X11_rememberNow d  u3.2).bind (fun m5 => (R_X3_putThrough d 29 x0 x1 m5).bind (fun m8 => some ((mz_rd m8 29 4), m8)))) else (some ((-1), u3.2))) := by
  show mz_cI (mz_T d 130 0 (mz_en (mz_xl 130) [.ref 1, .int x0, .int x1]) [] m) = _
  rw [show mz_en (mz_xl 130) [.ref 1, .int x0, .int x1] = [some (.ref 1), some (.int x0), some (.int x1)] from by rw [show mz_xl 130 = 3 from by decide +kernel]; rfl]
  refine q_o (mz_fe (e := (0, .aload_n 0, 1, (0, 0, 0), [])) (by decide +kernel)) (pc2 := 1) rfl ?_
  refine q_o (mz_fe (e := (1, .iload_n 1, 1, (0, 0, 0), [])) (by decide +kernel)) (pc2 := 2) rfl ?_
  refine q_o (mz_fe (e := (2, .iload_n 2, 1, (0, 0, 0), [])) (by decide +kernel)) (pc2 := 3) rfl ?_
  refine q_callI (N := 166) (vs := [.ref 1, .int x0, .int x1]) (rest := []) (L' := [some (.ref 1), some (.int x0), some (.int x1)]) (f := fun v2 m1 => if ¬ v2 = 0 then ((R_X11_rememberNow d  m1).bind (fun m5 => (R_X3_putThrough d 29 x0 x1 m5).bind (fun m8 => some ((mz_rd m8 29 4), m8)))) else (some ((-1), m1))) rfl (mz_fe (e := (3, .invokevirtual 167, 122, (166, 3, 17), [])) (by decide +kernel)) rfl (mz_inv_virt (N := 166) (k := 3) (t := 17) (st := [.int x1, .int x0, .ref 1]) (rest := []) (b := 1) (vs := [.int x0, .int x1]) (h := (mz_S0, m)) rfl rfl (Nat.le_of_ble_eq_true rfl) (Nat.le_of_ble_eq_true rfl) tg_1 (by decide)) (mz_dc_lt (n := 3) rfl (by decide +kernel) (by decide +kernel)) (by decide +kernel) (Or.inr (by decide +kernel)) (fun v2 m1 => ?_)
  refine q_if (c := .ne) (off := 5) (t := 11) (x := v2) (y := 0) (st := []) (mz_fe (e := (6, .ifCond .ne 5, 3, (0, 0, 0), [])) (by decide +kernel)) (fun _ => rfl) rfl rfl rfl (fun c4 => ?_) (fun c4 => ?_)
  · refine q_o (mz_fe (e := (11, .aload_n 0, 1, (0, 0, 0), [])) (by decide +kernel)) (pc2 := 12) rfl ?_
    refine q_callV (N := 136) (vs := [.ref 1]) (rest := []) (L' := [some (.ref 1), some (.int x0), some (.int x1)]) rfl (mz_fe (e := (12, .invokevirtual 229, 134, (136, 1, 17), [])) (by decide +kernel)) rfl (mz_inv_virt (N := 136) (k := 1) (t := 17) (st := [.ref 1]) (rest := []) (b := 1) (vs := []) (h := (mz_S0, m1)) rfl rfl (Nat.le_of_ble_eq_true rfl) (Nat.le_of_ble_eq_true rfl) tg_1 (by decide)) (mz_dc_lt (n := 1) rfl (by decide +kernel) (by decide +kernel)) (by decide +kernel) (by decide +kernel) (fun m5 => ?_)
    refine q_o (mz_fe (e := (15, .aload_n 0, 1, (0, 0, 0), [])) (by decide +kernel)) (pc2 := 16) rfl ?_
    refine q_getR (b := 27) (mz_fe (e := (16, .getfield 40, 94, (11, 4, 2), [])) (by decide +kernel)) rfl tg_1 (by rw [ln_1]; decide) (mz_rfS (by decide +kernel)) ?_
    refine q_o (mz_fe (e := (19, .aload_n 0, 1, (0, 0, 0), [])) (by decide +kernel)) (pc2 := 20) rfl ?_
    refine q_getR (b := 29) (mz_fe (e := (20, .getfield 47, 95, (11, 5, 2), [])) (by decide +kernel)) rfl tg_1 (by rw [ln_1]; decide) (mz_rfS (by decide +kernel)) ?_
    refine q_o (mz_fe (e := (23, .iload_n 1, 1, (0, 0, 0), [])) (by decide +kernel)) (pc2 := 24) rfl ?_
    refine q_o (mz_fe (e := (24, .iload_n 2, 1, (0, 0, 0), [])) (by decide +kernel)) (pc2 := 25) rfl ?_
    refine q_callV (N := 36) (vs := [.ref 27, .ref 29, .int x0, .int x1]) (rest := []) (L' := [some (.ref 1), some (.int x0), some (.int x1)]) rfl (mz_fe (e := (25, .invokevirtual 232, 135, (36, 4, 9), [])) (by decide +kernel)) rfl (mz_inv_virt (N := 36) (k := 4) (t := 9) (st := [.int x1, .int x0, .ref 29, .ref 27]) (rest := []) (b := 27) (vs := [.ref 29, .int x0, .int x1]) (h := (mz_S0, m5)) rfl rfl (Nat.le_of_ble_eq_true rfl) (Nat.le_of_ble_eq_true rfl) tg_27 (by decide)) (mz_dc_lt (n := 4) rfl (by decide +kernel) (by decide +kernel)) (by decide +kernel) (by decide +kernel) (fun m8 => ?_)
    refine q_o (mz_fe (e := (28, .aload_n 0, 1, (0, 0, 0), [])) (by decide +kernel)) (pc2 := 29) rfl ?_
    refine q_getR (b := 29) (mz_fe (e := (29, .getfield 47, 95, (11, 5, 2), [])) (by decide +kernel)) rfl tg_1 (by rw [ln_1]; decide) (mz_rfS (by decide +kernel)) ?_
    refine q_getI (mz_fe (e := (32, .getfield 190, 110, (6, 4, 0), [])) (by decide +kernel)) rfl (by decide) (st_t (by decide : mz_isS 29 = true)) (by rw [(st_l (by decide : mz_isS 29 = true))]; decide) ?_
    exact q_retI (mz_fe (e := (35, .ireturn, 1, (0, 0, 0), [])) (by decide +kernel)) (by decide +kernel)
  · refine q_ic (v := (-1)) (mz_fe (e := (9, .iconst (-1), 1, (0, 0, 0), [])) (by decide +kernel)) (by decide) ?_
    exact q_retI (mz_fe (e := (10, .ireturn, 1, (0, 0, 0), [])) (by decide +kernel)) (by decide +kernel)
set_option maxRecDepth 10000 in
theorem R_X11_bread_eq (d : Nat) (x0 : Int32) (x1 : Int32) (m : MzM)  : R_X11_bread d x0 x1 m = (R_X11_isStuff d x0 m).bind (fun u3 => if u3.1 = 0 then (some (0, u3.2)) else (if x1 < 1 then (some (0, u3.2)) else (if x1 ≤ 99 then ((R_X11_rememberNow d  u3.2).bind (fun m7 => mz_g (mz_ok x0 4) (mz_g (mz_ok x0 4) (some (1, (mz_wr m7 31 (x0 : Int32).toNatClampNeg ((mz_rd m7 31 (x0 : Int32).toNatClampNeg) + x1))))))) else (some (0, u3.2))))) := by
  show mz_cI (mz_T d 131 0 (mz_en (mz_xl 131) [.ref 1, .int x0, .int x1]) [] m) = _
  rw [show mz_en (mz_xl 131) [.ref 1, .int x0, .int x1] = [some (.ref 1), some (.int x0), some (.int x1)] from by rw [show mz_xl 131 = 3 from by decide +kernel]; rfl]
  refine q_o (mz_fe (e := (0, .iload_n 1, 1, (0, 0, 0), [])) (by decide +kernel)) (pc2 := 1) rfl ?_
  refine q_callI (N := 167) (vs := [.int x0]) (rest := []) (L' := [some (.ref 1), some (.int x0), some (.int x1)]) (f := fun v2 m1 => if v2 = 0 then (some (0, m1)) else (if x1 < 1 then (some (0, m1)) else (if x1 ≤ 99 then ((R_X11_rememberNow d  m1).bind (fun m7 => mz_g (mz_ok x0 4) (mz_g (mz_ok x0 4) (some (1, (mz_wr m7 31 (x0 : Int32).toNatClampNeg ((mz_rd m7 31 (x0 : Int32).toNatClampNeg) + x1))))))) else (some (0, m1))))) rfl (mz_fe (e := (1, .invokestatic 132, 116, (167, 1, 1000), [])) (by decide +kernel)) rfl (mz_inv_stat (N := 167) (k := 1) (st := [.int x0]) (rest := []) (vs := [.int x0]) (h := (mz_S0, m)) rfl rfl (Nat.le_of_ble_eq_true rfl) (Nat.le_of_ble_eq_true rfl)) (mz_dc_lt (n := 1) rfl (by decide +kernel) (by decide +kernel)) (by decide +kernel) (Or.inr (by decide +kernel)) (fun v2 m1 => ?_)
  refine q_if (c := .eq) (off := 14) (t := 18) (x := v2) (y := 0) (st := []) (mz_fe (e := (4, .ifCond .eq 14, 3, (0, 0, 0), [])) (by decide +kernel)) (fun _ => rfl) rfl rfl rfl (fun c4 => ?_) (fun c4 => ?_)
  · refine q_ic (v := 0) (mz_fe (e := (18, .iconst 0, 1, (0, 0, 0), [])) (by decide +kernel)) (by decide) ?_
    exact q_retZ (mz_fe (e := (19, .ireturn, 1, (0, 0, 0), [])) (by decide +kernel)) (by decide +kernel) (by decide)
  · refine q_o (mz_fe (e := (7, .iload_n 2, 1, (0, 0, 0), [])) (by decide +kernel)) (pc2 := 8) rfl ?_
    refine q_ic (v := 1) (mz_fe (e := (8, .iconst 1, 1, (0, 0, 0), [])) (by decide +kernel)) (by decide) ?_
    refine q_if (c := .lt) (off := 9) (t := 18) (x := x1) (y := 1) (st := []) (mz_fe (e := (9, .if_icmp .lt 9, 3, (0, 0, 0), [])) (by decide +kernel)) (fun _ => rfl) rfl rfl rfl (fun c5 => ?_) (fun c5 => ?_)
    · refine q_ic (v := 0) (mz_fe (e := (18, .iconst 0, 1, (0, 0, 0), [])) (by decide +kernel)) (by decide) ?_
      exact q_retZ (mz_fe (e := (19, .ireturn, 1, (0, 0, 0), [])) (by decide +kernel)) (by decide +kernel) (by decide)
    · refine q_o (mz_fe (e := (12, .iload_n 2, 1, (0, 0, 0), [])) (by decide +kernel)) (pc2 := 13) rfl ?_
      refine q_bi (v := 99) (mz_fe (e := (13, .bipush 99, 2, (0, 0, 0), [])) (by decide +kernel)) (by decide) ?_
      refine q_if (c := .le) (off := 5) (t := 20) (x := x1) (y := 99) (st := []) (mz_fe (e := (15, .if_icmp .le 5, 3, (0, 0, 0), [])) (by decide +kernel)) (fun _ => rfl) rfl rfl rfl (fun c6 => ?_) (fun c6 => ?_)
      · refine q_o (mz_fe (e := (20, .aload_n 0, 1, (0, 0, 0), [])) (by decide +kernel)) (pc2 := 21) rfl ?_
        refine q_callV (N := 136) (vs := [.ref 1]) (rest := []) (L' := [some (.ref 1), some (.int x0), some (.int x1)]) rfl (mz_fe (e := (21, .invokevirtual 229, 134, (136, 1, 17), [])) (by decide +kernel)) rfl (mz_inv_virt (N := 136) (k := 1) (t := 17) (st := [.ref 1]) (rest := []) (b := 1) (vs := []) (h := (mz_S0, m1)) rfl rfl (Nat.le_of_ble_eq_true rfl) (Nat.le_of_ble_eq_true rfl) tg_1 (by decide)) (mz_dc_lt (n := 1) rfl (by decide +kernel) (by decide +kernel)) (by decide +kernel) (by decide +kernel) (fun m7 => ?_)
        refine q_o (mz_fe (e := (24, .aload_n 0, 1, (0, 0, 0), [])) (by decide +kernel)) (pc2 := 25) rfl ?_
        refine q_getR (b := 29) (mz_fe (e := (25, .getfield 47, 95, (11, 5, 2), [])) (by decide +kernel)) rfl tg_1 (by rw [ln_1]; decide) (mz_rfS (by decide +kernel)) ?_
        refine q_getR (b := 31) (mz_fe (e := (28, .getfield 151, 106, (6, 1, 2), [])) (by decide +kernel)) rfl (st_t (by decide : mz_isS 29 = true)) (by rw [(st_l (by decide : mz_isS 29 = true))]; decide) (mz_rfS (by decide +kernel)) ?_
        refine q_o (mz_fe (e := (31, .iload_n 1, 1, (0, 0, 0), [])) (by decide +kernel)) (pc2 := 32) rfl ?_
        refine q_o (mz_fe (e := (32, .dup2, 1, (0, 0, 0), [])) (by decide +kernel)) (pc2 := 33) rfl ?_
        refine q_ialdg rfl (mz_fe (e := (33, .iaload, 1, (0, 0, 0), [])) (by decide +kernel)) rfl (by decide) (st_wt (by decide : mz_isS 29 = true)) (st_wl (by decide : mz_isS 29 = true)) (fun g10 => ?_)
        refine q_o (mz_fe (e := (34, .iload_n 2, 1, (0, 0, 0), [])) (by decide +kernel)) (pc2 := 35) rfl ?_
        refine q_o (mz_fe (e := (35, .iadd, 1, (0, 0, 0), [])) (by decide +kernel)) (pc2 := 36) rfl ?_
        refine q_stAg (f := (fun x => x)) rfl (mz_fe (e := (36, .iastore, 1, (0, 0, 0), [])) (by decide +kernel)) (fun _ => rfl) rfl (st_wt (by decide : mz_isS 29 = true)) (st_wl (by decide : mz_isS 29 = true)) (fun g11 => ?_)
        refine q_ic (v := 1) (mz_fe (e := (37, .iconst 1, 1, (0, 0, 0), [])) (by decide +kernel)) (by decide) ?_
        exact q_retZ (mz_fe (e := (38, .ireturn, 1, (0, 0, 0), [])) (by decide +kernel)) (by decide +kernel) (by decide)
      · refine q_ic (v := 0) (mz_fe (e := (18, .iconst 0, 1, (0, 0, 0), [])) (by decide +kernel)) (by decide) ?_
        exact q_retZ (mz_fe (e := (19, .ireturn, 1, (0, 0, 0), [])) (by decide +kernel)) (by decide +kernel) (by decide)
set_option maxRecDepth 10000 in
theorem R_X11_plate_eq (d : Nat) (x0 : Int32) (m : MzM)  : R_X11_plate d x0 m = if x0 < 1 then (some (0, m)) else (if (9 : Int32) < x0 then (some (0, m)) else (if ¬ x0 = (mz_rd m 29 5) then ((R_X11_rememberNow d  m).bind (fun m4 => (R_X6_changePlate d 29 x0 m4).bind (fun m7 => some (1, m7)))) else (if ¬ (mz_rd m 29 6) = 0 then ((R_X11_rememberNow d  m).bind (fun m11 => (R_X6_changePlate d 29 x0 m11).bind (fun m14 => some (1, m14)))) else (some (0, m))))) := by
  show mz_cI (mz_T d 132 0 (mz_en (mz_xl 132) [.ref 1, .int x0]) [] m) = _
  rw [show mz_en (mz_xl 132) [.ref 1, .int x0] = [some (.ref 1), some (.int x0)] from by rw [show mz_xl 132 = 2 from by decide +kernel]; rfl]
  refine q_o (mz_fe (e := (0, .iload_n 1, 1, (0, 0, 0), [])) (by decide +kernel)) (pc2 := 1) rfl ?_
  refine q_ic (v := 1) (mz_fe (e := (1, .iconst 1, 1, (0, 0, 0), [])) (by decide +kernel)) (by decide) ?_
  refine q_if (c := .lt) (off := 30) (t := 32) (x := x0) (y := 1) (st := []) (mz_fe (e := (2, .if_icmp .lt 30, 3, (0, 0, 0), [])) (by decide +kernel)) (fun _ => rfl) rfl rfl rfl (fun c1 => ?_) (fun c1 => ?_)
  · refine q_ic (v := 0) (mz_fe (e := (32, .iconst 0, 1, (0, 0, 0), [])) (by decide +kernel)) (by decide) ?_
    exact q_retZ (mz_fe (e := (33, .ireturn, 1, (0, 0, 0), [])) (by decide +kernel)) (by decide +kernel) (by decide)
  · refine q_o (mz_fe (e := (5, .iload_n 1, 1, (0, 0, 0), [])) (by decide +kernel)) (pc2 := 6) rfl ?_
    refine q_bi (v := 9) (mz_fe (e := (6, .bipush 9, 2, (0, 0, 0), [])) (by decide +kernel)) (by decide) ?_
    refine q_if (c := .gt) (off := 24) (t := 32) (x := x0) (y := 9) (st := []) (mz_fe (e := (8, .if_icmp .gt 24, 3, (0, 0, 0), [])) (by decide +kernel)) (fun _ => rfl) rfl rfl rfl (fun c2 => ?_) (fun c2 => ?_)
    · refine q_ic (v := 0) (mz_fe (e := (32, .iconst 0, 1, (0, 0, 0), [])) (by decide +kernel)) (by decide) ?_
      exact q_retZ (mz_fe (e := (33, .ireturn, 1, (0, 0, 0), [])) (by decide +kernel)) (by decide +kernel) (by decide)
    · refine q_o (mz_fe (e := (11, .iload_n 1, 1, (0, 0, 0), [])) (by decide +kernel)) (pc2 := 12) rfl ?_
      refine q_o (mz_fe (e := (12, .aload_n 0, 1, (0, 0, 0), [])) (by decide +kernel)) (pc2 := 13) rfl ?_
      refine q_getR (b := 29) (mz_fe (e := (13, .getfield 47, 95, (11, 5, 2), [])) (by decide +kernel)) rfl tg_1 (by rw [ln_1]; decide) (mz_rfS (by decide +kernel)) ?_
      refine q_getI (mz_fe (e := (16, .getfield 193, 111, (6, 5, 0), [])) (by decide +kernel)) rfl (by decide) (st_t (by decide : mz_isS 29 = true)) (by rw [(st_l (by decide : mz_isS 29 = true))]; decide) ?_
      refine q_if (c := .ne) (off := 15) (t := 34) (x := x0) (y := (mz_rd m 29 5)) (st := []) (mz_fe (e := (19, .if_icmp .ne 15, 3, (0, 0, 0), [])) (by decide +kernel)) (fun _ => rfl) rfl rfl rfl (fun c3 => ?_) (fun c3 => ?_)
      · refine q_o (mz_fe (e := (34, .aload_n 0, 1, (0, 0, 0), [])) (by decide +kernel)) (pc2 := 35) rfl ?_
        refine q_callV (N := 136) (vs := [.ref 1]) (rest := []) (L' := [some (.ref 1), some (.int x0)]) rfl (mz_fe (e := (35, .invokevirtual 229, 134, (136, 1, 17), [])) (by decide +kernel)) rfl (mz_inv_virt (N := 136) (k := 1) (t := 17) (st := [.ref 1]) (rest := []) (b := 1) (vs := []) (h := (mz_S0, m)) rfl rfl (Nat.le_of_ble_eq_true rfl) (Nat.le_of_ble_eq_true rfl) tg_1 (by decide)) (mz_dc_lt (n := 1) rfl (by decide +kernel) (by decide +kernel)) (by decide +kernel) (by decide +kernel) (fun m4 => ?_)
        refine q_o (mz_fe (e := (38, .aload_n 0, 1, (0, 0, 0), [])) (by decide +kernel)) (pc2 := 39) rfl ?_
        refine q_getR (b := 29) (mz_fe (e := (39, .getfield 47, 95, (11, 5, 2), [])) (by decide +kernel)) rfl tg_1 (by rw [ln_1]; decide) (mz_rfS (by decide +kernel)) ?_
        refine q_o (mz_fe (e := (42, .iload_n 1, 1, (0, 0, 0), [])) (by decide +kernel)) (pc2 := 43) rfl ?_
        refine q_callV (N := 70) (vs := [.ref 29, .int x0]) (rest := []) (L' := [some (.ref 1), some (.int x0)]) rfl (mz_fe (e := (43, .invokevirtual 236, 136, (70, 2, 12), [])) (by decide +kernel)) rfl (mz_inv_virt (N := 70) (k := 2) (t := 12) (st := [.int x0, .ref 29]) (rest := []) (b := 29) (vs := [.int x0]) (h := (mz_S0, m4)) rfl rfl (Nat.le_of_ble_eq_true rfl) (Nat.le_of_ble_eq_true rfl) (st_t (by decide : mz_isS 29 = true)) (by decide)) (mz_dc_lt (n := 2) rfl (by decide +kernel) (by decide +kernel)) (by decide +kernel) (by decide +kernel) (fun m7 => ?_)
        refine q_ic (v := 1) (mz_fe (e := (46, .iconst 1, 1, (0, 0, 0), [])) (by decide +kernel)) (by decide) ?_
        exact q_retZ (mz_fe (e := (47, .ireturn, 1, (0, 0, 0), [])) (by decide +kernel)) (by decide +kernel) (by decide)
      · refine q_o (mz_fe (e := (22, .aload_n 0, 1, (0, 0, 0), [])) (by decide +kernel)) (pc2 := 23) rfl ?_
        refine q_getR (b := 29) (mz_fe (e := (23, .getfield 47, 95, (11, 5, 2), [])) (by decide +kernel)) rfl tg_1 (by rw [ln_1]; decide) (mz_rfS (by decide +kernel)) ?_
        refine q_getI (mz_fe (e := (26, .getfield 196, 112, (6, 6, 0), [])) (by decide +kernel)) rfl (by decide) (st_t (by decide : mz_isS 29 = true)) (by rw [(st_l (by decide : mz_isS 29 = true))]; decide) ?_
        refine q_if (c := .ne) (off := 5) (t := 34) (x := (mz_rd m 29 6)) (y := 0) (st := []) (mz_fe (e := (29, .ifCond .ne 5, 3, (0, 0, 0), [])) (by decide +kernel)) (fun _ => rfl) rfl rfl rfl (fun c10 => ?_) (fun c10 => ?_)
        · refine q_o (mz_fe (e := (34, .aload_n 0, 1, (0, 0, 0), [])) (by decide +kernel)) (pc2 := 35) rfl ?_
          refine q_callV (N := 136) (vs := [.ref 1]) (rest := []) (L' := [some (.ref 1), some (.int x0)]) rfl (mz_fe (e := (35, .invokevirtual 229, 134, (136, 1, 17), [])) (by decide +kernel)) rfl (mz_inv_virt (N := 136) (k := 1) (t := 17) (st := [.ref 1]) (rest := []) (b := 1) (vs := []) (h := (mz_S0, m)) rfl rfl (Nat.le_of_ble_eq_true rfl) (Nat.le_of_ble_eq_true rfl) tg_1 (by decide)) (mz_dc_lt (n := 1) rfl (by decide +kernel) (by decide +kernel)) (by decide +kernel) (by decide +kernel) (fun m11 => ?_)
          refine q_o (mz_fe (e := (38, .aload_n 0, 1, (0, 0, 0), [])) (by decide +kernel)) (pc2 := 39) rfl ?_
          refine q_getR (b := 29) (mz_fe (e := (39, .getfield 47, 95, (11, 5, 2), [])) (by decide +kernel)) rfl tg_1 (by rw [ln_1]; decide) (mz_rfS (by decide +kernel)) ?_
          refine q_o (mz_fe (e := (42, .iload_n 1, 1, (0, 0, 0), [])) (by decide +kernel)) (pc2 := 43) rfl ?_
          refine q_callV (N := 70) (vs := [.ref 29, .int x0]) (rest := []) (L' := [some (.ref 1), some (.int x0)]) rfl (mz_fe (e := (43, .invokevirtual 236, 136, (70, 2, 12), [])) (by decide +kernel)) rfl (mz_inv_virt (N := 70) (k := 2) (t := 12) (st := [.int x0, .ref 29]) (rest := []) (b := 29) (vs := [.int x0]) (h := (mz_S0, m11)) rfl rfl (Nat.le_of_ble_eq_true rfl) (Nat.le_of_ble_eq_true rfl) (st_t (by decide : mz_isS 29 = true)) (by decide)) (mz_dc_lt (n := 2) rfl (by decide +kernel) (by decide +kernel)) (by decide +kernel) (by decide +kernel) (fun m14 => ?_)
          refine q_ic (v := 1) (mz_fe (e := (46, .iconst 1, 1, (0, 0, 0), [])) (by decide +kernel)) (by decide) ?_
          exact q_retZ (mz_fe (e := (47, .ireturn, 1, (0, 0, 0), [])) (by decide +kernel)) (by decide +kernel) (by decide)
        · refine q_ic (v := 0) (mz_fe (e := (32, .iconst 0, 1, (0, 0, 0), [])) (by decide +kernel)) (by decide) ?_
          exact q_retZ (mz_fe (e := (33, .ireturn, 1, (0, 0, 0), [])) (by decide +kernel)) (by decide +kernel) (by decide)
set_option maxRecDepth 10000 in
theorem R_X11_wash_eq (d : Nat)  (m : MzM)  : R_X11_wash d  m = (R_X11_rememberNow d  m).bind (fun m1 => (R_X6_inScrew d 29 m1).bind (fun u6 => (R_X6_emptyScrew d 29 u6.2).bind (fun m7 => some (u6.1, m7)))) := by
  show mz_cI (mz_T d 133 0 (mz_en (mz_xl 133) [.ref 1]) [] m) = _
  rw [show mz_en (mz_xl 133) [.ref 1] = [some (.ref 1), none] from by rw [show mz_xl 133 = 2 from by decide +kernel]; rfl]
  refine q_o (mz_fe (e := (0, .aload_n 0, 1, (0, 0, 0), [])) (by decide +kernel)) (pc2 := 1) rfl ?_
  refine q_callV (N := 136) (vs := [.ref 1]) (rest := []) (L' := [some (.ref 1), none]) rfl (mz_fe (e := (1, .invokevirtual 229, 134, (136, 1, 17), [])) (by decide +kernel)) rfl (mz_inv_virt (N := 136) (k := 1) (t := 17) (st := [.ref 1]) (rest := []) (b := 1) (vs := []) (h := (mz_S0, m)) rfl rfl (Nat.le_of_ble_eq_true rfl) (Nat.le_of_ble_eq_true rfl) tg_1 (by decide)) (mz_dc_lt (n := 1) rfl (by decide +kernel) (by decide +kernel)) (by decide +kernel) (by decide +kernel) (fun m1 => ?_)
  refine q_o (mz_fe (e := (4, .aload_n 0, 1, (0, 0, 0), [])) (by decide +kernel)) (pc2 := 5) rfl ?_
  refine q_getR (b := 29) (mz_fe (e := (5, .getfield 47, 95, (11, 5, 2), [])) (by decide +kernel)) rfl tg_1 (by rw [ln_1]; decide) (mz_rfS (by decide +kernel)) ?_
  refine q_callI (N := 75) (vs := [.ref 29]) (rest := []) (L' := [some (.ref 1), none]) (f := fun v5 m4 => (R_X6_emptyScrew d 29 m4).bind (fun m7 => some (v5, m7))) rfl (mz_fe (e := (8, .invokevirtual 199, 127, (75, 1, 12), [])) (by decide +kernel)) rfl (mz_inv_virt (N := 75) (k := 1) (t := 12) (st := [.ref 29]) (rest := []) (b := 29) (vs := []) (h := (mz_S0, m1)) rfl rfl (Nat.le_of_ble_eq_true rfl) (Nat.le_of_ble_eq_true rfl) (st_t (by decide : mz_isS 29 = true)) (by decide)) (mz_dc_lt (n := 1) rfl (by decide +kernel) (by decide +kernel)) (by decide +kernel) (Or.inl (by decide +kernel)) (fun v5 m4 => ?_)
  refine q_s (mz_fe (e := (11, .istore_n 1, 1, (0, 0, 0), [])) (by decide +kernel)) (pc' := 12) (L' := [some (.ref 1), some (.int v5)]) (st' := []) rfl ?_
  refine q_o (mz_fe (e := (12, .aload_n 0, 1, (0, 0, 0), [])) (by decide +kernel)) (pc2 := 13) rfl ?_
  refine q_getR (b := 29) (mz_fe (e := (13, .getfield 47, 95, (11, 5, 2), [])) (by decide +kernel)) rfl tg_1 (by rw [ln_1]; decide) (mz_rfS (by decide +kernel)) ?_
  refine q_callV (N := 71) (vs := [.ref 29]) (rest := []) (L' := [some (.ref 1), some (.int v5)]) rfl (mz_fe (e := (16, .invokevirtual 239, 137, (71, 1, 12), [])) (by decide +kernel)) rfl (mz_inv_virt (N := 71) (k := 1) (t := 12) (st := [.ref 29]) (rest := []) (b := 29) (vs := []) (h := (mz_S0, m4)) rfl rfl (Nat.le_of_ble_eq_true rfl) (Nat.le_of_ble_eq_true rfl) (st_t (by decide : mz_isS 29 = true)) (by decide)) (mz_dc_lt (n := 1) rfl (by decide +kernel) (by decide +kernel)) (by decide +kernel) (by decide +kernel) (fun m7 => ?_)
  refine q_o (mz_fe (e := (19, .iload_n 1, 1, (0, 0, 0), [])) (by decide +kernel)) (pc2 := 20) rfl ?_
  exact q_retI (mz_fe (e := (20, .ireturn, 1, (0, 0, 0), [])) (by decide +kernel)) (by decide +kernel)
set_option maxRecDepth 10000 in
theorem R_X11_days_eq (d : Nat) (x0 : Int32) (m : MzM)  : R_X11_days d x0 m = (R_X11_areDays d x0 m).bind (fun u3 => if ¬ u3.1 = 0 then (if x0 ≤ 0 then (some ((mz_rd u3.2 29 3), u3.2)) else ((R_X11_rememberNow d  u3.2).bind (fun m6 => (R_X3_goDays d 29 x0 (mz_rd m6 4 8) m6).bind (fun m9 => some ((mz_rd m9 29 3), m9))))) else (some ((-1), u3.2))) := by
  show mz_cI (mz_T d 134 0 (mz_en (mz_xl 134) [.ref 1, .int x0]) [] m) = _
  rw [show mz_en (mz_xl 134) [.ref 1, .int x0] = [some (.ref 1), some (.int x0)] from by rw [show mz_xl 134 = 2 from by decide +kernel]; rfl]
  refine q_o (mz_fe (e := (0, .iload_n 1, 1, (0, 0, 0), [])) (by decide +kernel)) (pc2 := 1) rfl ?_
  refine q_callI (N := 169) (vs := [.int x0]) (rest := []) (L' := [some (.ref 1), some (.int x0)]) (f := fun v2 m1 => if ¬ v2 = 0 then (if x0 ≤ 0 then (some ((mz_rd m1 29 3), m1)) else ((R_X11_rememberNow d  m1).bind (fun m6 => (R_X3_goDays d 29 x0 (mz_rd m6 4 8) m6).bind (fun m9 => some ((mz_rd m9 29 3), m9))))) else (some ((-1), m1))) rfl (mz_fe (e := (1, .invokestatic 242, 138, (169, 1, 1000), [])) (by decide +kernel)) rfl (mz_inv_stat (N := 169) (k := 1) (st := [.int x0]) (rest := []) (vs := [.int x0]) (h := (mz_S0, m)) rfl rfl (Nat.le_of_ble_eq_true rfl) (Nat.le_of_ble_eq_true rfl)) (mz_dc_lt (n := 1) rfl (by decide +kernel) (by decide +kernel)) (by decide +kernel) (Or.inr (by decide +kernel)) (fun v2 m1 => ?_)
  refine q_if (c := .ne) (off := 5) (t := 9) (x := v2) (y := 0) (st := []) (mz_fe (e := (4, .ifCond .ne 5, 3, (0, 0, 0), [])) (by decide +kernel)) (fun _ => rfl) rfl rfl rfl (fun c4 => ?_) (fun c4 => ?_)
  · refine q_o (mz_fe (e := (9, .iload_n 1, 1, (0, 0, 0), [])) (by decide +kernel)) (pc2 := 10) rfl ?_
    refine q_if (c := .le) (off := 26) (t := 36) (x := x0) (y := 0) (st := []) (mz_fe (e := (10, .ifCond .le 26, 3, (0, 0, 0), [])) (by decide +kernel)) (fun _ => rfl) rfl rfl rfl (fun c5 => ?_) (fun c5 => ?_)
    · refine q_o (mz_fe (e := (36, .aload_n 0, 1, (0, 0, 0), [])) (by decide +kernel)) (pc2 := 37) rfl ?_
      refine q_getR (b := 29) (mz_fe (e := (37, .getfield 47, 95, (11, 5, 2), [])) (by decide +kernel)) rfl tg_1 (by rw [ln_1]; decide) (mz_rfS (by decide +kernel)) ?_
      refine q_getI (mz_fe (e := (40, .getfield 160, 108, (6, 3, 0), [])) (by decide +kernel)) rfl (by decide) (st_t (by decide : mz_isS 29 = true)) (by rw [(st_l (by decide : mz_isS 29 = true))]; decide) ?_
      exact q_retI (mz_fe (e := (43, .ireturn, 1, (0, 0, 0), [])) (by decide +kernel)) (by decide +kernel)
    · refine q_o (mz_fe (e := (13, .aload_n 0, 1, (0, 0, 0), [])) (by decide +kernel)) (pc2 := 14) rfl ?_
      refine q_callV (N := 136) (vs := [.ref 1]) (rest := []) (L' := [some (.ref 1), some (.int x0)]) rfl (mz_fe (e := (14, .invokevirtual 229, 134, (136, 1, 17), [])) (by decide +kernel)) rfl (mz_inv_virt (N := 136) (k := 1) (t := 17) (st := [.ref 1]) (rest := []) (b := 1) (vs := []) (h := (mz_S0, m1)) rfl rfl (Nat.le_of_ble_eq_true rfl) (Nat.le_of_ble_eq_true rfl) tg_1 (by decide)) (mz_dc_lt (n := 1) rfl (by decide +kernel) (by decide +kernel)) (by decide +kernel) (by decide +kernel) (fun m6 => ?_)
      refine q_o (mz_fe (e := (17, .aload_n 0, 1, (0, 0, 0), [])) (by decide +kernel)) (pc2 := 18) rfl ?_
      refine q_getR (b := 27) (mz_fe (e := (18, .getfield 40, 94, (11, 4, 2), [])) (by decide +kernel)) rfl tg_1 (by rw [ln_1]; decide) (mz_rfS (by decide +kernel)) ?_
      refine q_o (mz_fe (e := (21, .aload_n 0, 1, (0, 0, 0), [])) (by decide +kernel)) (pc2 := 22) rfl ?_
      refine q_getR (b := 29) (mz_fe (e := (22, .getfield 47, 95, (11, 5, 2), [])) (by decide +kernel)) rfl tg_1 (by rw [ln_1]; decide) (mz_rfS (by decide +kernel)) ?_
      refine q_o (mz_fe (e := (25, .iload_n 1, 1, (0, 0, 0), [])) (by decide +kernel)) (pc2 := 26) rfl ?_
      refine q_o (mz_fe (e := (26, .aload_n 0, 1, (0, 0, 0), [])) (by decide +kernel)) (pc2 := 27) rfl ?_
      refine q_getR (b := 4) (mz_fe (e := (27, .getfield 19, 91, (11, 1, 2), [])) (by decide +kernel)) rfl tg_1 (by rw [ln_1]; decide) (mz_rfS (by decide +kernel)) ?_
      refine q_getI (mz_fe (e := (30, .getfield 210, 116, (8, 8, 0), [])) (by decide +kernel)) rfl (by decide) tg_4 (by rw [ln_4]; decide) ?_
      refine q_callV (N := 37) (vs := [.ref 27, .ref 29, .int x0, .int (mz_rd m6 4 8)]) (rest := []) (L' := [some (.ref 1), some (.int x0)]) rfl (mz_fe (e := (33, .invokevirtual 245, 139, (37, 4, 9), [])) (by decide +kernel)) rfl (mz_inv_virt (N := 37) (k := 4) (t := 9) (st := [.int (mz_rd m6 4 8), .int x0, .ref 29, .ref 27]) (rest := []) (b := 27) (vs := [.ref 29, .int x0, .int (mz_rd m6 4 8)]) (h := (mz_S0, m6)) rfl rfl (Nat.le_of_ble_eq_true rfl) (Nat.le_of_ble_eq_true rfl) tg_27 (by decide)) (mz_dc_lt (n := 4) rfl (by decide +kernel) (by decide +kernel)) (by decide +kernel) (by decide +kernel) (fun m9 => ?_)
      refine q_o (mz_fe (e := (36, .aload_n 0, 1, (0, 0, 0), [])) (by decide +kernel)) (pc2 := 37) rfl ?_
      refine q_getR (b := 29) (mz_fe (e := (37, .getfield 47, 95, (11, 5, 2), [])) (by decide +kernel)) rfl tg_1 (by rw [ln_1]; decide) (mz_rfS (by decide +kernel)) ?_
      refine q_getI (mz_fe (e := (40, .getfield 160, 108, (6, 3, 0), [])) (by decide +kernel)) rfl (by decide) (st_t (by decide : mz_isS 29 = true)) (by rw [(st_l (by decide : mz_isS 29 = true))]; decide) ?_
      exact q_retI (mz_fe (e := (43, .ireturn, 1, (0, 0, 0), [])) (by decide +kernel)) (by decide +kernel)
  · refine q_ic (v := (-1)) (mz_fe (e := (7, .iconst (-1), 1, (0, 0, 0), [])) (by decide +kernel)) (by decide) ?_
    exact q_retI (mz_fe (e := (8, .ireturn, 1, (0, 0, 0), [])) (by decide +kernel)) (by decide +kernel)
set_option maxRecDepth 10000 in
theorem R_X11_undo_eq (d : Nat)  (m : MzM)  : R_X11_undo d  m = (R_X5_forgetFound d  m).bind (fun m1 => (R_X1_bringBack d 29 m1).bind (fun u6 => mz_g (decide (u6.1 = 0 ∨ u6.1 = 1)) (some (u6.1, u6.2)))) := by
  show mz_cI (mz_T d 135 0 (mz_en (mz_xl 135) [.ref 1]) [] m) = _
  rw [show mz_en (mz_xl 135) [.ref 1] = [some (.ref 1)] from by rw [show mz_xl 135 = 1 from by decide +kernel]; rfl]
  refine q_o (mz_fe (e := (0, .aload_n 0, 1, (0, 0, 0), [])) (by decide +kernel)) (pc2 := 1) rfl ?_
  refine q_getR (b := 201) (mz_fe (e := (1, .getfield 74, 100, (11, 10, 2), [])) (by decide +kernel)) rfl tg_1 (by rw [ln_1]; decide) (mz_rfS (by decide +kernel)) ?_
  refine q_callV (N := 61) (vs := [.ref 201]) (rest := []) (L' := [some (.ref 1)]) rfl (mz_fe (e := (4, .invokevirtual 126, 114, (61, 1, 11), [])) (by decide +kernel)) rfl (mz_inv_virt (N := 61) (k := 1) (t := 11) (st := [.ref 201]) (rest := []) (b := 201) (vs := []) (h := (mz_S0, m)) rfl rfl (Nat.le_of_ble_eq_true rfl) (Nat.le_of_ble_eq_true rfl) tg_201 (by decide)) (mz_dc_lt (n := 1) rfl (by decide +kernel) (by decide +kernel)) (by decide +kernel) (by decide +kernel) (fun m1 => ?_)
  refine q_o (mz_fe (e := (7, .aload_n 0, 1, (0, 0, 0), [])) (by decide +kernel)) (pc2 := 8) rfl ?_
  refine q_getR (b := 37) (mz_fe (e := (8, .getfield 57, 97, (11, 7, 2), [])) (by decide +kernel)) rfl tg_1 (by rw [ln_1]; decide) (mz_rfS (by decide +kernel)) ?_
  refine q_o (mz_fe (e := (11, .aload_n 0, 1, (0, 0, 0), [])) (by decide +kernel)) (pc2 := 12) rfl ?_
  refine q_getR (b := 29) (mz_fe (e := (12, .getfield 47, 95, (11, 5, 2), [])) (by decide +kernel)) rfl tg_1 (by rw [ln_1]; decide) (mz_rfS (by decide +kernel)) ?_
  refine q_callI (N := 13) (vs := [.ref 37, .ref 29]) (rest := []) (L' := [some (.ref 1)]) (f := fun v5 m4 => mz_g (decide (v5 = 0 ∨ v5 = 1)) (some (v5, m4))) rfl (mz_fe (e := (15, .invokevirtual 248, 140, (13, 2, 7), [])) (by decide +kernel)) rfl (mz_inv_virt (N := 13) (k := 2) (t := 7) (st := [.ref 29, .ref 37]) (rest := []) (b := 37) (vs := [.ref 29]) (h := (mz_S0, m1)) rfl rfl (Nat.le_of_ble_eq_true rfl) (Nat.le_of_ble_eq_true rfl) tg_37 (by decide)) (mz_dc_lt (n := 2) rfl (by decide +kernel) (by decide +kernel)) (by decide +kernel) (Or.inr (by decide +kernel)) (fun v5 m4 => ?_)
  exact q_retZg (mz_fe (e := (18, .ireturn, 1, (0, 0, 0), [])) (by decide +kernel)) (by decide +kernel)
set_option maxRecDepth 10000 in
theorem R_X11_rememberNow_eq (d : Nat)  (m : MzM)  : R_X11_rememberNow d  m = (R_X5_forgetFound d  m).bind (fun m1 => (R_X1_remember d 29 m1).bind (fun m4 => some m4)) := by
  show mz_cV (mz_T d 136 0 (mz_en (mz_xl 136) [.ref 1]) [] m) = _
  rw [show mz_en (mz_xl 136) [.ref 1] = [some (.ref 1)] from by rw [show mz_xl 136 = 1 from by decide +kernel]; rfl]
  refine q_o (mz_fe (e := (0, .aload_n 0, 1, (0, 0, 0), [])) (by decide +kernel)) (pc2 := 1) rfl ?_
  refine q_getR (b := 201) (mz_fe (e := (1, .getfield 74, 100, (11, 10, 2), [])) (by decide +kernel)) rfl tg_1 (by rw [ln_1]; decide) (mz_rfS (by decide +kernel)) ?_
  refine q_callV (N := 61) (vs := [.ref 201]) (rest := []) (L' := [some (.ref 1)]) rfl (mz_fe (e := (4, .invokevirtual 126, 114, (61, 1, 11), [])) (by decide +kernel)) rfl (mz_inv_virt (N := 61) (k := 1) (t := 11) (st := [.ref 201]) (rest := []) (b := 201) (vs := []) (h := (mz_S0, m)) rfl rfl (Nat.le_of_ble_eq_true rfl) (Nat.le_of_ble_eq_true rfl) tg_201 (by decide)) (mz_dc_lt (n := 1) rfl (by decide +kernel) (by decide +kernel)) (by decide +kernel) (by decide +kernel) (fun m1 => ?_)
  refine q_o (mz_fe (e := (7, .aload_n 0, 1, (0, 0, 0), [])) (by decide +kernel)) (pc2 := 8) rfl ?_
  refine q_getR (b := 37) (mz_fe (e := (8, .getfield 57, 97, (11, 7, 2), [])) (by decide +kernel)) rfl tg_1 (by rw [ln_1]; decide) (mz_rfS (by decide +kernel)) ?_
  refine q_o (mz_fe (e := (11, .aload_n 0, 1, (0, 0, 0), [])) (by decide +kernel)) (pc2 := 12) rfl ?_
  refine q_getR (b := 29) (mz_fe (e := (12, .getfield 47, 95, (11, 5, 2), [])) (by decide +kernel)) rfl tg_1 (by rw [ln_1]; decide) (mz_rfS (by decide +kernel)) ?_
  refine q_callV (N := 12) (vs := [.ref 37, .ref 29]) (rest := []) (L' := [some (.ref 1)]) rfl (mz_fe (e := (15, .invokevirtual 252, 141, (12, 2, 7), [])) (by decide +kernel)) rfl (mz_inv_virt (N := 12) (k := 2) (t := 7) (st := [.ref 29, .ref 37]) (rest := []) (b := 37) (vs := [.ref 29]) (h := (mz_S0, m1)) rfl rfl (Nat.le_of_ble_eq_true rfl) (Nat.le_of_ble_eq_true rfl) tg_37 (by decide)) (mz_dc_lt (n := 2) rfl (by decide +kernel) (by decide +kernel)) (by decide +kernel) (by decide +kernel) (fun m4 => ?_)
  exact q_retV (mz_fe (e := (18, .return_, 1, (0, 0, 0), [])) (by decide +kernel)) (by decide +kernel)
set_option maxRecDepth 10000 in
theorem R_X11_hold_eq (d : Nat) (x0 : Int32) (m : MzM)  : R_X11_hold d x0 m = (R_X11_isSlot d x0 m).bind (fun u3 => if ¬ u3.1 = 0 then (mz_g (mz_ok x0 3) ((R_X6_copyFrom d (227 + 4 * (x0 : Int32).toNatClampNeg) 29 u3.2).bind (fun m6 => mz_g (mz_ok x0 3) (some (1, (mz_wr m6 200 (x0 : Int32).toNatClampNeg (vp_nar .boolean 1))))))) else (some (0, u3.2))) := by
  show mz_cI (mz_T d 137 0 (mz_en (mz_xl 137) [.ref 1, .int x0]) [] m) = _
  rw [show mz_en (mz_xl 137) [.ref 1, .int x0] = [some (.ref 1), some (.int x0)] from by rw [show mz_xl 137 = 2 from by decide +kernel]; rfl]
  refine q_o (mz_fe (e := (0, .iload_n 1, 1, (0, 0, 0), [])) (by decide +kernel)) (pc2 := 1) rfl ?_
  refine q_callI (N := 170) (vs := [.int x0]) (rest := []) (L' := [some (.ref 1), some (.int x0)]) (f := fun v2 m1 => if ¬ v2 = 0 then (mz_g (mz_ok x0 3) ((R_X6_copyFrom d (227 + 4 * (x0 : Int32).toNatClampNeg) 29 m1).bind (fun m6 => mz_g (mz_ok x0 3) (some (1, (mz_wr m6 200 (x0 : Int32).toNatClampNeg (vp_nar .boolean 1))))))) else (some (0, m1))) rfl (mz_fe (e := (1, .invokestatic 256, 142, (170, 1, 1000), [])) (by decide +kernel)) rfl (mz_inv_stat (N := 170) (k := 1) (st := [.int x0]) (rest := []) (vs := [.int x0]) (h := (mz_S0, m)) rfl rfl (Nat.le_of_ble_eq_true rfl) (Nat.le_of_ble_eq_true rfl)) (mz_dc_lt (n := 1) rfl (by decide +kernel) (by decide +kernel)) (by decide +kernel) (Or.inr (by decide +kernel)) (fun v2 m1 => ?_)
  refine q_if (c := .ne) (off := 5) (t := 9) (x := v2) (y := 0) (st := []) (mz_fe (e := (4, .ifCond .ne 5, 3, (0, 0, 0), [])) (by decide +kernel)) (fun _ => rfl) rfl rfl rfl (fun c4 => ?_) (fun c4 => ?_)
  · refine q_o (mz_fe (e := (9, .aload_n 0, 1, (0, 0, 0), [])) (by decide +kernel)) (pc2 := 10) rfl ?_
    refine q_getR (b := 199) (mz_fe (e := (10, .getfield 61, 98, (11, 8, 2), [])) (by decide +kernel)) rfl tg_1 (by rw [ln_1]; decide) (mz_rfS (by decide +kernel)) ?_
    refine q_o (mz_fe (e := (13, .iload_n 1, 1, (0, 0, 0), [])) (by decide +kernel)) (pc2 := 14) rfl ?_
    refine q_aaldg (F := fun j => 227 + 4 * j) rfl (mz_fe (e := (14, .aaload, 1, (0, 0, 0), [])) (by decide +kernel)) rfl tg_199 ln_199 rf_slots (fun g5 => ?_)
    refine q_o (mz_fe (e := (15, .aload_n 0, 1, (0, 0, 0), [])) (by decide +kernel)) (pc2 := 16) rfl ?_
    refine q_getR (b := 29) (mz_fe (e := (16, .getfield 47, 95, (11, 5, 2), [])) (by decide +kernel)) rfl tg_1 (by rw [ln_1]; decide) (mz_rfS (by decide +kernel)) ?_
    refine q_callV (N := 68) (vs := [.ref (227 + 4 * (x0 : Int32).toNatClampNeg), .ref 29]) (rest := []) (L' := [some (.ref 1), some (.int x0)]) rfl (mz_fe (e := (19, .invokevirtual 259, 143, (68, 2, 12), [])) (by decide +kernel)) rfl (mz_inv_virt (N := 68) (k := 2) (t := 12) (st := [.ref 29, .ref (227 + 4 * (x0 : Int32).toNatClampNeg)]) (rest := []) (b := (227 + 4 * (x0 : Int32).toNatClampNeg)) (vs := [.ref 29]) (h := (mz_S0, m1)) rfl rfl (Nat.le_of_ble_eq_true rfl) (Nat.le_of_ble_eq_true rfl) (st_t (isS_slots _ (mz_okL g5))) (by decide)) (mz_dc_lt (n := 2) rfl (by decide +kernel) (by decide +kernel)) (by decide +kernel) (by decide +kernel) (fun m6 => ?_)
    refine q_o (mz_fe (e := (22, .aload_n 0, 1, (0, 0, 0), [])) (by decide +kernel)) (pc2 := 23) rfl ?_
    refine q_getR (b := 200) (mz_fe (e := (23, .getfield 65, 99, (11, 9, 2), [])) (by decide +kernel)) rfl tg_1 (by rw [ln_1]; decide) (mz_rfS (by decide +kernel)) ?_
    refine q_o (mz_fe (e := (26, .iload_n 1, 1, (0, 0, 0), [])) (by decide +kernel)) (pc2 := 27) rfl ?_
    refine q_ic (v := 1) (mz_fe (e := (27, .iconst 1, 1, (0, 0, 0), [])) (by decide +kernel)) (by decide) ?_
    refine q_stAg (f := (vp_nar .boolean)) rfl (mz_fe (e := (28, .bastore, 1, (0, 0, 0), [])) (by decide +kernel)) (q_actZ tg_200) rfl tg_200 ln_200 (fun g9 => ?_)
    refine q_ic (v := 1) (mz_fe (e := (29, .iconst 1, 1, (0, 0, 0), [])) (by decide +kernel)) (by decide) ?_
    exact q_retZ (mz_fe (e := (30, .ireturn, 1, (0, 0, 0), [])) (by decide +kernel)) (by decide +kernel) (by decide)
  · refine q_ic (v := 0) (mz_fe (e := (7, .iconst 0, 1, (0, 0, 0), [])) (by decide +kernel)) (by decide) ?_
    exact q_retZ (mz_fe (e := (8, .ireturn, 1, (0, 0, 0), [])) (by decide +kernel)) (by decide +kernel) (by decide)
set_option maxRecDepth 10000 in
theorem R_X11_restore_eq (d : Nat) (x0 : Int32) (m : MzM)  : R_X11_restore d x0 m = (R_X11_isSlot d x0 m).bind (fun u3 => if u3.1 = 0 then (some (0, u3.2)) else (mz_g (mz_ok x0 3) (if ¬ (mz_rd u3.2 200 (x0 : Int32).toNatClampNeg) = 0 then (mz_g (mz_ok x0 3) ((R_X6_copyFrom d 29 (227 + 4 * (x0 : Int32).toNatClampNeg) u3.2).bind (fun m8 => (R_X1_clear d  m8).bind (fun m11 => (R_X5_forgetFound d  m11).bind (fun m14 => some (1, m14)))))) else (some (0, u3.2))))) := by
  show mz_cI (mz_T d 138 0 (mz_en (mz_xl 138) [.ref 1, .int x0]) [] m) = _
  rw [show mz_en (mz_xl 138) [.ref 1, .int x0] = [some (.ref 1), some (.int x0)] from by rw [show mz_xl 138 = 2 from by decide +kernel]; rfl]
  refine q_o (mz_fe (e := (0, .iload_n 1, 1, (0, 0, 0), [])) (by decide +kernel)) (pc2 := 1) rfl ?_
  refine q_callI (N := 170) (vs := [.int x0]) (rest := []) (L' := [some (.ref 1), some (.int x0)]) (f := fun v2 m1 => if v2 = 0 then (some (0, m1)) else (mz_g (mz_ok x0 3) (if ¬ (mz_rd m1 200 (x0 : Int32).toNatClampNeg) = 0 then (mz_g (mz_ok x0 3) ((R_X6_copyFrom d 29 (227 + 4 * (x0 : Int32).toNatClampNeg) m1).bind (fun m8 => (R_X1_clear d  m8).bind (fun m11 => (R_X5_forgetFound d  m11).bind (fun m14 => some (1, m14)))))) else (some (0, m1))))) rfl (mz_fe (e := (1, .invokestatic 256, 142, (170, 1, 1000), [])) (by decide +kernel)) rfl (mz_inv_stat (N := 170) (k := 1) (st := [.int x0]) (rest := []) (vs := [.int x0]) (h := (mz_S0, m)) rfl rfl (Nat.le_of_ble_eq_true rfl) (Nat.le_of_ble_eq_true rfl)) (mz_dc_lt (n := 1) rfl (by decide +kernel) (by decide +kernel)) (by decide +kernel) (Or.inr (by decide +kernel)) (fun v2 m1 => ?_)
  refine q_if (c := .eq) (off := 12) (t := 16) (x := v2) (y := 0) (st := []) (mz_fe (e := (4, .ifCond .eq 12, 3, (0, 0, 0), [])) (by decide +kernel)) (fun _ => rfl) rfl rfl rfl (fun c4 => ?_) (fun c4 => ?_)
  · refine q_ic (v := 0) (mz_fe (e := (16, .iconst 0, 1, (0, 0, 0), [])) (by decide +kernel)) (by decide) ?_
    exact q_retZ (mz_fe (e := (17, .ireturn, 1, (0, 0, 0), [])) (by decide +kernel)) (by decide +kernel) (by decide)
  · refine q_o (mz_fe (e := (7, .aload_n 0, 1, (0, 0, 0), [])) (by decide +kernel)) (pc2 := 8) rfl ?_
    refine q_getR (b := 200) (mz_fe (e := (8, .getfield 65, 99, (11, 9, 2), [])) (by decide +kernel)) rfl tg_1 (by rw [ln_1]; decide) (mz_rfS (by decide +kernel)) ?_
    refine q_o (mz_fe (e := (11, .iload_n 1, 1, (0, 0, 0), [])) (by decide +kernel)) (pc2 := 12) rfl ?_
    refine q_baldg rfl (mz_fe (e := (12, .baload, 1, (0, 0, 0), [])) (by decide +kernel)) rfl (Or.inl tg_200) ln_200 (fun g5 => ?_)
    refine q_if (c := .ne) (off := 5) (t := 18) (x := (mz_rd m1 200 (x0 : Int32).toNatClampNeg)) (y := 0) (st := []) (mz_fe (e := (13, .ifCond .ne 5, 3, (0, 0, 0), [])) (by decide +kernel)) (fun _ => rfl) rfl rfl rfl (fun c6 => ?_) (fun c6 => ?_)
    · refine q_o (mz_fe (e := (18, .aload_n 0, 1, (0, 0, 0), [])) (by decide +kernel)) (pc2 := 19) rfl ?_
      refine q_getR (b := 29) (mz_fe (e := (19, .getfield 47, 95, (11, 5, 2), [])) (by decide +kernel)) rfl tg_1 (by rw [ln_1]; decide) (mz_rfS (by decide +kernel)) ?_
      refine q_o (mz_fe (e := (22, .aload_n 0, 1, (0, 0, 0), [])) (by decide +kernel)) (pc2 := 23) rfl ?_
      refine q_getR (b := 199) (mz_fe (e := (23, .getfield 61, 98, (11, 8, 2), [])) (by decide +kernel)) rfl tg_1 (by rw [ln_1]; decide) (mz_rfS (by decide +kernel)) ?_
      refine q_o (mz_fe (e := (26, .iload_n 1, 1, (0, 0, 0), [])) (by decide +kernel)) (pc2 := 27) rfl ?_
      refine q_aaldg (F := fun j => 227 + 4 * j) rfl (mz_fe (e := (27, .aaload, 1, (0, 0, 0), [])) (by decide +kernel)) rfl tg_199 ln_199 rf_slots (fun g7 => ?_)
      refine q_callV (N := 68) (vs := [.ref 29, .ref (227 + 4 * (x0 : Int32).toNatClampNeg)]) (rest := []) (L' := [some (.ref 1), some (.int x0)]) rfl (mz_fe (e := (28, .invokevirtual 259, 143, (68, 2, 12), [])) (by decide +kernel)) rfl (mz_inv_virt (N := 68) (k := 2) (t := 12) (st := [.ref (227 + 4 * (x0 : Int32).toNatClampNeg), .ref 29]) (rest := []) (b := 29) (vs := [.ref (227 + 4 * (x0 : Int32).toNatClampNeg)]) (h := (mz_S0, m1)) rfl rfl (Nat.le_of_ble_eq_true rfl) (Nat.le_of_ble_eq_true rfl) (st_t (by decide : mz_isS 29 = true)) (by decide)) (mz_dc_lt (n := 2) rfl (by decide +kernel) (by decide +kernel)) (by decide +kernel) (by decide +kernel) (fun m8 => ?_)
      refine q_o (mz_fe (e := (31, .aload_n 0, 1, (0, 0, 0), [])) (by decide +kernel)) (pc2 := 32) rfl ?_
      refine q_getR (b := 37) (mz_fe (e := (32, .getfield 57, 97, (11, 7, 2), [])) (by decide +kernel)) rfl tg_1 (by rw [ln_1]; decide) (mz_rfS (by decide +kernel)) ?_
      refine q_callV (N := 11) (vs := [.ref 37]) (rest := []) (L' := [some (.ref 1), some (.int x0)]) rfl (mz_fe (e := (35, .invokevirtual 122, 112, (11, 1, 7), [])) (by decide +kernel)) rfl (mz_inv_virt (N := 11) (k := 1) (t := 7) (st := [.ref 37]) (rest := []) (b := 37) (vs := []) (h := (mz_S0, m8)) rfl rfl (Nat.le_of_ble_eq_true rfl) (Nat.le_of_ble_eq_true rfl) tg_37 (by decide)) (mz_dc_lt (n := 1) rfl (by decide +kernel) (by decide +kernel)) (by decide +kernel) (by decide +kernel) (fun m11 => ?_)
      refine q_o (mz_fe (e := (38, .aload_n 0, 1, (0, 0, 0), [])) (by decide +kernel)) (pc2 := 39) rfl ?_
      refine q_getR (b := 201) (mz_fe (e := (39, .getfield 74, 100, (11, 10, 2), [])) (by decide +kernel)) rfl tg_1 (by rw [ln_1]; decide) (mz_rfS (by decide +kernel)) ?_
      refine q_callV (N := 61) (vs := [.ref 201]) (rest := []) (L' := [some (.ref 1), some (.int x0)]) rfl (mz_fe (e := (42, .invokevirtual 126, 114, (61, 1, 11), [])) (by decide +kernel)) rfl (mz_inv_virt (N := 61) (k := 1) (t := 11) (st := [.ref 201]) (rest := []) (b := 201) (vs := []) (h := (mz_S0, m11)) rfl rfl (Nat.le_of_ble_eq_true rfl) (Nat.le_of_ble_eq_true rfl) tg_201 (by decide)) (mz_dc_lt (n := 1) rfl (by decide +kernel) (by decide +kernel)) (by decide +kernel) (by decide +kernel) (fun m14 => ?_)
      refine q_ic (v := 1) (mz_fe (e := (45, .iconst 1, 1, (0, 0, 0), [])) (by decide +kernel)) (by decide) ?_
      exact q_retZ (mz_fe (e := (46, .ireturn, 1, (0, 0, 0), [])) (by decide +kernel)) (by decide +kernel) (by decide)
    · refine q_ic (v := 0) (mz_fe (e := (16, .iconst 0, 1, (0, 0, 0), [])) (by decide +kernel)) (by decide) ?_
      exact q_retZ (mz_fe (e := (17, .ireturn, 1, (0, 0, 0), [])) (by decide +kernel)) (by decide +kernel) (by decide)
set_option maxRecDepth 10000 in
theorem R_X11_calm_eq (d : Nat) (x0 : Int32) (m : MzM)  : R_X11_calm d x0 m = (R_X11_isTurnNumber d x0 m).bind (fun u3 => if ¬ u3.1 = 0 then ((R_X5_find d 29 0 0 0 0 u3.2).bind (fun m5 => (R_X5_answer d x0 m5).bind (fun u10 => some (u10.1, u10.2)))) else (some ((-1), u3.2))) := by
  show mz_cI (mz_T d 139 0 (mz_en (mz_xl 139) [.ref 1, .int x0]) [] m) = _
  rw [show mz_en (mz_xl 139) [.ref 1, .int x0] = [some (.ref 1), some (.int x0)] from by rw [show mz_xl 139 = 2 from by decide +kernel]; rfl]
  refine q_o (mz_fe (e := (0, .iload_n 1, 1, (0, 0, 0), [])) (by decide +kernel)) (pc2 := 1) rfl ?_
  refine q_callI (N := 172) (vs := [.int x0]) (rest := []) (L' := [some (.ref 1), some (.int x0)]) (f := fun v2 m1 => if ¬ v2 = 0 then ((R_X5_find d 29 0 0 0 0 m1).bind (fun m5 => (R_X5_answer d x0 m5).bind (fun u10 => some (u10.1, u10.2)))) else (some ((-1), m1))) rfl (mz_fe (e := (1, .invokestatic 261, 144, (172, 1, 1000), [])) (by decide +kernel)) rfl (mz_inv_stat (N := 172) (k := 1) (st := [.int x0]) (rest := []) (vs := [.int x0]) (h := (mz_S0, m)) rfl rfl (Nat.le_of_ble_eq_true rfl) (Nat.le_of_ble_eq_true rfl)) (mz_dc_lt (n := 1) rfl (by decide +kernel) (by decide +kernel)) (by decide +kernel) (Or.inr (by decide +kernel)) (fun v2 m1 => ?_)
  refine q_if (c := .ne) (off := 5) (t := 9) (x := v2) (y := 0) (st := []) (mz_fe (e := (4, .ifCond .ne 5, 3, (0, 0, 0), [])) (by decide +kernel)) (fun _ => rfl) rfl rfl rfl (fun c4 => ?_) (fun c4 => ?_)
  · refine q_o (mz_fe (e := (9, .aload_n 0, 1, (0, 0, 0), [])) (by decide +kernel)) (pc2 := 10) rfl ?_
    refine q_getR (b := 201) (mz_fe (e := (10, .getfield 74, 100, (11, 10, 2), [])) (by decide +kernel)) rfl tg_1 (by rw [ln_1]; decide) (mz_rfS (by decide +kernel)) ?_
    refine q_o (mz_fe (e := (13, .aload_n 0, 1, (0, 0, 0), [])) (by decide +kernel)) (pc2 := 14) rfl ?_
    refine q_getR (b := 29) (mz_fe (e := (14, .getfield 47, 95, (11, 5, 2), [])) (by decide +kernel)) rfl tg_1 (by rw [ln_1]; decide) (mz_rfS (by decide +kernel)) ?_
    refine q_ic (v := 0) (mz_fe (e := (17, .iconst 0, 1, (0, 0, 0), [])) (by decide +kernel)) (by decide) ?_
    refine q_ic (v := 0) (mz_fe (e := (18, .iconst 0, 1, (0, 0, 0), [])) (by decide +kernel)) (by decide) ?_
    refine q_ic (v := 0) (mz_fe (e := (19, .iconst 0, 1, (0, 0, 0), [])) (by decide +kernel)) (by decide) ?_
    refine q_ic (v := 0) (mz_fe (e := (20, .iconst 0, 1, (0, 0, 0), [])) (by decide +kernel)) (by decide) ?_
    refine q_callV (N := 62) (vs := [.ref 201, .ref 29, .int 0, .int 0, .int 0, .int 0]) (rest := []) (L' := [some (.ref 1), some (.int x0)]) rfl (mz_fe (e := (21, .invokevirtual 264, 145, (62, 6, 11), [])) (by decide +kernel)) rfl (mz_inv_virt (N := 62) (k := 6) (t := 11) (st := [.int 0, .int 0, .int 0, .int 0, .ref 29, .ref 201]) (rest := []) (b := 201) (vs := [.ref 29, .int 0, .int 0, .int 0, .int 0]) (h := (mz_S0, m1)) rfl rfl (Nat.le_of_ble_eq_true rfl) (Nat.le_of_ble_eq_true rfl) tg_201 (by decide)) (mz_dc_lt (n := 6) rfl (by decide +kernel) (by decide +kernel)) (by decide +kernel) (by decide +kernel) (fun m5 => ?_)
    refine q_o (mz_fe (e := (24, .aload_n 0, 1, (0, 0, 0), [])) (by decide +kernel)) (pc2 := 25) rfl ?_
    refine q_getR (b := 201) (mz_fe (e := (25, .getfield 74, 100, (11, 10, 2), [])) (by decide +kernel)) rfl tg_1 (by rw [ln_1]; decide) (mz_rfS (by decide +kernel)) ?_
    refine q_o (mz_fe (e := (28, .iload_n 1, 1, (0, 0, 0), [])) (by decide +kernel)) (pc2 := 29) rfl ?_
    refine q_callI (N := 63) (vs := [.ref 201, .int x0]) (rest := []) (L' := [some (.ref 1), some (.int x0)]) (f := fun v9 m8 => some (v9, m8)) rfl (mz_fe (e := (29, .invokevirtual 268, 146, (63, 2, 11), [])) (by decide +kernel)) rfl (mz_inv_virt (N := 63) (k := 2) (t := 11) (st := [.int x0, .ref 201]) (rest := []) (b := 201) (vs := [.int x0]) (h := (mz_S0, m5)) rfl rfl (Nat.le_of_ble_eq_true rfl) (Nat.le_of_ble_eq_true rfl) tg_201 (by decide)) (mz_dc_lt (n := 2) rfl (by decide +kernel) (by decide +kernel)) (by decide +kernel) (Or.inl (by decide +kernel)) (fun v9 m8 => ?_)
    exact q_retI (mz_fe (e := (32, .ireturn, 1, (0, 0, 0), [])) (by decide +kernel)) (by decide +kernel)
  · refine q_ic (v := (-1)) (mz_fe (e := (7, .iconst (-1), 1, (0, 0, 0), [])) (by decide +kernel)) (by decide) ?_
    exact q_retI (mz_fe (e := (8, .ireturn, 1, (0, 0, 0), [])) (by decide +kernel)) (by decide +kernel)
set_option maxRecDepth 10000 in
theorem R_X11_rich_eq (d : Nat) (x0 : Int32) (x1 : Int32) (x2 : Int32) (x3 : Int32) (m : MzM)  : R_X11_rich d x0 x1 x2 x3 m = (R_X11_isPerson d x0 m).bind (fun u3 => if u3.1 = 0 then (some ((-1), u3.2)) else ((R_X11_isStuff d x1 u3.2).bind (fun u7 => if u7.1 = 0 then (some ((-1), u7.2)) else ((R_X11_isAmount d x2 u7.2).bind (fun u11 => if u11.1 = 0 then (some ((-1), u11.2)) else ((R_X11_isTurnNumber d x3 u11.2).bind (fun u15 => if ¬ u15.1 = 0 then ((R_X5_find d 29 1 x0 x1 x2 u15.2).bind (fun m17 => (R_X5_answer d x3 m17).bind (fun u22 => some (u22.1, u22.2)))) else (some ((-1), u15.2))))))))) := by
  show mz_cI (mz_T d 140 0 (mz_en (mz_xl 140) [.ref 1, .int x0, .int x1, .int x2, .int x3]) [] m) = _
  rw [show mz_en (mz_xl 140) [.ref 1, .int x0, .int x1, .int x2, .int x3] = [some (.ref 1), some (.int x0), some (.int x1), some (.int x2), some (.int x3)] from by rw [show mz_xl 140 = 5 from by decide +kernel]; rfl]
  refine q_o (mz_fe (e := (0, .aload_n 0, 1, (0, 0, 0), [])) (by decide +kernel)) (pc2 := 1) rfl ?_
  refine q_o (mz_fe (e := (1, .iload_n 1, 1, (0, 0, 0), [])) (by decide +kernel)) (pc2 := 2) rfl ?_
  refine q_callI (N := 165) (vs := [.ref 1, .int x0]) (rest := []) (L' := [some (.ref 1), some (.int x0), some (.int x1), some (.int x2), some (.int x3)]) (f := fun v2 m1 => if v2 = 0 then (some ((-1), m1)) else ((R_X11_isStuff d x1 m1).bind (fun u7 => if u7.1 = 0 then (some ((-1), u7.2)) else ((R_X11_isAmount d x2 u7.2).bind (fun u11 => if u11.1 = 0 then (some ((-1), u11.2)) else ((R_X11_isTurnNumber d x3 u11.2).bind (fun u15 => if ¬ u15.1 = 0 then ((R_X5_find d 29 1 x0 x1 x2 u15.2).bind (fun m17 => (R_X5_answer d x3 m17).bind (fun u22 => some (u22.1, u22.2)))) else (some ((-1), u15.2))))))))) rfl (mz_fe (e := (2, .invokevirtual 129, 115, (165, 2, 17), [])) (by decide +kernel)) rfl (mz_inv_virt (N := 165) (k := 2) (t := 17) (st := [.int x0, .ref 1]) (rest := []) (b := 1) (vs := [.int x0]) (h := (mz_S0, m)) rfl rfl (Nat.le_of_ble_eq_true rfl) (Nat.le_of_ble_eq_true rfl) tg_1 (by decide)) (mz_dc_lt (n := 2) rfl (by decide +kernel) (by decide +kernel)) (by decide +kernel) (Or.inr (by decide +kernel)) (fun v2 m1 => ?_)
  refine q_if (c := .eq) (off := 25) (t := 30) (x := v2) (y := 0) (st := []) (mz_fe (e := (5, .ifCond .eq 25, 3, (0, 0, 0), [])) (by decide +kernel)) (fun _ => rfl) rfl rfl rfl (fun c4 => ?_) (fun c4 => ?_)
  · refine q_ic (v := (-1)) (mz_fe (e := (30, .iconst (-1), 1, (0, 0, 0), [])) (by decide +kernel)) (by decide) ?_
    exact q_retI (mz_fe (e := (31, .ireturn, 1, (0, 0, 0), [])) (by decide +kernel)) (by decide +kernel)
  · refine q_o (mz_fe (e := (8, .iload_n 2, 1, (0, 0, 0), [])) (by decide +kernel)) (pc2 := 9) rfl ?_
    refine q_callI (N := 167) (vs := [.int x1]) (rest := []) (L' := [some (.ref 1), some (.int x0), some (.int x1), some (.int x2), some (.int x3)]) (f := fun v6 m5 => if v6 = 0 then (some ((-1), m5)) else ((R_X11_isAmount d x2 m5).bind (fun u11 => if u11.1 = 0 then (some ((-1), u11.2)) else ((R_X11_isTurnNumber d x3 u11.2).bind (fun u15 => if ¬ u15.1 = 0 then ((R_X5_find d 29 1 x0 x1 x2 u15.2).bind (fun m17 => (R_X5_answer d x3 m17).bind (fun u22 => some (u22.1, u22.2)))) else (some ((-1), u15.2))))))) rfl (mz_fe (e := (9, .invokestatic 132, 116, (167, 1, 1000), [])) (by decide +kernel)) rfl (mz_inv_stat (N := 167) (k := 1) (st := [.int x1]) (rest := []) (vs := [.int x1]) (h := (mz_S0, m1)) rfl rfl (Nat.le_of_ble_eq_true rfl) (Nat.le_of_ble_eq_true rfl)) (mz_dc_lt (n := 1) rfl (by decide +kernel) (by decide +kernel)) (by decide +kernel) (Or.inr (by decide +kernel)) (fun v6 m5 => ?_)
    refine q_if (c := .eq) (off := 18) (t := 30) (x := v6) (y := 0) (st := []) (mz_fe (e := (12, .ifCond .eq 18, 3, (0, 0, 0), [])) (by decide +kernel)) (fun _ => rfl) rfl rfl rfl (fun c8 => ?_) (fun c8 => ?_)
    · refine q_ic (v := (-1)) (mz_fe (e := (30, .iconst (-1), 1, (0, 0, 0), [])) (by decide +kernel)) (by decide) ?_
      exact q_retI (mz_fe (e := (31, .ireturn, 1, (0, 0, 0), [])) (by decide +kernel)) (by decide +kernel)
    · refine q_o (mz_fe (e := (15, .iload_n 3, 1, (0, 0, 0), [])) (by decide +kernel)) (pc2 := 16) rfl ?_
      refine q_callI (N := 168) (vs := [.int x2]) (rest := []) (L' := [some (.ref 1), some (.int x0), some (.int x1), some (.int x2), some (.int x3)]) (f := fun v10 m9 => if v10 = 0 then (some ((-1), m9)) else ((R_X11_isTurnNumber d x3 m9).bind (fun u15 => if ¬ u15.1 = 0 then ((R_X5_find d 29 1 x0 x1 x2 u15.2).bind (fun m17 => (R_X5_answer d x3 m17).bind (fun u22 => some (u22.1, u22.2)))) else (some ((-1), u15.2))))) rfl (mz_fe (e := (16, .invokestatic 271, 147, (168, 1, 1000), [])) (by decide +kernel)) rfl (mz_inv_stat (N := 168) (k := 1) (st := [.int x2]) (rest := []) (vs := [.int x2]) (h := (mz_S0, m5)) rfl rfl (Nat.le_of_ble_eq_true rfl) (Nat.le_of_ble_eq_true rfl)) (mz_dc_lt (n := 1) rfl (by decide +kernel) (by decide +kernel)) (by decide +kernel) (Or.inr (by decide +kernel)) (fun v10 m9 => ?_)
      refine q_if (c := .eq) (off := 11) (t := 30) (x := v10) (y := 0) (st := []) (mz_fe (e := (19, .ifCond .eq 11, 3, (0, 0, 0), [])) (by decide +kernel)) (fun _ => rfl) rfl rfl rfl (fun c12 => ?_) (fun c12 => ?_)
      · refine q_ic (v := (-1)) (mz_fe (e := (30, .iconst (-1), 1, (0, 0, 0), [])) (by decide +kernel)) (by decide) ?_
        exact q_retI (mz_fe (e := (31, .ireturn, 1, (0, 0, 0), [])) (by decide +kernel)) (by decide +kernel)
      · refine q_o (mz_fe (e := (22, .iload 4, 2, (0, 0, 0), [])) (by decide +kernel)) (pc2 := 24) rfl ?_
        refine q_callI (N := 172) (vs := [.int x3]) (rest := []) (L' := [some (.ref 1), some (.int x0), some (.int x1), some (.int x2), some (.int x3)]) (f := fun v14 m13 => if ¬ v14 = 0 then ((R_X5_find d 29 1 x0 x1 x2 m13).bind (fun m17 => (R_X5_answer d x3 m17).bind (fun u22 => some (u22.1, u22.2)))) else (some ((-1), m13))) rfl (mz_fe (e := (24, .invokestatic 261, 144, (172, 1, 1000), [])) (by decide +kernel)) rfl (mz_inv_stat (N := 172) (k := 1) (st := [.int x3]) (rest := []) (vs := [.int x3]) (h := (mz_S0, m9)) rfl rfl (Nat.le_of_ble_eq_true rfl) (Nat.le_of_ble_eq_true rfl)) (mz_dc_lt (n := 1) rfl (by decide +kernel) (by decide +kernel)) (by decide +kernel) (Or.inr (by decide +kernel)) (fun v14 m13 => ?_)
        refine q_if (c := .ne) (off := 5) (t := 32) (x := v14) (y := 0) (st := []) (mz_fe (e := (27, .ifCond .ne 5, 3, (0, 0, 0), [])) (by decide +kernel)) (fun _ => rfl) rfl rfl rfl (fun c16 => ?_) (fun c16 => ?_)
        · refine q_o (mz_fe (e := (32, .aload_n 0, 1, (0, 0, 0), [])) (by decide +kernel)) (pc2 := 33) rfl ?_
          refine q_getR (b := 201) (mz_fe (e := (33, .getfield 74, 100, (11, 10, 2), [])) (by decide +kernel)) rfl tg_1 (by rw [ln_1]; decide) (mz_rfS (by decide +kernel)) ?_
          refine q_o (mz_fe (e := (36, .aload_n 0, 1, (0, 0, 0), [])) (by decide +kernel)) (pc2 := 37) rfl ?_
          refine q_getR (b := 29) (mz_fe (e := (37, .getfield 47, 95, (11, 5, 2), [])) (by decide +kernel)) rfl tg_1 (by rw [ln_1]; decide) (mz_rfS (by decide +kernel)) ?_
          refine q_ic (v := 1) (mz_fe (e := (40, .iconst 1, 1, (0, 0, 0), [])) (by decide +kernel)) (by decide) ?_
          refine q_o (mz_fe (e := (41, .iload_n 1, 1, (0, 0, 0), [])) (by decide +kernel)) (pc2 := 42) rfl ?_
          refine q_o (mz_fe (e := (42, .iload_n 2, 1, (0, 0, 0), [])) (by decide +kernel)) (pc2 := 43) rfl ?_
          refine q_o (mz_fe (e := (43, .iload_n 3, 1, (0, 0, 0), [])) (by decide +kernel)) (pc2 := 44) rfl ?_
          refine q_callV (N := 62) (vs := [.ref 201, .ref 29, .int 1, .int x0, .int x1, .int x2]) (rest := []) (L' := [some (.ref 1), some (.int x0), some (.int x1), some (.int x2), some (.int x3)]) rfl (mz_fe (e := (44, .invokevirtual 264, 145, (62, 6, 11), [])) (by decide +kernel)) rfl (mz_inv_virt (N := 62) (k := 6) (t := 11) (st := [.int x2, .int x1, .int x0, .int 1, .ref 29, .ref 201]) (rest := []) (b := 201) (vs := [.ref 29, .int 1, .int x0, .int x1, .int x2]) (h := (mz_S0, m13)) rfl rfl (Nat.le_of_ble_eq_true rfl) (Nat.le_of_ble_eq_true rfl) tg_201 (by decide)) (mz_dc_lt (n := 6) rfl (by decide +kernel) (by decide +kernel)) (by decide +kernel) (by decide +kernel) (fun m17 => ?_)
          refine q_o (mz_fe (e := (47, .aload_n 0, 1, (0, 0, 0), [])) (by decide +kernel)) (pc2 := 48) rfl ?_
          refine q_getR (b := 201) (mz_fe (e := (48, .getfield 74, 100, (11, 10, 2), [])) (by decide +kernel)) rfl tg_1 (by rw [ln_1]; decide) (mz_rfS (by decide +kernel)) ?_
          refine q_o (mz_fe (e := (51, .iload 4, 2, (0, 0, 0), [])) (by decide +kernel)) (pc2 := 53) rfl ?_
          refine q_callI (N := 63) (vs := [.ref 201, .int x3]) (rest := []) (L' := [some (.ref 1), some (.int x0), some (.int x1), some (.int x2), some (.int x3)]) (f := fun v21 m20 => some (v21, m20)) rfl (mz_fe (e := (53, .invokevirtual 268, 146, (63, 2, 11), [])) (by decide +kernel)) rfl (mz_inv_virt (N := 63) (k := 2) (t := 11) (st := [.int x3, .ref 201]) (rest := []) (b := 201) (vs := [.int x3]) (h := (mz_S0, m17)) rfl rfl (Nat.le_of_ble_eq_true rfl) (Nat.le_of_ble_eq_true rfl) tg_201 (by decide)) (mz_dc_lt (n := 2) rfl (by decide +kernel) (by decide +kernel)) (by decide +kernel) (Or.inl (by decide +kernel)) (fun v21 m20 => ?_)
          exact q_retI (mz_fe (e := (56, .ireturn, 1, (0, 0, 0), [])) (by decide +kernel)) (by decide +kernel)
        · refine q_ic (v := (-1)) (mz_fe (e := (30, .iconst (-1), 1, (0, 0, 0), [])) (by decide +kernel)) (by decide) ?_
          exact q_retI (mz_fe (e := (31, .ireturn, 1, (0, 0, 0), [])) (by decide +kernel)) (by decide +kernel)
set_option maxRecDepth 10000 in
theorem R_X11_alike_eq (d : Nat) (x0 : Int32) (x1 : Int32) (x2 : Int32) (m : MzM)  : R_X11_alike d x0 x1 x2 m = (R_X11_areTwo d x0 x1 m).bind (fun u3 => if u3.1 = 0 then (some ((-1), u3.2)) else ((R_X11_isTurnNumber d x2 u3.2).bind (fun u7 => if ¬ u7.1 = 0 then ((R_X5_find d 29 2 x0 x1 0 u7.2).bind (fun m9 => (R_X5_answer d x2 m9).bind (fun u14 => some (u14.1, u14.2)))) else (some ((-1), u7.2))))) := by
  show mz_cI (mz_T d 141 0 (mz_en (mz_xl 141) [.ref 1, .int x0, .int x1, .int x2]) [] m) = _
  rw [show mz_en (mz_xl 141) [.ref 1, .int x0, .int x1, .int x2] = [some (.ref 1), some (.int x0), some (.int x1), some (.int x2)] from by rw [show mz_xl 141 = 4 from by decide +kernel]; rfl]
  refine q_o (mz_fe (e := (0, .aload_n 0, 1, (0, 0, 0), [])) (by decide +kernel)) (pc2 := 1) rfl ?_
  refine q_o (mz_fe (e := (1, .iload_n 1, 1, (0, 0, 0), [])) (by decide +kernel)) (pc2 := 2) rfl ?_
  refine q_o (mz_fe (e := (2, .iload_n 2, 1, (0, 0, 0), [])) (by decide +kernel)) (pc2 := 3) rfl ?_
  refine q_callI (N := 166) (vs := [.ref 1, .int x0, .int x1]) (rest := []) (L' := [some (.ref 1), some (.int x0), some (.int x1), some (.int x2)]) (f := fun v2 m1 => if v2 = 0 then (some ((-1), m1)) else ((R_X11_isTurnNumber d x2 m1).bind (fun u7 => if ¬ u7.1 = 0 then ((R_X5_find d 29 2 x0 x1 0 u7.2).bind (fun m9 => (R_X5_answer d x2 m9).bind (fun u14 => some (u14.1, u14.2)))) else (some ((-1), u7.2))))) rfl (mz_fe (e := (3, .invokevirtual 167, 122, (166, 3, 17), [])) (by decide +kernel)) rfl (mz_inv_virt (N := 166) (k := 3) (t := 17) (st := [.int x1, .int x0, .ref 1]) (rest := []) (b := 1) (vs := [.int x0, .int x1]) (h := (mz_S0, m)) rfl rfl (Nat.le_of_ble_eq_true rfl) (Nat.le_of_ble_eq_true rfl) tg_1 (by decide)) (mz_dc_lt (n := 3) rfl (by decide +kernel) (by decide +kernel)) (by decide +kernel) (Or.inr (by decide +kernel)) (fun v2 m1 => ?_)
  refine q_if (c := .eq) (off := 10) (t := 16) (x := v2) (y := 0) (st := []) (mz_fe (e := (6, .ifCond .eq 10, 3, (0, 0, 0), [])) (by decide +kernel)) (fun _ => rfl) rfl rfl rfl (fun c4 => ?_) (fun c4 => ?_)
  · refine q_ic (v := (-1)) (mz_fe (e := (16, .iconst (-1), 1, (0, 0, 0), [])) (by decide +kernel)) (by decide) ?_
    exact q_retI (mz_fe (e := (17, .ireturn, 1, (0, 0, 0), [])) (by decide +kernel)) (by decide +kernel)
  · refine q_o (mz_fe (e := (9, .iload_n 3, 1, (0, 0, 0), [])) (by decide +kernel)) (pc2 := 10) rfl ?_
    refine q_callI (N := 172) (vs := [.int x2]) (rest := []) (L' := [some (.ref 1), some (.int x0), some (.int x1), some (.int x2)]) (f := fun v6 m5 => if ¬ v6 = 0 then ((R_X5_find d 29 2 x0 x1 0 m5).bind (fun m9 => (R_X5_answer d x2 m9).bind (fun u14 => some (u14.1, u14.2)))) else (some ((-1), m5))) rfl (mz_fe (e := (10, .invokestatic 261, 144, (172, 1, 1000), [])) (by decide +kernel)) rfl (mz_inv_stat (N := 172) (k := 1) (st := [.int x2]) (rest := []) (vs := [.int x2]) (h := (mz_S0, m1)) rfl rfl (Nat.le_of_ble_eq_true rfl) (Nat.le_of_ble_eq_true rfl)) (mz_dc_lt (n := 1) rfl (by decide +kernel) (by decide +kernel)) (by decide +kernel) (Or.inr (by decide +kernel)) (fun v6 m5 => ?_)
    refine q_if (c := .ne) (off := 5) (t := 18) (x := v6) (y := 0) (st := []) (mz_fe (e := (13, .ifCond .ne 5, 3, (0, 0, 0), [])) (by decide +kernel)) (fun _ => rfl) rfl rfl rfl (fun c8 => ?_) (fun c8 => ?_)
    · refine q_o (mz_fe (e := (18, .aload_n 0, 1, (0, 0, 0), [])) (by decide +kernel)) (pc2 := 19) rfl ?_
      refine q_getR (b := 201) (mz_fe (e := (19, .getfield 74, 100, (11, 10, 2), [])) (by decide +kernel)) rfl tg_1 (by rw [ln_1]; decide) (mz_rfS (by decide +kernel)) ?_
      refine q_o (mz_fe (e := (22, .aload_n 0, 1, (0, 0, 0), [])) (by decide +kernel)) (pc2 := 23) rfl ?_
      refine q_getR (b := 29) (mz_fe (e := (23, .getfield 47, 95, (11, 5, 2), [])) (by decide +kernel)) rfl tg_1 (by rw [ln_1]; decide) (mz_rfS (by decide +kernel)) ?_
      refine q_ic (v := 2) (mz_fe (e := (26, .iconst 2, 1, (0, 0, 0), [])) (by decide +kernel)) (by decide) ?_
      refine q_o (mz_fe (e := (27, .iload_n 1, 1, (0, 0, 0), [])) (by decide +kernel)) (pc2 := 28) rfl ?_
      refine q_o (mz_fe (e := (28, .iload_n 2, 1, (0, 0, 0), [])) (by decide +kernel)) (pc2 := 29) rfl ?_
      refine q_ic (v := 0) (mz_fe (e := (29, .iconst 0, 1, (0, 0, 0), [])) (by decide +kernel)) (by decide) ?_
      refine q_callV (N := 62) (vs := [.ref 201, .ref 29, .int 2, .int x0, .int x1, .int 0]) (rest := []) (L' := [some (.ref 1), some (.int x0), some (.int x1), some (.int x2)]) rfl (mz_fe (e := (30, .invokevirtual 264, 145, (62, 6, 11), [])) (by decide +kernel)) rfl (mz_inv_virt (N := 62) (k := 6) (t := 11) (st := [.int 0, .int x1, .int x0, .int 2, .ref 29, .ref 201]) (rest := []) (b := 201) (vs := [.ref 29, .int 2, .int x0, .int x1, .int 0]) (h := (mz_S0, m5)) rfl rfl (Nat.le_of_ble_eq_true rfl) (Nat.le_of_ble_eq_true rfl) tg_201 (by decide)) (mz_dc_lt (n := 6) rfl (by decide +kernel) (by decide +kernel)) (by decide +kernel) (by decide +kernel) (fun m9 => ?_)
      refine q_o (mz_fe (e := (33, .aload_n 0, 1, (0, 0, 0), [])) (by decide +kernel)) (pc2 := 34) rfl ?_
      refine q_getR (b := 201) (mz_fe (e := (34, .getfield 74, 100, (11, 10, 2), [])) (by decide +kernel)) rfl tg_1 (by rw [ln_1]; decide) (mz_rfS (by decide +kernel)) ?_
      refine q_o (mz_fe (e := (37, .iload_n 3, 1, (0, 0, 0), [])) (by decide +kernel)) (pc2 := 38) rfl ?_
      refine q_callI (N := 63) (vs := [.ref 201, .int x2]) (rest := []) (L' := [some (.ref 1), some (.int x0), some (.int x1), some (.int x2)]) (f := fun v13 m12 => some (v13, m12)) rfl (mz_fe (e := (38, .invokevirtual 268, 146, (63, 2, 11), [])) (by decide +kernel)) rfl (mz_inv_virt (N := 63) (k := 2) (t := 11) (st := [.int x2, .ref 201]) (rest := []) (b := 201) (vs := [.int x2]) (h := (mz_S0, m9)) rfl rfl (Nat.le_of_ble_eq_true rfl) (Nat.le_of_ble_eq_true rfl) tg_201 (by decide)) (mz_dc_lt (n := 2) rfl (by decide +kernel) (by decide +kernel)) (by decide +kernel) (Or.inl (by decide +kernel)) (fun v13 m12 => ?_)
      exact q_retI (mz_fe (e := (41, .ireturn, 1, (0, 0, 0), [])) (by decide +kernel)) (by decide +kernel)
    · refine q_ic (v := (-1)) (mz_fe (e := (16, .iconst (-1), 1, (0, 0, 0), [])) (by decide +kernel)) (by decide) ?_
      exact q_retI (mz_fe (e := (17, .ireturn, 1, (0, 0, 0), [])) (by decide +kernel)) (by decide +kernel)
set_option maxRecDepth 10000 in
theorem R_X11_best_eq (d : Nat) (x0 : Int32) (m : MzM)  : R_X11_best d x0 m = (R_X11_isZeroOrOne d x0 m).bind (fun u3 => if ¬ u3.1 = 0 then (H_X11_best_18 d x0 (-2) (-2) 0 u3.2) else (some ((-1), u3.2))) := by
  show mz_cI (mz_T d 142 0 (mz_en (mz_xl 142) [.ref 1, .int x0]) [] m) = _
  rw [show mz_en (mz_xl 142) [.ref 1, .int x0] = [some (.ref 1), some (.int x0), none, none, none, none, none] from by rw [show mz_xl 142 = 7 from by decide +kernel]; rfl]
  refine q_o (mz_fe (e := (0, .iload_n 1, 1, (0, 0, 0), [])) (by decide +kernel)) (pc2 := 1) rfl ?_
  refine q_callI (N := 171) (vs := [.int x0]) (rest := []) (L' := [some (.ref 1), some (.int x0), none, none, none, none, none]) (f := fun v2 m1 => if ¬ v2 = 0 then (H_X11_best_18 d x0 (-2) (-2) 0 m1) else (some ((-1), m1))) rfl (mz_fe (e := (1, .invokestatic 274, 148, (171, 1, 1000), [])) (by decide +kernel)) rfl (mz_inv_stat (N := 171) (k := 1) (st := [.int x0]) (rest := []) (vs := [.int x0]) (h := (mz_S0, m)) rfl rfl (Nat.le_of_ble_eq_true rfl) (Nat.le_of_ble_eq_true rfl)) (mz_dc_lt (n := 1) rfl (by decide +kernel) (by decide +kernel)) (by decide +kernel) (Or.inr (by decide +kernel)) (fun v2 m1 => ?_)
  refine q_if (c := .ne) (off := 5) (t := 9) (x := v2) (y := 0) (st := []) (mz_fe (e := (4, .ifCond .ne 5, 3, (0, 0, 0), [])) (by decide +kernel)) (fun _ => rfl) rfl rfl rfl (fun c4 => ?_) (fun c4 => ?_)
  · refine q_bi (v := (-2)) (mz_fe (e := (9, .bipush (-2), 2, (0, 0, 0), [])) (by decide +kernel)) (by decide) ?_
    refine q_s (mz_fe (e := (11, .istore_n 2, 1, (0, 0, 0), [])) (by decide +kernel)) (pc' := 12) (L' := [some (.ref 1), some (.int x0), some (.int (-2)), none, none, none, none]) (st' := []) rfl ?_
    refine q_bi (v := (-2)) (mz_fe (e := (12, .bipush (-2), 2, (0, 0, 0), [])) (by decide +kernel)) (by decide) ?_
    refine q_s (mz_fe (e := (14, .istore_n 3, 1, (0, 0, 0), [])) (by decide +kernel)) (pc' := 15) (L' := [some (.ref 1), some (.int x0), some (.int (-2)), some (.int (-2)), none, none, none]) (st' := []) rfl ?_
    refine q_ic (v := 0) (mz_fe (e := (15, .iconst 0, 1, (0, 0, 0), [])) (by decide +kernel)) (by decide) ?_
    refine q_s (mz_fe (e := (16, .istore 4, 2, (0, 0, 0), [])) (by decide +kernel)) (pc' := 18) (L' := [some (.ref 1), some (.int x0), some (.int (-2)), some (.int (-2)), some (.int 0), none, none]) (st' := []) rfl ?_
    exact congrArg mz_cI (mz_At_msk (L := [some (.ref 1), some (.int x0), some (.int (-2)), some (.int (-2)), some (.int 0), none, none]) (L2 := [some (.ref 1), some (.int x0), some (.int (-2)), some (.int (-2)), some (.int 0), none, none]) (mz_fe (e := (18, .iload 4, 2, (0, 0, 0), [true, true, true, true, true, false, false])) (by decide +kernel)) rfl rfl)
  · refine q_ic (v := (-1)) (mz_fe (e := (7, .iconst (-1), 1, (0, 0, 0), [])) (by decide +kernel)) (by decide) ?_
    exact q_retI (mz_fe (e := (8, .ireturn, 1, (0, 0, 0), [])) (by decide +kernel)) (by decide +kernel)
set_option maxRecDepth 10000 in
theorem H_X11_best_18_eq (d : Nat) (y1 : Int32) (y2 : Int32) (y3 : Int32) (y4 : Int32) (m : MzM)  : H_X11_best_18 d y1 y2 y3 y4 m = if (mz_rd m 4 4) ≤ y4 then (if ¬ y1 = 0 then (some (y3, m)) else (some (y2, m))) else (H_X11_best_36 d y1 y2 y3 y4 (y4 + 1) m) := by
  show mz_cI (mz_T d 142 18 [some (.ref 1), some (.int y1), some (.int y2), some (.int y3), some (.int y4), none, none] [] m) = _
  refine q_s (mz_fe (e := (18, .iload 4, 2, (0, 0, 0), [true, true, true, true, true, false, false])) (by decide +kernel)) (pc' := 20) (L' := [some (.ref 1), some (.int y1), some (.int y2), some (.int y3), some (.int y4), none, none]) (st' := [.int y4]) rfl ?_
  refine q_o (mz_fe (e := (20, .aload_n 0, 1, (0, 0, 0), [])) (by decide +kernel)) (pc2 := 21) rfl ?_
  refine q_getR (b := 4) (mz_fe (e := (21, .getfield 19, 91, (11, 1, 2), [])) (by decide +kernel)) rfl tg_1 (by rw [ln_1]; decide) (mz_rfS (by decide +kernel)) ?_
  refine q_getI (mz_fe (e := (24, .getfield 187, 109, (8, 4, 0), [])) (by decide +kernel)) rfl (by decide) tg_4 (by rw [ln_4]; decide) ?_
  refine q_if (c := .ge) (off := 67) (t := 94) (x := y4) (y := (mz_rd m 4 4)) (st := []) (mz_fe (e := (27, .if_icmp .ge 67, 3, (0, 0, 0), [])) (by decide +kernel)) (fun _ => rfl) rfl rfl rfl (fun c5 => ?_) (fun c5 => ?_)
  · refine q_o (mz_fe (e := (94, .iload_n 1, 1, (0, 0, 0), [])) (by decide +kernel)) (pc2 := 95) rfl ?_
    refine q_if (c := .ne) (off := 7) (t := 102) (x := y1) (y := 0) (st := []) (mz_fe (e := (95, .ifCond .ne 7, 3, (0, 0, 0), [])) (by decide +kernel)) (fun _ => rfl) rfl rfl rfl (fun c6 => ?_) (fun c6 => ?_)
    · refine q_o (mz_fe (e := (102, .iload_n 3, 1, (0, 0, 0), [])) (by decide +kernel)) (pc2 := 103) rfl ?_
      exact q_retI (mz_fe (e := (103, .ireturn, 1, (0, 0, 0), [])) (by decide +kernel)) (by decide +kernel)
    · refine q_o (mz_fe (e := (98, .iload_n 2, 1, (0, 0, 0), [])) (by decide +kernel)) (pc2 := 99) rfl ?_
      refine q_o (mz_fe (e := (99, .goto 4, 3, (0, 0, 0), [])) (by decide +kernel)) (pc2 := 103) rfl ?_
      exact q_retI (mz_fe (e := (103, .ireturn, 1, (0, 0, 0), [])) (by decide +kernel)) (by decide +kernel)
  · refine q_o (mz_fe (e := (30, .iload 4, 2, (0, 0, 0), [])) (by decide +kernel)) (pc2 := 32) rfl ?_
    refine q_ic (v := 1) (mz_fe (e := (32, .iconst 1, 1, (0, 0, 0), [])) (by decide +kernel)) (by decide) ?_
    refine q_o (mz_fe (e := (33, .iadd, 1, (0, 0, 0), [])) (by decide +kernel)) (pc2 := 34) rfl ?_
    refine q_s (mz_fe (e := (34, .istore 5, 2, (0, 0, 0), [])) (by decide +kernel)) (pc' := 36) (L' := [some (.ref 1), some (.int y1), some (.int y2), some (.int y3), some (.int y4), some (.int (y4 + 1)), none]) (st' := []) rfl ?_
    exact congrArg mz_cI (mz_At_msk (L := [some (.ref 1), some (.int y1), some (.int y2), some (.int y3), some (.int y4), some (.int (y4 + 1)), none]) (L2 := [some (.ref 1), some (.int y1), some (.int y2), some (.int y3), some (.int y4), some (.int (y4 + 1)), none]) (mz_fe (e := (36, .iload 5, 2, (0, 0, 0), [true, true, true, true, true, true, false])) (by decide +kernel)) rfl rfl)
set_option maxRecDepth 10000 in
theorem H_X11_best_36_eq (d : Nat) (y1 : Int32) (y2 : Int32) (y3 : Int32) (y4 : Int32) (y5 : Int32) (m : MzM)  : H_X11_best_36 d y1 y2 y3 y4 y5 m = if (mz_rd m 4 4) ≤ y5 then (H_X11_best_18 d y1 y2 y3 (y4 + 1) m) else ((R_X11_quarrelsBehind d y4 y5 m).bind (fun u10 => if y2 = (-2) then (H_X11_best_36 d y1 (((10 : Int32) * y4) + y5) u10.1 y4 (y5 + 1) u10.2) else (if y3 ≤ u10.1 then (H_X11_best_36 d y1 y2 y3 y4 (y5 + 1) u10.2) else (H_X11_best_36 d y1 (((10 : Int32) * y4) + y5) u10.1 y4 (y5 + 1) u10.2)))) := by
  show mz_cI (mz_T d 142 36 [some (.ref 1), some (.int y1), some (.int y2), some (.int y3), some (.int y4), some (.int y5), none] [] m) = _
  refine q_s (mz_fe (e := (36, .iload 5, 2, (0, 0, 0), [true, true, true, true, true, true, false])) (by decide +kernel)) (pc' := 38) (L' := [some (.ref 1), some (.int y1), some (.int y2), some (.int y3), some (.int y4), some (.int y5), none]) (st' := [.int y5]) rfl ?_
  refine q_o (mz_fe (e := (38, .aload_n 0, 1, (0, 0, 0), [])) (by decide +kernel)) (pc2 := 39) rfl ?_
  refine q_getR (b := 4) (mz_fe (e := (39, .getfield 19, 91, (11, 1, 2), [])) (by decide +kernel)) rfl tg_1 (by rw [ln_1]; decide) (mz_rfS (by decide +kernel)) ?_
  refine q_getI (mz_fe (e := (42, .getfield 187, 109, (8, 4, 0), [])) (by decide +kernel)) rfl (by decide) tg_4 (by rw [ln_4]; decide) ?_
  refine q_if (c := .ge) (off := 43) (t := 88) (x := y5) (y := (mz_rd m 4 4)) (st := []) (mz_fe (e := (45, .if_icmp .ge 43, 3, (0, 0, 0), [])) (by decide +kernel)) (fun _ => rfl) rfl rfl rfl (fun c7 => ?_) (fun c7 => ?_)
  · refine q_iinc (v := y4) (c := 1) (L3 := [some (.ref 1), some (.int y1), some (.int y2), some (.int y3), some (.int (y4 + 1)), some (.int y5), none]) (mz_fe (e := (88, .iinc 4 1, 3, (0, 0, 0), [])) (by decide +kernel)) rfl rfl (by decide) rfl ?_
    refine q_o (mz_fe (e := (91, .goto (-73), 3, (0, 0, 0), [])) (by decide +kernel)) (pc2 := 18) rfl ?_
    exact congrArg mz_cI (mz_At_msk (L := [some (.ref 1), some (.int y1), some (.int y2), some (.int y3), some (.int (y4 + 1)), some (.int y5), none]) (L2 := [some (.ref 1), some (.int y1), some (.int y2), some (.int y3), some (.int (y4 + 1)), none, none]) (mz_fe (e := (18, .iload 4, 2, (0, 0, 0), [true, true, true, true, true, false, false])) (by decide +kernel)) rfl rfl)
  · refine q_o (mz_fe (e := (48, .aload_n 0, 1, (0, 0, 0), [])) (by decide +kernel)) (pc2 := 49) rfl ?_
    refine q_o (mz_fe (e := (49, .iload 4, 2, (0, 0, 0), [])) (by decide +kernel)) (pc2 := 51) rfl ?_
    refine q_o (mz_fe (e := (51, .iload 5, 2, (0, 0, 0), [])) (by decide +kernel)) (pc2 := 53) rfl ?_
    refine q_callI (N := 143) (vs := [.ref 1, .int y4, .int y5]) (rest := []) (L' := [some (.ref 1), some (.int y1), some (.int y2), some (.int y3), some (.int y4), some (.int y5), none]) (f := fun v9 m8 => if y2 = (-2) then (H_X11_best_36 d y1 (((10 : Int32) * y4) + y5) v9 y4 (y5 + 1) m8) else (if y3 ≤ v9 then (H_X11_best_36 d y1 y2 y3 y4 (y5 + 1) m8) else (H_X11_best_36 d y1 (((10 : Int32) * y4) + y5) v9 y4 (y5 + 1) m8))) rfl (mz_fe (e := (53, .invokevirtual 277, 149, (143, 3, 17), [])) (by decide +kernel)) rfl (mz_inv_virt (N := 143) (k := 3) (t := 17) (st := [.int y5, .int y4, .ref 1]) (rest := []) (b := 1) (vs := [.int y4, .int y5]) (h := (mz_S0, m)) rfl rfl (Nat.le_of_ble_eq_true rfl) (Nat.le_of_ble_eq_true rfl) tg_1 (by decide)) (mz_dc_lt (n := 3) rfl (by decide +kernel) (by decide +kernel)) (by decide +kernel) (Or.inl (by decide +kernel)) (fun v9 m8 => ?_)
    refine q_s (mz_fe (e := (56, .istore 6, 2, (0, 0, 0), [])) (by decide +kernel)) (pc' := 58) (L' := [some (.ref 1), some (.int y1), some (.int y2), some (.int y3), some (.int y4), some (.int y5), some (.int v9)]) (st' := []) rfl ?_
    refine q_o (mz_fe (e := (58, .iload_n 2, 1, (0, 0, 0), [])) (by decide +kernel)) (pc2 := 59) rfl ?_
    refine q_bi (v := (-2)) (mz_fe (e := (59, .bipush (-2), 2, (0, 0, 0), [])) (by decide +kernel)) (by decide) ?_
    refine q_if (c := .eq) (off := 9) (t := 70) (x := y2) (y := (-2)) (st := []) (mz_fe (e := (61, .if_icmp .eq 9, 3, (0, 0, 0), [])) (by decide +kernel)) (fun _ => rfl) rfl rfl rfl (fun c11 => ?_) (fun c11 => ?_)
    · refine q_bi (v := 10) (mz_fe (e := (70, .bipush 10, 2, (0, 0, 0), [])) (by decide +kernel)) (by decide) ?_
      refine q_o (mz_fe (e := (72, .iload 4, 2, (0, 0, 0), [])) (by decide +kernel)) (pc2 := 74) rfl ?_
      refine q_o (mz_fe (e := (74, .imul, 1, (0, 0, 0), [])) (by decide +kernel)) (pc2 := 75) rfl ?_
      refine q_o (mz_fe (e := (75, .iload 5, 2, (0, 0, 0), [])) (by decide +kernel)) (pc2 := 77) rfl ?_
      refine q_o (mz_fe (e := (77, .iadd, 1, (0, 0, 0), [])) (by decide +kernel)) (pc2 := 78) rfl ?_
      refine q_s (mz_fe (e := (78, .istore_n 2, 1, (0, 0, 0), [])) (by decide +kernel)) (pc' := 79) (L' := [some (.ref 1), some (.int y1), some (.int (((10 : Int32) * y4) + y5)), some (.int y3), some (.int y4), some (.int y5), some (.int v9)]) (st' := []) rfl ?_
      refine q_o (mz_fe (e := (79, .iload 6, 2, (0, 0, 0), [])) (by decide +kernel)) (pc2 := 81) rfl ?_
      refine q_s (mz_fe (e := (81, .istore_n 3, 1, (0, 0, 0), [])) (by decide +kernel)) (pc' := 82) (L' := [some (.ref 1), some (.int y1), some (.int (((10 : Int32) * y4) + y5)), some (.int v9), some (.int y4), some (.int y5), some (.int v9)]) (st' := []) rfl ?_
      refine q_iinc (v := y5) (c := 1) (L3 := [some (.ref 1), some (.int y1), some (.int (((10 : Int32) * y4) + y5)), some (.int v9), some (.int y4), some (.int (y5 + 1)), some (.int v9)]) (mz_fe (e := (82, .iinc 5 1, 3, (0, 0, 0), [])) (by decide +kernel)) rfl rfl (by decide) rfl ?_
      refine q_o (mz_fe (e := (85, .goto (-49), 3, (0, 0, 0), [])) (by decide +kernel)) (pc2 := 36) rfl ?_
      exact congrArg mz_cI (mz_At_msk (L := [some (.ref 1), some (.int y1), some (.int (((10 : Int32) * y4) + y5)), some (.int v9), some (.int y4), some (.int (y5 + 1)), some (.int v9)]) (L2 := [some (.ref 1), some (.int y1), some (.int (((10 : Int32) * y4) + y5)), some (.int v9), some (.int y4), some (.int (y5 + 1)), none]) (mz_fe (e := (36, .iload 5, 2, (0, 0, 0), [true, true, true, true, true, true, false])) (by decide +kernel)) rfl rfl)
    · refine q_o (mz_fe (e := (64, .iload 6, 2, (0, 0, 0), [])) (by decide +kernel)) (pc2 := 66) rfl ?_
      refine q_o (mz_fe (e := (66, .iload_n 3, 1, (0, 0, 0), [])) (by decide +kernel)) (pc2 := 67) rfl ?_
      refine q_if (c := .ge) (off := 15) (t := 82) (x := v9) (y := y3) (st := []) (mz_fe (e := (67, .if_icmp .ge 15, 3, (0, 0, 0), [])) (by decide +kernel)) (fun _ => rfl) rfl rfl rfl (fun c12 => ?_) (fun c12 => ?_)
      · refine q_iinc (v := y5) (c := 1) (L3 := [some (.ref 1), some (.int y1), some (.int y2), some (.int y3), some (.int y4), some (.int (y5 + 1)), some (.int v9)]) (mz_fe (e := (82, .iinc 5 1, 3, (0, 0, 0), [])) (by decide +kernel)) rfl rfl (by decide) rfl ?_
        refine q_o (mz_fe (e := (85, .goto (-49), 3, (0, 0, 0), [])) (by decide +kernel)) (pc2 := 36) rfl ?_
        exact congrArg mz_cI (mz_At_msk (L := [some (.ref 1), some (.int y1), some (.int y2), some (.int y3), some (.int y4), some (.int (y5 + 1)), some (.int v9)]) (L2 := [some (.ref 1), some (.int y1), some (.int y2), some (.int y3), some (.int y4), some (.int (y5 + 1)), none]) (mz_fe (e := (36, .iload 5, 2, (0, 0, 0), [true, true, true, true, true, true, false])) (by decide +kernel)) rfl rfl)
      · refine q_bi (v := 10) (mz_fe (e := (70, .bipush 10, 2, (0, 0, 0), [])) (by decide +kernel)) (by decide) ?_
        refine q_o (mz_fe (e := (72, .iload 4, 2, (0, 0, 0), [])) (by decide +kernel)) (pc2 := 74) rfl ?_
        refine q_o (mz_fe (e := (74, .imul, 1, (0, 0, 0), [])) (by decide +kernel)) (pc2 := 75) rfl ?_
        refine q_o (mz_fe (e := (75, .iload 5, 2, (0, 0, 0), [])) (by decide +kernel)) (pc2 := 77) rfl ?_
        refine q_o (mz_fe (e := (77, .iadd, 1, (0, 0, 0), [])) (by decide +kernel)) (pc2 := 78) rfl ?_
        refine q_s (mz_fe (e := (78, .istore_n 2, 1, (0, 0, 0), [])) (by decide +kernel)) (pc' := 79) (L' := [some (.ref 1), some (.int y1), some (.int (((10 : Int32) * y4) + y5)), some (.int y3), some (.int y4), some (.int y5), some (.int v9)]) (st' := []) rfl ?_
        refine q_o (mz_fe (e := (79, .iload 6, 2, (0, 0, 0), [])) (by decide +kernel)) (pc2 := 81) rfl ?_
        refine q_s (mz_fe (e := (81, .istore_n 3, 1, (0, 0, 0), [])) (by decide +kernel)) (pc' := 82) (L' := [some (.ref 1), some (.int y1), some (.int (((10 : Int32) * y4) + y5)), some (.int v9), some (.int y4), some (.int y5), some (.int v9)]) (st' := []) rfl ?_
        refine q_iinc (v := y5) (c := 1) (L3 := [some (.ref 1), some (.int y1), some (.int (((10 : Int32) * y4) + y5)), some (.int v9), some (.int y4), some (.int (y5 + 1)), some (.int v9)]) (mz_fe (e := (82, .iinc 5 1, 3, (0, 0, 0), [])) (by decide +kernel)) rfl rfl (by decide) rfl ?_
        refine q_o (mz_fe (e := (85, .goto (-49), 3, (0, 0, 0), [])) (by decide +kernel)) (pc2 := 36) rfl ?_
        exact congrArg mz_cI (mz_At_msk (L := [some (.ref 1), some (.int y1), some (.int (((10 : Int32) * y4) + y5)), some (.int v9), some (.int y4), some (.int (y5 + 1)), some (.int v9)]) (L2 := [some (.ref 1), some (.int y1), some (.int (((10 : Int32) * y4) + y5)), some (.int v9), some (.int y4), some (.int (y5 + 1)), none]) (mz_fe (e := (36, .iload 5, 2, (0, 0, 0), [true, true, true, true, true, true, false])) (by decide +kernel)) rfl rfl)
set_option maxRecDepth 10000 in
theorem R_X11_quarrelsBehind_eq (d : Nat) (x0 : Int32) (x1 : Int32) (m : MzM)  : R_X11_quarrelsBehind d x0 x1 m = (R_X6_copyFrom d 33 29 m).bind (fun m1 => (R_X3_putThrough d 33 x0 x1 m1).bind (fun m4 => (R_X3_quarrels d 33 m4).bind (fun u9 => some (u9.1, u9.2)))) := by
  show mz_cI (mz_T d 143 0 (mz_en (mz_xl 143) [.ref 1, .int x0, .int x1]) [] m) = _
  rw [show mz_en (mz_xl 143) [.ref 1, .int x0, .int x1] = [some (.ref 1), some (.int x0), some (.int x1)] from by rw [show mz_xl 143 = 3 from by decide +kernel]; rfl]
  refine q_o (mz_fe (e := (0, .aload_n 0, 1, (0, 0, 0), [])) (by decide +kernel)) (pc2 := 1) rfl ?_
  refine q_getR (b := 33) (mz_fe (e := (1, .getfield 51, 96, (11, 6, 2), [])) (by decide +kernel)) rfl tg_1 (by rw [ln_1]; decide) (mz_rfS (by decide +kernel)) ?_
  refine q_o (mz_fe (e := (4, .aload_n 0, 1, (0, 0, 0), [])) (by decide +kernel)) (pc2 := 5) rfl ?_
  refine q_getR (b := 29) (mz_fe (e := (5, .getfield 47, 95, (11, 5, 2), [])) (by decide +kernel)) rfl tg_1 (by rw [ln_1]; decide) (mz_rfS (by decide +kernel)) ?_
  refine q_callV (N := 68) (vs := [.ref 33, .ref 29]) (rest := []) (L' := [some (.ref 1), some (.int x0), some (.int x1)]) rfl (mz_fe (e := (8, .invokevirtual 259, 143, (68, 2, 12), [])) (by decide +kernel)) rfl (mz_inv_virt (N := 68) (k := 2) (t := 12) (st := [.ref 29, .ref 33]) (rest := []) (b := 33) (vs := [.ref 29]) (h := (mz_S0, m)) rfl rfl (Nat.le_of_ble_eq_true rfl) (Nat.le_of_ble_eq_true rfl) (st_t (by decide : mz_isS 33 = true)) (by decide)) (mz_dc_lt (n := 2) rfl (by decide +kernel) (by decide +kernel)) (by decide +kernel) (by decide +kernel) (fun m1 => ?_)
  refine q_o (mz_fe (e := (11, .aload_n 0, 1, (0, 0, 0), [])) (by decide +kernel)) (pc2 := 12) rfl ?_
  refine q_getR (b := 27) (mz_fe (e := (12, .getfield 40, 94, (11, 4, 2), [])) (by decide +kernel)) rfl tg_1 (by rw [ln_1]; decide) (mz_rfS (by decide +kernel)) ?_
  refine q_o (mz_fe (e := (15, .aload_n 0, 1, (0, 0, 0), [])) (by decide +kernel)) (pc2 := 16) rfl ?_
  refine q_getR (b := 33) (mz_fe (e := (16, .getfield 51, 96, (11, 6, 2), [])) (by decide +kernel)) rfl tg_1 (by rw [ln_1]; decide) (mz_rfS (by decide +kernel)) ?_
  refine q_o (mz_fe (e := (19, .iload_n 1, 1, (0, 0, 0), [])) (by decide +kernel)) (pc2 := 20) rfl ?_
  refine q_o (mz_fe (e := (20, .iload_n 2, 1, (0, 0, 0), [])) (by decide +kernel)) (pc2 := 21) rfl ?_
  refine q_callV (N := 36) (vs := [.ref 27, .ref 33, .int x0, .int x1]) (rest := []) (L' := [some (.ref 1), some (.int x0), some (.int x1)]) rfl (mz_fe (e := (21, .invokevirtual 232, 135, (36, 4, 9), [])) (by decide +kernel)) rfl (mz_inv_virt (N := 36) (k := 4) (t := 9) (st := [.int x1, .int x0, .ref 33, .ref 27]) (rest := []) (b := 27) (vs := [.ref 33, .int x0, .int x1]) (h := (mz_S0, m1)) rfl rfl (Nat.le_of_ble_eq_true rfl) (Nat.le_of_ble_eq_true rfl) tg_27 (by decide)) (mz_dc_lt (n := 4) rfl (by decide +kernel) (by decide +kernel)) (by decide +kernel) (by decide +kernel) (fun m4 => ?_)
  refine q_o (mz_fe (e := (24, .aload_n 0, 1, (0, 0, 0), [])) (by decide +kernel)) (pc2 := 25) rfl ?_
  refine q_getR (b := 27) (mz_fe (e := (25, .getfield 40, 94, (11, 4, 2), [])) (by decide +kernel)) rfl tg_1 (by rw [ln_1]; decide) (mz_rfS (by decide +kernel)) ?_
  refine q_o (mz_fe (e := (28, .aload_n 0, 1, (0, 0, 0), [])) (by decide +kernel)) (pc2 := 29) rfl ?_
  refine q_getR (b := 33) (mz_fe (e := (29, .getfield 51, 96, (11, 6, 2), [])) (by decide +kernel)) rfl tg_1 (by rw [ln_1]; decide) (mz_rfS (by decide +kernel)) ?_
  refine q_callI (N := 42) (vs := [.ref 27, .ref 33]) (rest := []) (L' := [some (.ref 1), some (.int x0), some (.int x1)]) (f := fun v8 m7 => some (v8, m7)) rfl (mz_fe (e := (32, .invokevirtual 280, 150, (42, 2, 9), [])) (by decide +kernel)) rfl (mz_inv_virt (N := 42) (k := 2) (t := 9) (st := [.ref 33, .ref 27]) (rest := []) (b := 27) (vs := [.ref 33]) (h := (mz_S0, m4)) rfl rfl (Nat.le_of_ble_eq_true rfl) (Nat.le_of_ble_eq_true rfl) tg_27 (by decide)) (mz_dc_lt (n := 2) rfl (by decide +kernel) (by decide +kernel)) (by decide +kernel) (Or.inl (by decide +kernel)) (fun v8 m7 => ?_)
  exact q_retI (mz_fe (e := (35, .ireturn, 1, (0, 0, 0), [])) (by decide +kernel)) (by decide +kernel)
set_option maxRecDepth 10000 in
theorem R_X11_gain_eq (d : Nat) (x0 : Int32) (x1 : Int32) (x2 : Int32) (m : MzM)  : R_X11_gain d x0 x1 x2 m = (R_X11_areTwo d x0 x1 m).bind (fun u3 => if u3.1 = 0 then (some ((-100000), u3.2)) else ((R_X11_isStuff d x2 u3.2).bind (fun u7 => if ¬ u7.1 = 0 then ((R_X3_share d 29 x0 x1 x2 u7.2).bind (fun u11 => (R_X6_amount d 29 x0 x2 u11.2).bind (fun u14 => some ((u11.1 - u14.1), u14.2)))) else (some ((-100000), u7.2))))) := by
  show mz_cI (mz_T d 144 0 (mz_en (mz_xl 144) [.ref 1, .int x0, .int x1, .int x2]) [] m) = _
  rw [show mz_en (mz_xl 144) [.ref 1, .int x0, .int x1, .int x2] = [some (.ref 1), some (.int x0), some (.int x1), some (.int x2)] from by rw [show mz_xl 144 = 4 from by decide +kernel]; rfl]
  refine q_o (mz_fe (e := (0, .aload_n 0, 1, (0, 0, 0), [])) (by decide +kernel)) (pc2 := 1) rfl ?_
  refine q_o (mz_fe (e := (1, .iload_n 1, 1, (0, 0, 0), [])) (by decide +kernel)) (pc2 := 2) rfl ?_
  refine q_o (mz_fe (e := (2, .iload_n 2, 1, (0, 0, 0), [])) (by decide +kernel)) (pc2 := 3) rfl ?_
  refine q_callI (N := 166) (vs := [.ref 1, .int x0, .int x1]) (rest := []) (L' := [some (.ref 1), some (.int x0), some (.int x1), some (.int x2)]) (f := fun v2 m1 => if v2 = 0 then (some ((-100000), m1)) else ((R_X11_isStuff d x2 m1).bind (fun u7 => if ¬ u7.1 = 0 then ((R_X3_share d 29 x0 x1 x2 u7.2).bind (fun u11 => (R_X6_amount d 29 x0 x2 u11.2).bind (fun u14 => some ((u11.1 - u14.1), u14.2)))) else (some ((-100000), u7.2))))) rfl (mz_fe (e := (3, .invokevirtual 167, 122, (166, 3, 17), [])) (by decide +kernel)) rfl (mz_inv_virt (N := 166) (k := 3) (t := 17) (st := [.int x1, .int x0, .ref 1]) (rest := []) (b := 1) (vs := [.int x0, .int x1]) (h := (mz_S0, m)) rfl rfl (Nat.le_of_ble_eq_true rfl) (Nat.le_of_ble_eq_true rfl) tg_1 (by decide)) (mz_dc_lt (n := 3) rfl (by decide +kernel) (by decide +kernel)) (by decide +kernel) (Or.inr (by decide +kernel)) (fun v2 m1 => ?_)
  refine q_if (c := .eq) (off := 10) (t := 16) (x := v2) (y := 0) (st := []) (mz_fe (e := (6, .ifCond .eq 10, 3, (0, 0, 0), [])) (by decide +kernel)) (fun _ => rfl) rfl rfl rfl (fun c4 => ?_) (fun c4 => ?_)
  · refine q_ldw (v := (-100000)) (mz_fe (e := (16, .ldc_w 283, 2, (4294867296, 0, 0), [])) (by decide +kernel)) (by decide) ?_
    exact q_retI (mz_fe (e := (19, .ireturn, 1, (0, 0, 0), [])) (by decide +kernel)) (by decide +kernel)
  · refine q_o (mz_fe (e := (9, .iload_n 3, 1, (0, 0, 0), [])) (by decide +kernel)) (pc2 := 10) rfl ?_
    refine q_callI (N := 167) (vs := [.int x2]) (rest := []) (L' := [some (.ref 1), some (.int x0), some (.int x1), some (.int x2)]) (f := fun v6 m5 => if ¬ v6 = 0 then ((R_X3_share d 29 x0 x1 x2 m5).bind (fun u11 => (R_X6_amount d 29 x0 x2 u11.2).bind (fun u14 => some ((u11.1 - u14.1), u14.2)))) else (some ((-100000), m5))) rfl (mz_fe (e := (10, .invokestatic 132, 116, (167, 1, 1000), [])) (by decide +kernel)) rfl (mz_inv_stat (N := 167) (k := 1) (st := [.int x2]) (rest := []) (vs := [.int x2]) (h := (mz_S0, m1)) rfl rfl (Nat.le_of_ble_eq_true rfl) (Nat.le_of_ble_eq_true rfl)) (mz_dc_lt (n := 1) rfl (by decide +kernel) (by decide +kernel)) (by decide +kernel) (Or.inr (by decide +kernel)) (fun v6 m5 => ?_)
    refine q_if (c := .ne) (off := 7) (t := 20) (x := v6) (y := 0) (st := []) (mz_fe (e := (13, .ifCond .ne 7, 3, (0, 0, 0), [])) (by decide +kernel)) (fun _ => rfl) rfl rfl rfl (fun c8 => ?_) (fun c8 => ?_)
    · refine q_o (mz_fe (e := (20, .aload_n 0, 1, (0, 0, 0), [])) (by decide +kernel)) (pc2 := 21) rfl ?_
      refine q_getR (b := 27) (mz_fe (e := (21, .getfield 40, 94, (11, 4, 2), [])) (by decide +kernel)) rfl tg_1 (by rw [ln_1]; decide) (mz_rfS (by decide +kernel)) ?_
      refine q_o (mz_fe (e := (24, .aload_n 0, 1, (0, 0, 0), [])) (by decide +kernel)) (pc2 := 25) rfl ?_
      refine q_getR (b := 29) (mz_fe (e := (25, .getfield 47, 95, (11, 5, 2), [])) (by decide +kernel)) rfl tg_1 (by rw [ln_1]; decide) (mz_rfS (by decide +kernel)) ?_
      refine q_o (mz_fe (e := (28, .iload_n 1, 1, (0, 0, 0), [])) (by decide +kernel)) (pc2 := 29) rfl ?_
      refine q_o (mz_fe (e := (29, .iload_n 2, 1, (0, 0, 0), [])) (by decide +kernel)) (pc2 := 30) rfl ?_
      refine q_o (mz_fe (e := (30, .iload_n 3, 1, (0, 0, 0), [])) (by decide +kernel)) (pc2 := 31) rfl ?_
      refine q_callI (N := 32) (vs := [.ref 27, .ref 29, .int x0, .int x1, .int x2]) (rest := []) (L' := [some (.ref 1), some (.int x0), some (.int x1), some (.int x2)]) (f := fun v10 m9 => (R_X6_amount d 29 x0 x2 m9).bind (fun u14 => some ((v10 - u14.1), u14.2))) rfl (mz_fe (e := (31, .invokevirtual 284, 151, (32, 5, 9), [])) (by decide +kernel)) rfl (mz_inv_virt (N := 32) (k := 5) (t := 9) (st := [.int x2, .int x1, .int x0, .ref 29, .ref 27]) (rest := []) (b := 27) (vs := [.ref 29, .int x0, .int x1, .int x2]) (h := (mz_S0, m5)) rfl rfl (Nat.le_of_ble_eq_true rfl) (Nat.le_of_ble_eq_true rfl) tg_27 (by decide)) (mz_dc_lt (n := 5) rfl (by decide +kernel) (by decide +kernel)) (by decide +kernel) (Or.inl (by decide +kernel)) (fun v10 m9 => ?_)
      refine q_o (mz_fe (e := (34, .aload_n 0, 1, (0, 0, 0), [])) (by decide +kernel)) (pc2 := 35) rfl ?_
      refine q_getR (b := 29) (mz_fe (e := (35, .getfield 47, 95, (11, 5, 2), [])) (by decide +kernel)) rfl tg_1 (by rw [ln_1]; decide) (mz_rfS (by decide +kernel)) ?_
      refine q_o (mz_fe (e := (38, .iload_n 1, 1, (0, 0, 0), [])) (by decide +kernel)) (pc2 := 39) rfl ?_
      refine q_o (mz_fe (e := (39, .iload_n 3, 1, (0, 0, 0), [])) (by decide +kernel)) (pc2 := 40) rfl ?_
      refine q_callI (N := 72) (vs := [.ref 29, .int x0, .int x2]) (rest := [.int v10]) (L' := [some (.ref 1), some (.int x0), some (.int x1), some (.int x2)]) (f := fun v13 m12 => some ((v10 - v13), m12)) rfl (mz_fe (e := (40, .invokevirtual 135, 117, (72, 3, 12), [])) (by decide +kernel)) rfl (mz_inv_virt (N := 72) (k := 3) (t := 12) (st := [.int x2, .int x0, .ref 29, .int v10]) (rest := [.int v10]) (b := 29) (vs := [.int x0, .int x2]) (h := (mz_S0, m9)) rfl rfl (Nat.le_of_ble_eq_true rfl) (Nat.le_of_ble_eq_true rfl) (st_t (by decide : mz_isS 29 = true)) (by decide)) (mz_dc_lt (n := 3) rfl (by decide +kernel) (by decide +kernel)) (by decide +kernel) (Or.inl (by decide +kernel)) (fun v13 m12 => ?_)
      refine q_o (mz_fe (e := (43, .isub, 1, (0, 0, 0), [])) (by decide +kernel)) (pc2 := 44) rfl ?_
      exact q_retI (mz_fe (e := (44, .ireturn, 1, (0, 0, 0), [])) (by decide +kernel)) (by decide +kernel)
    · refine q_ldw (v := (-100000)) (mz_fe (e := (16, .ldc_w 283, 2, (4294867296, 0, 0), [])) (by decide +kernel)) (by decide) ?_
      exact q_retI (mz_fe (e := (19, .ireturn, 1, (0, 0, 0), [])) (by decide +kernel)) (by decide +kernel)
set_option maxRecDepth 10000 in
theorem R_X11_plates_eq (d : Nat) (x0 : Int32) (x1 : Int32) (x2 : Int32) (m : MzM)  : R_X11_plates d x0 x1 x2 m = (R_X11_areTwo d x0 x1 m).bind (fun u3 => if u3.1 = 0 then (some ((-1), u3.2)) else ((R_X11_isZeroOrOne d x2 u3.2).bind (fun u7 => if ¬ u7.1 = 0 then (H_X11_plates_27 d x0 x1 x2 (-1) (-1) 1 u7.2) else (some ((-1), u7.2))))) := by
  show mz_cI (mz_T d 145 0 (mz_en (mz_xl 145) [.ref 1, .int x0, .int x1, .int x2]) [] m) = _
  rw [show mz_en (mz_xl 145) [.ref 1, .int x0, .int x1, .int x2] = [some (.ref 1), some (.int x0), some (.int x1), some (.int x2), none, none, none, none] from by rw [show mz_xl 145 = 8 from by decide +kernel]; rfl]
  refine q_o (mz_fe (e := (0, .aload_n 0, 1, (0, 0, 0), [])) (by decide +kernel)) (pc2 := 1) rfl ?_
  refine q_o (mz_fe (e := (1, .iload_n 1, 1, (0, 0, 0), [])) (by decide +kernel)) (pc2 := 2) rfl ?_
  refine q_o (mz_fe (e := (2, .iload_n 2, 1, (0, 0, 0), [])) (by decide +kernel)) (pc2 := 3) rfl ?_
  refine q_callI (N := 166) (vs := [.ref 1, .int x0, .int x1]) (rest := []) (L' := [some (.ref 1), some (.int x0), some (.int x1), some (.int x2), none, none, none, none]) (f := fun v2 m1 => if v2 = 0 then (some ((-1), m1)) else ((R_X11_isZeroOrOne d x2 m1).bind (fun u7 => if ¬ u7.1 = 0 then (H_X11_plates_27 d x0 x1 x2 (-1) (-1) 1 u7.2) else (some ((-1), u7.2))))) rfl (mz_fe (e := (3, .invokevirtual 167, 122, (166, 3, 17), [])) (by decide +kernel)) rfl (mz_inv_virt (N := 166) (k := 3) (t := 17) (st := [.int x1, .int x0, .ref 1]) (rest := []) (b := 1) (vs := [.int x0, .int x1]) (h := (mz_S0, m)) rfl rfl (Nat.le_of_ble_eq_true rfl) (Nat.le_of_ble_eq_true rfl) tg_1 (by decide)) (mz_dc_lt (n := 3) rfl (by decide +kernel) (by decide +kernel)) (by decide +kernel) (Or.inr (by decide +kernel)) (fun v2 m1 => ?_)
  refine q_if (c := .eq) (off := 10) (t := 16) (x := v2) (y := 0) (st := []) (mz_fe (e := (6, .ifCond .eq 10, 3, (0, 0, 0), [])) (by decide +kernel)) (fun _ => rfl) rfl rfl rfl (fun c4 => ?_) (fun c4 => ?_)
  · refine q_ic (v := (-1)) (mz_fe (e := (16, .iconst (-1), 1, (0, 0, 0), [])) (by decide +kernel)) (by decide) ?_
    exact q_retI (mz_fe (e := (17, .ireturn, 1, (0, 0, 0), [])) (by decide +kernel)) (by decide +kernel)
  · refine q_o (mz_fe (e := (9, .iload_n 3, 1, (0, 0, 0), [])) (by decide +kernel)) (pc2 := 10) rfl ?_
    refine q_callI (N := 171) (vs := [.int x2]) (rest := []) (L' := [some (.ref 1), some (.int x0), some (.int x1), some (.int x2), none, none, none, none]) (f := fun v6 m5 => if ¬ v6 = 0 then (H_X11_plates_27 d x0 x1 x2 (-1) (-1) 1 m5) else (some ((-1), m5))) rfl (mz_fe (e := (10, .invokestatic 274, 148, (171, 1, 1000), [])) (by decide +kernel)) rfl (mz_inv_stat (N := 171) (k := 1) (st := [.int x2]) (rest := []) (vs := [.int x2]) (h := (mz_S0, m1)) rfl rfl (Nat.le_of_ble_eq_true rfl) (Nat.le_of_ble_eq_true rfl)) (mz_dc_lt (n := 1) rfl (by decide +kernel) (by decide +kernel)) (by decide +kernel) (Or.inr (by decide +kernel)) (fun v6 m5 => ?_)
    refine q_if (c := .ne) (off := 5) (t := 18) (x := v6) (y := 0) (st := []) (mz_fe (e := (13, .ifCond .ne 5, 3, (0, 0, 0), [])) (by decide +kernel)) (fun _ => rfl) rfl rfl rfl (fun c8 => ?_) (fun c8 => ?_)
    · refine q_ic (v := (-1)) (mz_fe (e := (18, .iconst (-1), 1, (0, 0, 0), [])) (by decide +kernel)) (by decide) ?_
      refine q_s (mz_fe (e := (19, .istore 4, 2, (0, 0, 0), [])) (by decide +kernel)) (pc' := 21) (L' := [some (.ref 1), some (.int x0), some (.int x1), some (.int x2), some (.int (-1)), none, none, none]) (st' := []) rfl ?_
      refine q_ic (v := (-1)) (mz_fe (e := (21, .iconst (-1), 1, (0, 0, 0), [])) (by decide +kernel)) (by decide) ?_
      refine q_s (mz_fe (e := (22, .istore 5, 2, (0, 0, 0), [])) (by decide +kernel)) (pc' := 24) (L' := [some (.ref 1), some (.int x0), some (.int x1), some (.int x2), some (.int (-1)), some (.int (-1)), none, none]) (st' := []) rfl ?_
      refine q_ic (v := 1) (mz_fe (e := (24, .iconst 1, 1, (0, 0, 0), [])) (by decide +kernel)) (by decide) ?_
      refine q_s (mz_fe (e := (25, .istore 6, 2, (0, 0, 0), [])) (by decide +kernel)) (pc' := 27) (L' := [some (.ref 1), some (.int x0), some (.int x1), some (.int x2), some (.int (-1)), some (.int (-1)), some (.int 1), none]) (st' := []) rfl ?_
      exact congrArg mz_cI (mz_At_msk (L := [some (.ref 1), some (.int x0), some (.int x1), some (.int x2), some (.int (-1)), some (.int (-1)), some (.int 1), none]) (L2 := [some (.ref 1), some (.int x0), some (.int x1), some (.int x2), some (.int (-1)), some (.int (-1)), some (.int 1), none]) (mz_fe (e := (27, .iload 6, 2, (0, 0, 0), [true, true, true, true, true, true, true, false])) (by decide +kernel)) rfl rfl)
    · refine q_ic (v := (-1)) (mz_fe (e := (16, .iconst (-1), 1, (0, 0, 0), [])) (by decide +kernel)) (by decide) ?_
      exact q_retI (mz_fe (e := (17, .ireturn, 1, (0, 0, 0), [])) (by decide +kernel)) (by decide +kernel)
set_option maxRecDepth 10000 in
theorem H_X11_plates_27_eq (d : Nat) (y1 : Int32) (y2 : Int32) (y3 : Int32) (y4 : Int32) (y5 : Int32) (y6 : Int32) (m : MzM)  : H_X11_plates_27 d y1 y2 y3 y4 y5 y6 m = if (9 : Int32) < y6 then (if ¬ y3 = 0 then (some (y5, m)) else (some (y4, m))) else ((R_X6_copyFrom d 33 29 m).bind (fun m11 => (R_X6_changePlate d 33 y6 m11).bind (fun m14 => (R_X3_putThrough d 33 y1 y2 m14).bind (fun m17 => (R_X6_inScrew d 33 m17).bind (fun u22 => if y4 = (-1) then (H_X11_plates_27 d y1 y2 y3 y6 u22.1 (y6 + 1) u22.2) else (if y5 ≤ u22.1 then (H_X11_plates_27 d y1 y2 y3 y4 y5 (y6 + 1) u22.2) else (H_X11_plates_27 d y1 y2 y3 y6 u22.1 (y6 + 1) u22.2))))))) := by
  show mz_cI (mz_T d 145 27 [some (.ref 1), some (.int y1), some (.int y2), some (.int y3), some (.int y4), some (.int y5), some (.int y6), none] [] m) = _
  refine q_s (mz_fe (e := (27, .iload 6, 2, (0, 0, 0), [true, true, true, true, true, true, true, false])) (by decide +kernel)) (pc' := 29) (L' := [some (.ref 1), some (.int y1), some (.int y2), some (.int y3), some (.int y4), some (.int y5), some (.int y6), none]) (st' := [.int y6]) rfl ?_
  refine q_bi (v := 9) (mz_fe (e := (29, .bipush 9, 2, (0, 0, 0), [])) (by decide +kernel)) (by decide) ?_
  refine q_if (c := .gt) (off := 72) (t := 103) (x := y6) (y := 9) (st := []) (mz_fe (e := (31, .if_icmp .gt 72, 3, (0, 0, 0), [])) (by decide +kernel)) (fun _ => rfl) rfl rfl rfl (fun c9 => ?_) (fun c9 => ?_)
  · refine q_o (mz_fe (e := (103, .iload_n 3, 1, (0, 0, 0), [])) (by decide +kernel)) (pc2 := 104) rfl ?_
    refine q_if (c := .ne) (off := 8) (t := 112) (x := y3) (y := 0) (st := []) (mz_fe (e := (104, .ifCond .ne 8, 3, (0, 0, 0), [])) (by decide +kernel)) (fun _ => rfl) rfl rfl rfl (fun c10 => ?_) (fun c10 => ?_)
    · refine q_o (mz_fe (e := (112, .iload 5, 2, (0, 0, 0), [])) (by decide +kernel)) (pc2 := 114) rfl ?_
      exact q_retI (mz_fe (e := (114, .ireturn, 1, (0, 0, 0), [])) (by decide +kernel)) (by decide +kernel)
    · refine q_o (mz_fe (e := (107, .iload 4, 2, (0, 0, 0), [])) (by decide +kernel)) (pc2 := 109) rfl ?_
      refine q_o (mz_fe (e := (109, .goto 5, 3, (0, 0, 0), [])) (by decide +kernel)) (pc2 := 114) rfl ?_
      exact q_retI (mz_fe (e := (114, .ireturn, 1, (0, 0, 0), [])) (by decide +kernel)) (by decide +kernel)
  · refine q_o (mz_fe (e := (34, .aload_n 0, 1, (0, 0, 0), [])) (by decide +kernel)) (pc2 := 35) rfl ?_
    refine q_getR (b := 33) (mz_fe (e := (35, .getfield 51, 96, (11, 6, 2), [])) (by decide +kernel)) rfl tg_1 (by rw [ln_1]; decide) (mz_rfS (by decide +kernel)) ?_
    refine q_o (mz_fe (e := (38, .aload_n 0, 1, (0, 0, 0), [])) (by decide +kernel)) (pc2 := 39) rfl ?_
    refine q_getR (b := 29) (mz_fe (e := (39, .getfield 47, 95, (11, 5, 2), [])) (by decide +kernel)) rfl tg_1 (by rw [ln_1]; decide) (mz_rfS (by decide +kernel)) ?_
    refine q_callV (N := 68) (vs := [.ref 33, .ref 29]) (rest := []) (L' := [some (.ref 1), some (.int y1), some (.int y2), some (.int y3), some (.int y4), some (.int y5), some (.int y6), none]) rfl (mz_fe (e := (42, .invokevirtual 259, 143, (68, 2, 12), [])) (by decide +kernel)) rfl (mz_inv_virt (N := 68) (k := 2) (t := 12) (st := [.ref 29, .ref 33]) (rest := []) (b := 33) (vs := [.ref 29]) (h := (mz_S0, m)) rfl rfl (Nat.le_of_ble_eq_true rfl) (Nat.le_of_ble_eq_true rfl) (st_t (by decide : mz_isS 33 = true)) (by decide)) (mz_dc_lt (n := 2) rfl (by decide +kernel) (by decide +kernel)) (by decide +kernel) (by decide +kernel) (fun m11 => ?_)
    refine q_o (mz_fe (e := (45, .aload_n 0, 1, (0, 0, 0), [])) (by decide +kernel)) (pc2 := 46) rfl ?_
    refine q_getR (b := 33) (mz_fe (e := (46, .getfield 51, 96, (11, 6, 2), [])) (by decide +kernel)) rfl tg_1 (by rw [ln_1]; decide) (mz_rfS (by decide +kernel)) ?_
    refine q_o (mz_fe (e := (49, .iload 6, 2, (0, 0, 0), [])) (by decide +kernel)) (pc2 := 51) rfl ?_
    refine q_callV (N := 70) (vs := [.ref 33, .int y6]) (rest := []) (L' := [some (.ref 1), some (.int y1), some (.int y2), some (.int y3), some (.int y4), some (.int y5), some (.int y6), none]) rfl (mz_fe (e := (51, .invokevirtual 236, 136, (70, 2, 12), [])) (by decide +kernel)) rfl (mz_inv_virt (N := 70) (k := 2) (t := 12) (st := [.int y6, .ref 33]) (rest := []) (b := 33) (vs := [.int y6]) (h := (mz_S0, m11)) rfl rfl (Nat.le_of_ble_eq_true rfl) (Nat.le_of_ble_eq_true rfl) (st_t (by decide : mz_isS 33 = true)) (by decide)) (mz_dc_lt (n := 2) rfl (by decide +kernel) (by decide +kernel)) (by decide +kernel) (by decide +kernel) (fun m14 => ?_)
    refine q_o (mz_fe (e := (54, .aload_n 0, 1, (0, 0, 0), [])) (by decide +kernel)) (pc2 := 55) rfl ?_
    refine q_getR (b := 27) (mz_fe (e := (55, .getfield 40, 94, (11, 4, 2), [])) (by decide +kernel)) rfl tg_1 (by rw [ln_1]; decide) (mz_rfS (by decide +kernel)) ?_
    refine q_o (mz_fe (e := (58, .aload_n 0, 1, (0, 0, 0), [])) (by decide +kernel)) (pc2 := 59) rfl ?_
    refine q_getR (b := 33) (mz_fe (e := (59, .getfield 51, 96, (11, 6, 2), [])) (by decide +kernel)) rfl tg_1 (by rw [ln_1]; decide) (mz_rfS (by decide +kernel)) ?_
    refine q_o (mz_fe (e := (62, .iload_n 1, 1, (0, 0, 0), [])) (by decide +kernel)) (pc2 := 63) rfl ?_
    refine q_o (mz_fe (e := (63, .iload_n 2, 1, (0, 0, 0), [])) (by decide +kernel)) (pc2 := 64) rfl ?_
    refine q_callV (N := 36) (vs := [.ref 27, .ref 33, .int y1, .int y2]) (rest := []) (L' := [some (.ref 1), some (.int y1), some (.int y2), some (.int y3), some (.int y4), some (.int y5), some (.int y6), none]) rfl (mz_fe (e := (64, .invokevirtual 232, 135, (36, 4, 9), [])) (by decide +kernel)) rfl (mz_inv_virt (N := 36) (k := 4) (t := 9) (st := [.int y2, .int y1, .ref 33, .ref 27]) (rest := []) (b := 27) (vs := [.ref 33, .int y1, .int y2]) (h := (mz_S0, m14)) rfl rfl (Nat.le_of_ble_eq_true rfl) (Nat.le_of_ble_eq_true rfl) tg_27 (by decide)) (mz_dc_lt (n := 4) rfl (by decide +kernel) (by decide +kernel)) (by decide +kernel) (by decide +kernel) (fun m17 => ?_)
    refine q_o (mz_fe (e := (67, .aload_n 0, 1, (0, 0, 0), [])) (by decide +kernel)) (pc2 := 68) rfl ?_
    refine q_getR (b := 33) (mz_fe (e := (68, .getfield 51, 96, (11, 6, 2), [])) (by decide +kernel)) rfl tg_1 (by rw [ln_1]; decide) (mz_rfS (by decide +kernel)) ?_
    refine q_callI (N := 75) (vs := [.ref 33]) (rest := []) (L' := [some (.ref 1), some (.int y1), some (.int y2), some (.int y3), some (.int y4), some (.int y5), some (.int y6), none]) (f := fun v21 m20 => if y4 = (-1) then (H_X11_plates_27 d y1 y2 y3 y6 v21 (y6 + 1) m20) else (if y5 ≤ v21 then (H_X11_plates_27 d y1 y2 y3 y4 y5 (y6 + 1) m20) else (H_X11_plates_27 d y1 y2 y3 y6 v21 (y6 + 1) m20))) rfl (mz_fe (e := (71, .invokevirtual 199, 127, (75, 1, 12), [])) (by decide +kernel)) rfl (mz_inv_virt (N := 75) (k := 1) (t := 12) (st := [.ref 33]) (rest := []) (b := 33) (vs := []) (h := (mz_S0, m17)) rfl rfl (Nat.le_of_ble_eq_true rfl) (Nat.le_of_ble_eq_true rfl) (st_t (by decide : mz_isS 33 = true)) (by decide)) (mz_dc_lt (n := 1) rfl (by decide +kernel) (by decide +kernel)) (by decide +kernel) (Or.inl (by decide +kernel)) (fun v21 m20 => ?_)
    refine q_s (mz_fe (e := (74, .istore 7, 2, (0, 0, 0), [])) (by decide +kernel)) (pc' := 76) (L' := [some (.ref 1), some (.int y1), some (.int y2), some (.int y3), some (.int y4), some (.int y5), some (.int y6), some (.int v21)]) (st' := []) rfl ?_
    refine q_o (mz_fe (e := (76, .iload 4, 2, (0, 0, 0), [])) (by decide +kernel)) (pc2 := 78) rfl ?_
    refine q_ic (v := (-1)) (mz_fe (e := (78, .iconst (-1), 1, (0, 0, 0), [])) (by decide +kernel)) (by decide) ?_
    refine q_if (c := .eq) (off := 10) (t := 89) (x := y4) (y := (-1)) (st := []) (mz_fe (e := (79, .if_icmp .eq 10, 3, (0, 0, 0), [])) (by decide +kernel)) (fun _ => rfl) rfl rfl rfl (fun c23 => ?_) (fun c23 => ?_)
    · refine q_o (mz_fe (e := (89, .iload 6, 2, (0, 0, 0), [])) (by decide +kernel)) (pc2 := 91) rfl ?_
      refine q_s (mz_fe (e := (91, .istore 4, 2, (0, 0, 0), [])) (by decide +kernel)) (pc' := 93) (L' := [some (.ref 1), some (.int y1), some (.int y2), some (.int y3), some (.int y6), some (.int y5), some (.int y6), some (.int v21)]) (st' := []) rfl ?_
      refine q_o (mz_fe (e := (93, .iload 7, 2, (0, 0, 0), [])) (by decide +kernel)) (pc2 := 95) rfl ?_
      refine q_s (mz_fe (e := (95, .istore 5, 2, (0, 0, 0), [])) (by decide +kernel)) (pc' := 97) (L' := [some (.ref 1), some (.int y1), some (.int y2), some (.int y3), some (.int y6), some (.int v21), some (.int y6), some (.int v21)]) (st' := []) rfl ?_
      refine q_iinc (v := y6) (c := 1) (L3 := [some (.ref 1), some (.int y1), some (.int y2), some (.int y3), some (.int y6), some (.int v21), some (.int (y6 + 1)), some (.int v21)]) (mz_fe (e := (97, .iinc 6 1, 3, (0, 0, 0), [])) (by decide +kernel)) rfl rfl (by decide) rfl ?_
      refine q_o (mz_fe (e := (100, .goto (-73), 3, (0, 0, 0), [])) (by decide +kernel)) (pc2 := 27) rfl ?_
      exact congrArg mz_cI (mz_At_msk (L := [some (.ref 1), some (.int y1), some (.int y2), some (.int y3), some (.int y6), some (.int v21), some (.int (y6 + 1)), some (.int v21)]) (L2 := [some (.ref 1), some (.int y1), some (.int y2), some (.int y3), some (.int y6), some (.int v21), some (.int (y6 + 1)), none]) (mz_fe (e := (27, .iload 6, 2, (0, 0, 0), [true, true, true, true, true, true, true, false])) (by decide +kernel)) rfl rfl)
    · refine q_o (mz_fe (e := (82, .iload 7, 2, (0, 0, 0), [])) (by decide +kernel)) (pc2 := 84) rfl ?_
      refine q_o (mz_fe (e := (84, .iload 5, 2, (0, 0, 0), [])) (by decide +kernel)) (pc2 := 86) rfl ?_
      refine q_if (c := .ge) (off := 11) (t := 97) (x := v21) (y := y5) (st := []) (mz_fe (e := (86, .if_icmp .ge 11, 3, (0, 0, 0), [])) (by decide +kernel)) (fun _ => rfl) rfl rfl rfl (fun c24 => ?_) (fun c24 => ?_)
      · refine q_iinc (v := y6) (c := 1) (L3 := [some (.ref 1), some (.int y1), some (.int y2), some (.int y3), some (.int y4), some (.int y5), some (.int (y6 + 1)), some (.int v21)]) (mz_fe (e := (97, .iinc 6 1, 3, (0, 0, 0), [])) (by decide +kernel)) rfl rfl (by decide) rfl ?_
        refine q_o (mz_fe (e := (100, .goto (-73), 3, (0, 0, 0), [])) (by decide +kernel)) (pc2 := 27) rfl ?_
        exact congrArg mz_cI (mz_At_msk (L := [some (.ref 1), some (.int y1), some (.int y2), some (.int y3), some (.int y4), some (.int y5), some (.int (y6 + 1)), some (.int v21)]) (L2 := [some (.ref 1), some (.int y1), some (.int y2), some (.int y3), some (.int y4), some (.int y5), some (.int (y6 + 1)), none]) (mz_fe (e := (27, .iload 6, 2, (0, 0, 0), [true, true, true, true, true, true, true, false])) (by decide +kernel)) rfl rfl)
      · refine q_o (mz_fe (e := (89, .iload 6, 2, (0, 0, 0), [])) (by decide +kernel)) (pc2 := 91) rfl ?_
        refine q_s (mz_fe (e := (91, .istore 4, 2, (0, 0, 0), [])) (by decide +kernel)) (pc' := 93) (L' := [some (.ref 1), some (.int y1), some (.int y2), some (.int y3), some (.int y6), some (.int y5), some (.int y6), some (.int v21)]) (st' := []) rfl ?_
        refine q_o (mz_fe (e := (93, .iload 7, 2, (0, 0, 0), [])) (by decide +kernel)) (pc2 := 95) rfl ?_
        refine q_s (mz_fe (e := (95, .istore 5, 2, (0, 0, 0), [])) (by decide +kernel)) (pc' := 97) (L' := [some (.ref 1), some (.int y1), some (.int y2), some (.int y3), some (.int y6), some (.int v21), some (.int y6), some (.int v21)]) (st' := []) rfl ?_
        refine q_iinc (v := y6) (c := 1) (L3 := [some (.ref 1), some (.int y1), some (.int y2), some (.int y3), some (.int y6), some (.int v21), some (.int (y6 + 1)), some (.int v21)]) (mz_fe (e := (97, .iinc 6 1, 3, (0, 0, 0), [])) (by decide +kernel)) rfl rfl (by decide) rfl ?_
        refine q_o (mz_fe (e := (100, .goto (-73), 3, (0, 0, 0), [])) (by decide +kernel)) (pc2 := 27) rfl ?_
        exact congrArg mz_cI (mz_At_msk (L := [some (.ref 1), some (.int y1), some (.int y2), some (.int y3), some (.int y6), some (.int v21), some (.int (y6 + 1)), some (.int v21)]) (L2 := [some (.ref 1), some (.int y1), some (.int y2), some (.int y3), some (.int y6), some (.int v21), some (.int (y6 + 1)), none]) (mz_fe (e := (27, .iload 6, 2, (0, 0, 0), [true, true, true, true, true, true, true, false])) (by decide +kernel)) rfl rfl)
set_option maxRecDepth 10000 in
theorem R_X11_crumbs_eq (d : Nat) (x0 : Int32) (x1 : Int32) (x2 : Int32) (x3 : Int32) (m : MzM)  : R_X11_crumbs d x0 x1 x2 x3 m = (R_X11_areTwo d x0 x1 m).bind (fun u3 => if u3.1 = 0 then (some ((-1), u3.2)) else ((R_X11_isStuff d x2 u3.2).bind (fun u7 => if u7.1 = 0 then (some ((-1), u7.2)) else ((R_X11_isAmount d x3 u7.2).bind (fun u11 => if ¬ u11.1 = 0 then ((R_X6_copyFrom d 33 29 u11.2).bind (fun m13 => H_X11_crumbs_40 d x0 x1 x2 x3 0 m13)) else (some ((-1), u11.2))))))) := by
  show mz_cI (mz_T d 146 0 (mz_en (mz_xl 146) [.ref 1, .int x0, .int x1, .int x2, .int x3]) [] m) = _
  rw [show mz_en (mz_xl 146) [.ref 1, .int x0, .int x1, .int x2, .int x3] = [some (.ref 1), some (.int x0), some (.int x1), some (.int x2), some (.int x3), none] from by rw [show mz_xl 146 = 6 from by decide +kernel]; rfl]
  refine q_o (mz_fe (e := (0, .aload_n 0, 1, (0, 0, 0), [])) (by decide +kernel)) (pc2 := 1) rfl ?_
  refine q_o (mz_fe (e := (1, .iload_n 1, 1, (0, 0, 0), [])) (by decide +kernel)) (pc2 := 2) rfl ?_
  refine q_o (mz_fe (e := (2, .iload_n 2, 1, (0, 0, 0), [])) (by decide +kernel)) (pc2 := 3) rfl ?_
  refine q_callI (N := 166) (vs := [.ref 1, .int x0, .int x1]) (rest := []) (L' := [some (.ref 1), some (.int x0), some (.int x1), some (.int x2), some (.int x3), none]) (f := fun v2 m1 => if v2 = 0 then (some ((-1), m1)) else ((R_X11_isStuff d x2 m1).bind (fun u7 => if u7.1 = 0 then (some ((-1), u7.2)) else ((R_X11_isAmount d x3 u7.2).bind (fun u11 => if ¬ u11.1 = 0 then ((R_X6_copyFrom d 33 29 u11.2).bind (fun m13 => H_X11_crumbs_40 d x0 x1 x2 x3 0 m13)) else (some ((-1), u11.2))))))) rfl (mz_fe (e := (3, .invokevirtual 167, 122, (166, 3, 17), [])) (by decide +kernel)) rfl (mz_inv_virt (N := 166) (k := 3) (t := 17) (st := [.int x1, .int x0, .ref 1]) (rest := []) (b := 1) (vs := [.int x0, .int x1]) (h := (mz_S0, m)) rfl rfl (Nat.le_of_ble_eq_true rfl) (Nat.le_of_ble_eq_true rfl) tg_1 (by decide)) (mz_dc_lt (n := 3) rfl (by decide +kernel) (by decide +kernel)) (by decide +kernel) (Or.inr (by decide +kernel)) (fun v2 m1 => ?_)
  refine q_if (c := .eq) (off := 18) (t := 24) (x := v2) (y := 0) (st := []) (mz_fe (e := (6, .ifCond .eq 18, 3, (0, 0, 0), [])) (by decide +kernel)) (fun _ => rfl) rfl rfl rfl (fun c4 => ?_) (fun c4 => ?_)
  · refine q_ic (v := (-1)) (mz_fe (e := (24, .iconst (-1), 1, (0, 0, 0), [])) (by decide +kernel)) (by decide) ?_
    exact q_retI (mz_fe (e := (25, .ireturn, 1, (0, 0, 0), [])) (by decide +kernel)) (by decide +kernel)
  · refine q_o (mz_fe (e := (9, .iload_n 3, 1, (0, 0, 0), [])) (by decide +kernel)) (pc2 := 10) rfl ?_
    refine q_callI (N := 167) (vs := [.int x2]) (rest := []) (L' := [some (.ref 1), some (.int x0), some (.int x1), some (.int x2), some (.int x3), none]) (f := fun v6 m5 => if v6 = 0 then (some ((-1), m5)) else ((R_X11_isAmount d x3 m5).bind (fun u11 => if ¬ u11.1 = 0 then ((R_X6_copyFrom d 33 29 u11.2).bind (fun m13 => H_X11_crumbs_40 d x0 x1 x2 x3 0 m13)) else (some ((-1), u11.2))))) rfl (mz_fe (e := (10, .invokestatic 132, 116, (167, 1, 1000), [])) (by decide +kernel)) rfl (mz_inv_stat (N := 167) (k := 1) (st := [.int x2]) (rest := []) (vs := [.int x2]) (h := (mz_S0, m1)) rfl rfl (Nat.le_of_ble_eq_true rfl) (Nat.le_of_ble_eq_true rfl)) (mz_dc_lt (n := 1) rfl (by decide +kernel) (by decide +kernel)) (by decide +kernel) (Or.inr (by decide +kernel)) (fun v6 m5 => ?_)
    refine q_if (c := .eq) (off := 11) (t := 24) (x := v6) (y := 0) (st := []) (mz_fe (e := (13, .ifCond .eq 11, 3, (0, 0, 0), [])) (by decide +kernel)) (fun _ => rfl) rfl rfl rfl (fun c8 => ?_) (fun c8 => ?_)
    · refine q_ic (v := (-1)) (mz_fe (e := (24, .iconst (-1), 1, (0, 0, 0), [])) (by decide +kernel)) (by decide) ?_
      exact q_retI (mz_fe (e := (25, .ireturn, 1, (0, 0, 0), [])) (by decide +kernel)) (by decide +kernel)
    · refine q_o (mz_fe (e := (16, .iload 4, 2, (0, 0, 0), [])) (by decide +kernel)) (pc2 := 18) rfl ?_
      refine q_callI (N := 168) (vs := [.int x3]) (rest := []) (L' := [some (.ref 1), some (.int x0), some (.int x1), some (.int x2), some (.int x3), none]) (f := fun v10 m9 => if ¬ v10 = 0 then ((R_X6_copyFrom d 33 29 m9).bind (fun m13 => H_X11_crumbs_40 d x0 x1 x2 x3 0 m13)) else (some ((-1), m9))) rfl (mz_fe (e := (18, .invokestatic 271, 147, (168, 1, 1000), [])) (by decide +kernel)) rfl (mz_inv_stat (N := 168) (k := 1) (st := [.int x3]) (rest := []) (vs := [.int x3]) (h := (mz_S0, m5)) rfl rfl (Nat.le_of_ble_eq_true rfl) (Nat.le_of_ble_eq_true rfl)) (mz_dc_lt (n := 1) rfl (by decide +kernel) (by decide +kernel)) (by decide +kernel) (Or.inr (by decide +kernel)) (fun v10 m9 => ?_)
      refine q_if (c := .ne) (off := 5) (t := 26) (x := v10) (y := 0) (st := []) (mz_fe (e := (21, .ifCond .ne 5, 3, (0, 0, 0), [])) (by decide +kernel)) (fun _ => rfl) rfl rfl rfl (fun c12 => ?_) (fun c12 => ?_)
      · refine q_o (mz_fe (e := (26, .aload_n 0, 1, (0, 0, 0), [])) (by decide +kernel)) (pc2 := 27) rfl ?_
        refine q_getR (b := 33) (mz_fe (e := (27, .getfield 51, 96, (11, 6, 2), [])) (by decide +kernel)) rfl tg_1 (by rw [ln_1]; decide) (mz_rfS (by decide +kernel)) ?_
        refine q_o (mz_fe (e := (30, .aload_n 0, 1, (0, 0, 0), [])) (by decide +kernel)) (pc2 := 31) rfl ?_
        refine q_getR (b := 29) (mz_fe (e := (31, .getfield 47, 95, (11, 5, 2), [])) (by decide +kernel)) rfl tg_1 (by rw [ln_1]; decide) (mz_rfS (by decide +kernel)) ?_
        refine q_callV (N := 68) (vs := [.ref 33, .ref 29]) (rest := []) (L' := [some (.ref 1), some (.int x0), some (.int x1), some (.int x2), some (.int x3), none]) rfl (mz_fe (e := (34, .invokevirtual 259, 143, (68, 2, 12), [])) (by decide +kernel)) rfl (mz_inv_virt (N := 68) (k := 2) (t := 12) (st := [.ref 29, .ref 33]) (rest := []) (b := 33) (vs := [.ref 29]) (h := (mz_S0, m9)) rfl rfl (Nat.le_of_ble_eq_true rfl) (Nat.le_of_ble_eq_true rfl) (st_t (by decide : mz_isS 33 = true)) (by decide)) (mz_dc_lt (n := 2) rfl (by decide +kernel) (by decide +kernel)) (by decide +kernel) (by decide +kernel) (fun m13 => ?_)
        refine q_ic (v := 0) (mz_fe (e := (37, .iconst 0, 1, (0, 0, 0), [])) (by decide +kernel)) (by decide) ?_
        refine q_s (mz_fe (e := (38, .istore 5, 2, (0, 0, 0), [])) (by decide +kernel)) (pc' := 40) (L' := [some (.ref 1), some (.int x0), some (.int x1), some (.int x2), some (.int x3), some (.int 0)]) (st' := []) rfl ?_
        exact congrArg mz_cI (mz_At_msk (L := [some (.ref 1), some (.int x0), some (.int x1), some (.int x2), some (.int x3), some (.int 0)]) (L2 := [some (.ref 1), some (.int x0), some (.int x1), some (.int x2), some (.int x3), some (.int 0)]) (mz_fe (e := (40, .iload 5, 2, (0, 0, 0), [true, true, true, true, true, true])) (by decide +kernel)) rfl rfl)
      · refine q_ic (v := (-1)) (mz_fe (e := (24, .iconst (-1), 1, (0, 0, 0), [])) (by decide +kernel)) (by decide) ?_
        exact q_retI (mz_fe (e := (25, .ireturn, 1, (0, 0, 0), [])) (by decide +kernel)) (by decide +kernel)
set_option maxRecDepth 10000 in
theorem H_X11_crumbs_40_eq (d : Nat) (y1 : Int32) (y2 : Int32) (y3 : Int32) (y4 : Int32) (y5 : Int32) (m : MzM)  : H_X11_crumbs_40 d y1 y2 y3 y4 y5 m = if (99 : Int32) < y5 then (some ((-2), m)) else (mz_g (mz_ok y3 4) (mz_g (mz_ok y3 4) ((R_X3_share d 33 y1 y2 y3 (mz_wr m 35 (y3 : Int32).toNatClampNeg ((mz_rd m 31 (y3 : Int32).toNatClampNeg) + y5))).bind (fun u21 => if u21.1 < y4 then (H_X11_crumbs_40 d y1 y2 y3 y4 (y5 + 1) u21.2) else (some (y5, u21.2)))))) := by
  show mz_cI (mz_T d 146 40 [some (.ref 1), some (.int y1), some (.int y2), some (.int y3), some (.int y4), some (.int y5)] [] m) = _
  refine q_s (mz_fe (e := (40, .iload 5, 2, (0, 0, 0), [true, true, true, true, true, true])) (by decide +kernel)) (pc' := 42) (L' := [some (.ref 1), some (.int y1), some (.int y2), some (.int y3), some (.int y4), some (.int y5)]) (st' := [.int y5]) rfl ?_
  refine q_bi (v := 99) (mz_fe (e := (42, .bipush 99, 2, (0, 0, 0), [])) (by decide +kernel)) (by decide) ?_
  refine q_if (c := .gt) (off := 52) (t := 96) (x := y5) (y := 99) (st := []) (mz_fe (e := (44, .if_icmp .gt 52, 3, (0, 0, 0), [])) (by decide +kernel)) (fun _ => rfl) rfl rfl rfl (fun c16 => ?_) (fun c16 => ?_)
  · refine q_bi (v := (-2)) (mz_fe (e := (96, .bipush (-2), 2, (0, 0, 0), [])) (by decide +kernel)) (by decide) ?_
    exact q_retI (mz_fe (e := (98, .ireturn, 1, (0, 0, 0), [])) (by decide +kernel)) (by decide +kernel)
  · refine q_o (mz_fe (e := (47, .aload_n 0, 1, (0, 0, 0), [])) (by decide +kernel)) (pc2 := 48) rfl ?_
    refine q_getR (b := 33) (mz_fe (e := (48, .getfield 51, 96, (11, 6, 2), [])) (by decide +kernel)) rfl tg_1 (by rw [ln_1]; decide) (mz_rfS (by decide +kernel)) ?_
    refine q_getR (b := 35) (mz_fe (e := (51, .getfield 151, 106, (6, 1, 2), [])) (by decide +kernel)) rfl (st_t (by decide : mz_isS 33 = true)) (by rw [(st_l (by decide : mz_isS 33 = true))]; decide) (mz_rfS (by decide +kernel)) ?_
    refine q_o (mz_fe (e := (54, .iload_n 3, 1, (0, 0, 0), [])) (by decide +kernel)) (pc2 := 55) rfl ?_
    refine q_o (mz_fe (e := (55, .aload_n 0, 1, (0, 0, 0), [])) (by decide +kernel)) (pc2 := 56) rfl ?_
    refine q_getR (b := 29) (mz_fe (e := (56, .getfield 47, 95, (11, 5, 2), [])) (by decide +kernel)) rfl tg_1 (by rw [ln_1]; decide) (mz_rfS (by decide +kernel)) ?_
    refine q_getR (b := 31) (mz_fe (e := (59, .getfield 151, 106, (6, 1, 2), [])) (by decide +kernel)) rfl (st_t (by decide : mz_isS 29 = true)) (by rw [(st_l (by decide : mz_isS 29 = true))]; decide) (mz_rfS (by decide +kernel)) ?_
    refine q_o (mz_fe (e := (62, .iload_n 3, 1, (0, 0, 0), [])) (by decide +kernel)) (pc2 := 63) rfl ?_
    refine q_ialdg rfl (mz_fe (e := (63, .iaload, 1, (0, 0, 0), [])) (by decide +kernel)) rfl (by decide) (st_wt (by decide : mz_isS 29 = true)) (st_wl (by decide : mz_isS 29 = true)) (fun g17 => ?_)
    refine q_o (mz_fe (e := (64, .iload 5, 2, (0, 0, 0), [])) (by decide +kernel)) (pc2 := 66) rfl ?_
    refine q_o (mz_fe (e := (66, .iadd, 1, (0, 0, 0), [])) (by decide +kernel)) (pc2 := 67) rfl ?_
    refine q_stAg (f := (fun x => x)) rfl (mz_fe (e := (67, .iastore, 1, (0, 0, 0), [])) (by decide +kernel)) (fun _ => rfl) rfl (st_wt (by decide : mz_isS 33 = true)) (st_wl (by decide : mz_isS 33 = true)) (fun g18 => ?_)
    refine q_o (mz_fe (e := (68, .aload_n 0, 1, (0, 0, 0), [])) (by decide +kernel)) (pc2 := 69) rfl ?_
    refine q_getR (b := 27) (mz_fe (e := (69, .getfield 40, 94, (11, 4, 2), [])) (by decide +kernel)) rfl tg_1 (by rw [ln_1]; decide) (mz_rfS (by decide +kernel)) ?_
    refine q_o (mz_fe (e := (72, .aload_n 0, 1, (0, 0, 0), [])) (by decide +kernel)) (pc2 := 73) rfl ?_
    refine q_getR (b := 33) (mz_fe (e := (73, .getfield 51, 96, (11, 6, 2), [])) (by decide +kernel)) rfl tg_1 (by rw [ln_1]; decide) (mz_rfS (by decide +kernel)) ?_
    refine q_o (mz_fe (e := (76, .iload_n 1, 1, (0, 0, 0), [])) (by decide +kernel)) (pc2 := 77) rfl ?_
    refine q_o (mz_fe (e := (77, .iload_n 2, 1, (0, 0, 0), [])) (by decide +kernel)) (pc2 := 78) rfl ?_
    refine q_o (mz_fe (e := (78, .iload_n 3, 1, (0, 0, 0), [])) (by decide +kernel)) (pc2 := 79) rfl ?_
    refine q_callI (N := 32) (vs := [.ref 27, .ref 33, .int y1, .int y2, .int y3]) (rest := []) (L' := [some (.ref 1), some (.int y1), some (.int y2), some (.int y3), some (.int y4), some (.int y5)]) (f := fun v20 m19 => if v20 < y4 then (H_X11_crumbs_40 d y1 y2 y3 y4 (y5 + 1) m19) else (some (y5, m19))) rfl (mz_fe (e := (79, .invokevirtual 284, 151, (32, 5, 9), [])) (by decide +kernel)) rfl (mz_inv_virt (N := 32) (k := 5) (t := 9) (st := [.int y3, .int y2, .int y1, .ref 33, .ref 27]) (rest := []) (b := 27) (vs := [.ref 33, .int y1, .int y2, .int y3]) (h := (mz_S0, (mz_wr m 35 (y3 : Int32).toNatClampNeg ((mz_rd m 31 (y3 : Int32).toNatClampNeg) + y5)))) rfl rfl (Nat.le_of_ble_eq_true rfl) (Nat.le_of_ble_eq_true rfl) tg_27 (by decide)) (mz_dc_lt (n := 5) rfl (by decide +kernel) (by decide +kernel)) (by decide +kernel) (Or.inl (by decide +kernel)) (fun v20 m19 => ?_)
    refine q_o (mz_fe (e := (82, .iload 4, 2, (0, 0, 0), [])) (by decide +kernel)) (pc2 := 84) rfl ?_
    refine q_if (c := .lt) (off := 6) (t := 90) (x := v20) (y := y4) (st := []) (mz_fe (e := (84, .if_icmp .lt 6, 3, (0, 0, 0), [])) (by decide +kernel)) (fun _ => rfl) rfl rfl rfl (fun c22 => ?_) (fun c22 => ?_)
    · refine q_iinc (v := y5) (c := 1) (L3 := [some (.ref 1), some (.int y1), some (.int y2), some (.int y3), some (.int y4), some (.int (y5 + 1))]) (mz_fe (e := (90, .iinc 5 1, 3, (0, 0, 0), [])) (by decide +kernel)) rfl rfl (by decide) rfl ?_
      refine q_o (mz_fe (e := (93, .goto (-53), 3, (0, 0, 0), [])) (by decide +kernel)) (pc2 := 40) rfl ?_
      exact congrArg mz_cI (mz_At_msk (L := [some (.ref 1), some (.int y1), some (.int y2), some (.int y3), some (.int y4), some (.int (y5 + 1))]) (L2 := [some (.ref 1), some (.int y1), some (.int y2), some (.int y3), some (.int y4), some (.int (y5 + 1))]) (mz_fe (e := (40, .iload 5, 2, (0, 0, 0), [true, true, true, true, true, true])) (by decide +kernel)) rfl rfl)
    · refine q_o (mz_fe (e := (87, .iload 5, 2, (0, 0, 0), [])) (by decide +kernel)) (pc2 := 89) rfl ?_
      exact q_retI (mz_fe (e := (89, .ireturn, 1, (0, 0, 0), [])) (by decide +kernel)) (by decide +kernel)
set_option maxRecDepth 10000 in
theorem R_X11_poorest_eq (d : Nat) (x0 : Int32) (m : MzM)  : R_X11_poorest d x0 m = (R_X11_isZeroOrOne d x0 m).bind (fun u3 => if ¬ u3.1 = 0 then (H_X11_poorest_18 d x0 (-2) (-2) 0 u3.2) else (some ((-1), u3.2))) := by
  show mz_cI (mz_T d 147 0 (mz_en (mz_xl 147) [.ref 1, .int x0]) [] m) = _
  rw [show mz_en (mz_xl 147) [.ref 1, .int x0] = [some (.ref 1), some (.int x0), none, none, none, none] from by rw [show mz_xl 147 = 6 from by decide +kernel]; rfl]
  refine q_o (mz_fe (e := (0, .iload_n 1, 1, (0, 0, 0), [])) (by decide +kernel)) (pc2 := 1) rfl ?_
  refine q_callI (N := 171) (vs := [.int x0]) (rest := []) (L' := [some (.ref 1), some (.int x0), none, none, none, none]) (f := fun v2 m1 => if ¬ v2 = 0 then (H_X11_poorest_18 d x0 (-2) (-2) 0 m1) else (some ((-1), m1))) rfl (mz_fe (e := (1, .invokestatic 274, 148, (171, 1, 1000), [])) (by decide +kernel)) rfl (mz_inv_stat (N := 171) (k := 1) (st := [.int x0]) (rest := []) (vs := [.int x0]) (h := (mz_S0, m)) rfl rfl (Nat.le_of_ble_eq_true rfl) (Nat.le_of_ble_eq_true rfl)) (mz_dc_lt (n := 1) rfl (by decide +kernel) (by decide +kernel)) (by decide +kernel) (Or.inr (by decide +kernel)) (fun v2 m1 => ?_)
  refine q_if (c := .ne) (off := 5) (t := 9) (x := v2) (y := 0) (st := []) (mz_fe (e := (4, .ifCond .ne 5, 3, (0, 0, 0), [])) (by decide +kernel)) (fun _ => rfl) rfl rfl rfl (fun c4 => ?_) (fun c4 => ?_)
  · refine q_bi (v := (-2)) (mz_fe (e := (9, .bipush (-2), 2, (0, 0, 0), [])) (by decide +kernel)) (by decide) ?_
    refine q_s (mz_fe (e := (11, .istore_n 2, 1, (0, 0, 0), [])) (by decide +kernel)) (pc' := 12) (L' := [some (.ref 1), some (.int x0), some (.int (-2)), none, none, none]) (st' := []) rfl ?_
    refine q_bi (v := (-2)) (mz_fe (e := (12, .bipush (-2), 2, (0, 0, 0), [])) (by decide +kernel)) (by decide) ?_
    refine q_s (mz_fe (e := (14, .istore_n 3, 1, (0, 0, 0), [])) (by decide +kernel)) (pc' := 15) (L' := [some (.ref 1), some (.int x0), some (.int (-2)), some (.int (-2)), none, none]) (st' := []) rfl ?_
    refine q_ic (v := 0) (mz_fe (e := (15, .iconst 0, 1, (0, 0, 0), [])) (by decide +kernel)) (by decide) ?_
    refine q_s (mz_fe (e := (16, .istore 4, 2, (0, 0, 0), [])) (by decide +kernel)) (pc' := 18) (L' := [some (.ref 1), some (.int x0), some (.int (-2)), some (.int (-2)), some (.int 0), none]) (st' := []) rfl ?_
    exact congrArg mz_cI (mz_At_msk (L := [some (.ref 1), some (.int x0), some (.int (-2)), some (.int (-2)), some (.int 0), none]) (L2 := [some (.ref 1), some (.int x0), some (.int (-2)), some (.int (-2)), some (.int 0), none]) (mz_fe (e := (18, .iload 4, 2, (0, 0, 0), [true, true, true, true, true, false])) (by decide +kernel)) rfl rfl)
  · refine q_ic (v := (-1)) (mz_fe (e := (7, .iconst (-1), 1, (0, 0, 0), [])) (by decide +kernel)) (by decide) ?_
    exact q_retI (mz_fe (e := (8, .ireturn, 1, (0, 0, 0), [])) (by decide +kernel)) (by decide +kernel)
set_option maxRecDepth 10000 in
theorem H_X11_poorest_18_eq (d : Nat) (y1 : Int32) (y2 : Int32) (y3 : Int32) (y4 : Int32) (m : MzM)  : H_X11_poorest_18 d y1 y2 y3 y4 m = if (mz_rd m 4 4) ≤ y4 then (if ¬ y1 = 0 then (some (y3, m)) else (some (y2, m))) else ((R_X6_ofAll d 29 y4 m).bind (fun u9 => if y2 = (-2) then (H_X11_poorest_18 d y1 y4 u9.1 (y4 + 1) u9.2) else (if y3 ≤ u9.1 then (H_X11_poorest_18 d y1 y2 y3 (y4 + 1) u9.2) else (H_X11_poorest_18 d y1 y4 u9.1 (y4 + 1) u9.2)))) := by
  show mz_cI (mz_T d 147 18 [some (.ref 1), some (.int y1), some (.int y2), some (.int y3), some (.int y4), none] [] m) = _
  refine q_s (mz_fe (e := (18, .iload 4, 2, (0, 0, 0), [true, true, true, true, true, false])) (by decide +kernel)) (pc' := 20) (L' := [some (.ref 1), some (.int y1), some (.int y2), some (.int y3), some (.int y4), none]) (st' := [.int y4]) rfl ?_
  refine q_o (mz_fe (e := (20, .aload_n 0, 1, (0, 0, 0), [])) (by decide +kernel)) (pc2 := 21) rfl ?_
  refine q_getR (b := 4) (mz_fe (e := (21, .getfield 19, 91, (11, 1, 2), [])) (by decide +kernel)) rfl tg_1 (by rw [ln_1]; decide) (mz_rfS (by decide +kernel)) ?_
  refine q_getI (mz_fe (e := (24, .getfield 187, 109, (8, 4, 0), [])) (by decide +kernel)) rfl (by decide) tg_4 (by rw [ln_4]; decide) ?_
  refine q_if (c := .ge) (off := 38) (t := 65) (x := y4) (y := (mz_rd m 4 4)) (st := []) (mz_fe (e := (27, .if_icmp .ge 38, 3, (0, 0, 0), [])) (by decide +kernel)) (fun _ => rfl) rfl rfl rfl (fun c5 => ?_) (fun c5 => ?_)
  · refine q_o (mz_fe (e := (65, .iload_n 1, 1, (0, 0, 0), [])) (by decide +kernel)) (pc2 := 66) rfl ?_
    refine q_if (c := .ne) (off := 7) (t := 73) (x := y1) (y := 0) (st := []) (mz_fe (e := (66, .ifCond .ne 7, 3, (0, 0, 0), [])) (by decide +kernel)) (fun _ => rfl) rfl rfl rfl (fun c6 => ?_) (fun c6 => ?_)
    · refine q_o (mz_fe (e := (73, .iload_n 3, 1, (0, 0, 0), [])) (by decide +kernel)) (pc2 := 74) rfl ?_
      exact q_retI (mz_fe (e := (74, .ireturn, 1, (0, 0, 0), [])) (by decide +kernel)) (by decide +kernel)
    · refine q_o (mz_fe (e := (69, .iload_n 2, 1, (0, 0, 0), [])) (by decide +kernel)) (pc2 := 70) rfl ?_
      refine q_o (mz_fe (e := (70, .goto 4, 3, (0, 0, 0), [])) (by decide +kernel)) (pc2 := 74) rfl ?_
      exact q_retI (mz_fe (e := (74, .ireturn, 1, (0, 0, 0), [])) (by decide +kernel)) (by decide +kernel)
  · refine q_o (mz_fe (e := (30, .aload_n 0, 1, (0, 0, 0), [])) (by decide +kernel)) (pc2 := 31) rfl ?_
    refine q_getR (b := 29) (mz_fe (e := (31, .getfield 47, 95, (11, 5, 2), [])) (by decide +kernel)) rfl tg_1 (by rw [ln_1]; decide) (mz_rfS (by decide +kernel)) ?_
    refine q_o (mz_fe (e := (34, .iload 4, 2, (0, 0, 0), [])) (by decide +kernel)) (pc2 := 36) rfl ?_
    refine q_callI (N := 74) (vs := [.ref 29, .int y4]) (rest := []) (L' := [some (.ref 1), some (.int y1), some (.int y2), some (.int y3), some (.int y4), none]) (f := fun v8 m7 => if y2 = (-2) then (H_X11_poorest_18 d y1 y4 v8 (y4 + 1) m7) else (if y3 ≤ v8 then (H_X11_poorest_18 d y1 y2 y3 (y4 + 1) m7) else (H_X11_poorest_18 d y1 y4 v8 (y4 + 1) m7))) rfl (mz_fe (e := (36, .invokevirtual 139, 118, (74, 2, 12), [])) (by decide +kernel)) rfl (mz_inv_virt (N := 74) (k := 2) (t := 12) (st := [.int y4, .ref 29]) (rest := []) (b := 29) (vs := [.int y4]) (h := (mz_S0, m)) rfl rfl (Nat.le_of_ble_eq_true rfl) (Nat.le_of_ble_eq_true rfl) (st_t (by decide : mz_isS 29 = true)) (by decide)) (mz_dc_lt (n := 2) rfl (by decide +kernel) (by decide +kernel)) (by decide +kernel) (Or.inl (by decide +kernel)) (fun v8 m7 => ?_)
    refine q_s (mz_fe (e := (39, .istore 5, 2, (0, 0, 0), [])) (by decide +kernel)) (pc' := 41) (L' := [some (.ref 1), some (.int y1), some (.int y2), some (.int y3), some (.int y4), some (.int v8)]) (st' := []) rfl ?_
    refine q_o (mz_fe (e := (41, .iload_n 2, 1, (0, 0, 0), [])) (by decide +kernel)) (pc2 := 42) rfl ?_
    refine q_bi (v := (-2)) (mz_fe (e := (42, .bipush (-2), 2, (0, 0, 0), [])) (by decide +kernel)) (by decide) ?_
    refine q_if (c := .eq) (off := 9) (t := 53) (x := y2) (y := (-2)) (st := []) (mz_fe (e := (44, .if_icmp .eq 9, 3, (0, 0, 0), [])) (by decide +kernel)) (fun _ => rfl) rfl rfl rfl (fun c10 => ?_) (fun c10 => ?_)
    · refine q_o (mz_fe (e := (53, .iload 4, 2, (0, 0, 0), [])) (by decide +kernel)) (pc2 := 55) rfl ?_
      refine q_s (mz_fe (e := (55, .istore_n 2, 1, (0, 0, 0), [])) (by decide +kernel)) (pc' := 56) (L' := [some (.ref 1), some (.int y1), some (.int y4), some (.int y3), some (.int y4), some (.int v8)]) (st' := []) rfl ?_
      refine q_o (mz_fe (e := (56, .iload 5, 2, (0, 0, 0), [])) (by decide +kernel)) (pc2 := 58) rfl ?_
      refine q_s (mz_fe (e := (58, .istore_n 3, 1, (0, 0, 0), [])) (by decide +kernel)) (pc' := 59) (L' := [some (.ref 1), some (.int y1), some (.int y4), some (.int v8), some (.int y4), some (.int v8)]) (st' := []) rfl ?_
      refine q_iinc (v := y4) (c := 1) (L3 := [some (.ref 1), some (.int y1), some (.int y4), some (.int v8), some (.int (y4 + 1)), some (.int v8)]) (mz_fe (e := (59, .iinc 4 1, 3, (0, 0, 0), [])) (by decide +kernel)) rfl rfl (by decide) rfl ?_
      refine q_o (mz_fe (e := (62, .goto (-44), 3, (0, 0, 0), [])) (by decide +kernel)) (pc2 := 18) rfl ?_
      exact congrArg mz_cI (mz_At_msk (L := [some (.ref 1), some (.int y1), some (.int y4), some (.int v8), some (.int (y4 + 1)), some (.int v8)]) (L2 := [some (.ref 1), some (.int y1), some (.int y4), some (.int v8), some (.int (y4 + 1)), none]) (mz_fe (e := (18, .iload 4, 2, (0, 0, 0), [true, true, true, true, true, false])) (by decide +kernel)) rfl rfl)
    · refine q_o (mz_fe (e := (47, .iload 5, 2, (0, 0, 0), [])) (by decide +kernel)) (pc2 := 49) rfl ?_
      refine q_o (mz_fe (e := (49, .iload_n 3, 1, (0, 0, 0), [])) (by decide +kernel)) (pc2 := 50) rfl ?_
      refine q_if (c := .ge) (off := 9) (t := 59) (x := v8) (y := y3) (st := []) (mz_fe (e := (50, .if_icmp .ge 9, 3, (0, 0, 0), [])) (by decide +kernel)) (fun _ => rfl) rfl rfl rfl (fun c11 => ?_) (fun c11 => ?_)
      · refine q_iinc (v := y4) (c := 1) (L3 := [some (.ref 1), some (.int y1), some (.int y2), some (.int y3), some (.int (y4 + 1)), some (.int v8)]) (mz_fe (e := (59, .iinc 4 1, 3, (0, 0, 0), [])) (by decide +kernel)) rfl rfl (by decide) rfl ?_
        refine q_o (mz_fe (e := (62, .goto (-44), 3, (0, 0, 0), [])) (by decide +kernel)) (pc2 := 18) rfl ?_
        exact congrArg mz_cI (mz_At_msk (L := [some (.ref 1), some (.int y1), some (.int y2), some (.int y3), some (.int (y4 + 1)), some (.int v8)]) (L2 := [some (.ref 1), some (.int y1), some (.int y2), some (.int y3), some (.int (y4 + 1)), none]) (mz_fe (e := (18, .iload 4, 2, (0, 0, 0), [true, true, true, true, true, false])) (by decide +kernel)) rfl rfl)
      · refine q_o (mz_fe (e := (53, .iload 4, 2, (0, 0, 0), [])) (by decide +kernel)) (pc2 := 55) rfl ?_
        refine q_s (mz_fe (e := (55, .istore_n 2, 1, (0, 0, 0), [])) (by decide +kernel)) (pc' := 56) (L' := [some (.ref 1), some (.int y1), some (.int y4), some (.int y3), some (.int y4), some (.int v8)]) (st' := []) rfl ?_
        refine q_o (mz_fe (e := (56, .iload 5, 2, (0, 0, 0), [])) (by decide +kernel)) (pc2 := 58) rfl ?_
        refine q_s (mz_fe (e := (58, .istore_n 3, 1, (0, 0, 0), [])) (by decide +kernel)) (pc' := 59) (L' := [some (.ref 1), some (.int y1), some (.int y4), some (.int v8), some (.int y4), some (.int v8)]) (st' := []) rfl ?_
        refine q_iinc (v := y4) (c := 1) (L3 := [some (.ref 1), some (.int y1), some (.int y4), some (.int v8), some (.int (y4 + 1)), some (.int v8)]) (mz_fe (e := (59, .iinc 4 1, 3, (0, 0, 0), [])) (by decide +kernel)) rfl rfl (by decide) rfl ?_
        refine q_o (mz_fe (e := (62, .goto (-44), 3, (0, 0, 0), [])) (by decide +kernel)) (pc2 := 18) rfl ?_
        exact congrArg mz_cI (mz_At_msk (L := [some (.ref 1), some (.int y1), some (.int y4), some (.int v8), some (.int (y4 + 1)), some (.int v8)]) (L2 := [some (.ref 1), some (.int y1), some (.int y4), some (.int v8), some (.int (y4 + 1)), none]) (mz_fe (e := (18, .iload 4, 2, (0, 0, 0), [true, true, true, true, true, false])) (by decide +kernel)) rfl rfl)
set_option maxRecDepth 10000 in
theorem R_X11_foes_eq (d : Nat) (x0 : Int32) (m : MzM)  : R_X11_foes d x0 m = if x0 = 0 then ((R_X3_quarrels d 29 m).bind (fun u4 => some (u4.1, u4.2))) else if x0 = 1 then ((R_X3_firstQuarrel d 29 m).bind (fun u8 => some (u8.1, u8.2))) else (some ((-1), m)) := by
  show mz_cI (mz_T d 148 0 (mz_en (mz_xl 148) [.ref 1, .int x0]) [] m) = _
  rw [show mz_en (mz_xl 148) [.ref 1, .int x0] = [some (.ref 1), some (.int x0)] from by rw [show mz_xl 148 = 2 from by decide +kernel]; rfl]
  refine q_o (mz_fe (e := (0, .iload_n 1, 1, (0, 0, 0), [])) (by decide +kernel)) (pc2 := 1) rfl ?_
  refine mz_ite (P := x0 = 0) (fun c1 => ?_) (fun c1 => ?_)
  · refine q_lk (t := 28) (st := []) (mz_fe (e := (1, .lookupswitch 51 #[(0, 27), (1, 39)], 27, (0, 0, 0), [])) (by decide +kernel)) rfl (by rw [c1]; decide +kernel) ?_
    refine q_o (mz_fe (e := (28, .aload_n 0, 1, (0, 0, 0), [])) (by decide +kernel)) (pc2 := 29) rfl ?_
    refine q_getR (b := 27) (mz_fe (e := (29, .getfield 40, 94, (11, 4, 2), [])) (by decide +kernel)) rfl tg_1 (by rw [ln_1]; decide) (mz_rfS (by decide +kernel)) ?_
    refine q_o (mz_fe (e := (32, .aload_n 0, 1, (0, 0, 0), [])) (by decide +kernel)) (pc2 := 33) rfl ?_
    refine q_getR (b := 29) (mz_fe (e := (33, .getfield 47, 95, (11, 5, 2), [])) (by decide +kernel)) rfl tg_1 (by rw [ln_1]; decide) (mz_rfS (by decide +kernel)) ?_
    refine q_callI (N := 42) (vs := [.ref 27, .ref 29]) (rest := []) (L' := [some (.ref 1), some (.int x0)]) (f := fun v3 m2 => some (v3, m2)) rfl (mz_fe (e := (36, .invokevirtual 280, 150, (42, 2, 9), [])) (by decide +kernel)) rfl (mz_inv_virt (N := 42) (k := 2) (t := 9) (st := [.ref 29, .ref 27]) (rest := []) (b := 27) (vs := [.ref 29]) (h := (mz_S0, m)) rfl rfl (Nat.le_of_ble_eq_true rfl) (Nat.le_of_ble_eq_true rfl) tg_27 (by decide)) (mz_dc_lt (n := 2) rfl (by decide +kernel) (by decide +kernel)) (by decide +kernel) (Or.inl (by decide +kernel)) (fun v3 m2 => ?_)
    exact q_retI (mz_fe (e := (39, .ireturn, 1, (0, 0, 0), [])) (by decide +kernel)) (by decide +kernel)
  refine mz_ite (P := x0 = 1) (fun c5 => ?_) (fun c5 => ?_)
  · refine q_lk (t := 40) (st := []) (mz_fe (e := (1, .lookupswitch 51 #[(0, 27), (1, 39)], 27, (0, 0, 0), [])) (by decide +kernel)) rfl (by rw [c5]; decide +kernel) ?_
    refine q_o (mz_fe (e := (40, .aload_n 0, 1, (0, 0, 0), [])) (by decide +kernel)) (pc2 := 41) rfl ?_
    refine q_getR (b := 27) (mz_fe (e := (41, .getfield 40, 94, (11, 4, 2), [])) (by decide +kernel)) rfl tg_1 (by rw [ln_1]; decide) (mz_rfS (by decide +kernel)) ?_
    refine q_o (mz_fe (e := (44, .aload_n 0, 1, (0, 0, 0), [])) (by decide +kernel)) (pc2 := 45) rfl ?_
    refine q_getR (b := 29) (mz_fe (e := (45, .getfield 47, 95, (11, 5, 2), [])) (by decide +kernel)) rfl tg_1 (by rw [ln_1]; decide) (mz_rfS (by decide +kernel)) ?_
    refine q_callI (N := 43) (vs := [.ref 27, .ref 29]) (rest := []) (L' := [some (.ref 1), some (.int x0)]) (f := fun v7 m6 => some (v7, m6)) rfl (mz_fe (e := (48, .invokevirtual 287, 152, (43, 2, 9), [])) (by decide +kernel)) rfl (mz_inv_virt (N := 43) (k := 2) (t := 9) (st := [.ref 29, .ref 27]) (rest := []) (b := 27) (vs := [.ref 29]) (h := (mz_S0, m)) rfl rfl (Nat.le_of_ble_eq_true rfl) (Nat.le_of_ble_eq_true rfl) tg_27 (by decide)) (mz_dc_lt (n := 2) rfl (by decide +kernel) (by decide +kernel)) (by decide +kernel) (Or.inl (by decide +kernel)) (fun v7 m6 => ?_)
    exact q_retI (mz_fe (e := (51, .ireturn, 1, (0, 0, 0), [])) (by decide +kernel)) (by decide +kernel)
  refine q_lk (t := 52) (st := []) (mz_fe (e := (1, .lookupswitch 51 #[(0, 27), (1, 39)], 27, (0, 0, 0), [])) (by decide +kernel)) rfl (mz_lkd (k1 := 0) (k2 := 1) (by decide +kernel) (by decide) (by decide) c1 c5) ?_
  refine q_ic (v := (-1)) (mz_fe (e := (52, .iconst (-1), 1, (0, 0, 0), [])) (by decide +kernel)) (by decide) ?_
  exact q_retI (mz_fe (e := (53, .ireturn, 1, (0, 0, 0), [])) (by decide +kernel)) (by decide +kernel)
set_option maxRecDepth 10000 in
theorem R_X11_peace_eq (d : Nat) (x0 : Int32) (m : MzM)  : R_X11_peace d x0 m = (R_X11_isZeroOrOne d x0 m).bind (fun u3 => if ¬ u3.1 = 0 then ((R_X0_lookAt d 29 u3.2).bind (fun m5 => (R_X0_fewestGone d  m5).bind (fun u10 => if ¬ x0 = 0 then (some (u10.1, u10.2)) else ((R_J6_bitCount_0f7a4 d u10.1 u10.2).bind (fun u14 => some (u14.1, u14.2)))))) else (some ((-1), u3.2))) := by
  show mz_cI (mz_T d 149 0 (mz_en (mz_xl 149) [.ref 1, .int x0]) [] m) = _
  rw [show mz_en (mz_xl 149) [.ref 1, .int x0] = [some (.ref 1), some (.int x0), none] from by rw [show mz_xl 149 = 3 from by decide +kernel]; rfl]
  refine q_o (mz_fe (e := (0, .iload_n 1, 1, (0, 0, 0), [])) (by decide +kernel)) (pc2 := 1) rfl ?_
  refine q_callI (N := 171) (vs := [.int x0]) (rest := []) (L' := [some (.ref 1), some (.int x0), none]) (f := fun v2 m1 => if ¬ v2 = 0 then ((R_X0_lookAt d 29 m1).bind (fun m5 => (R_X0_fewestGone d  m5).bind (fun u10 => if ¬ x0 = 0 then (some (u10.1, u10.2)) else ((R_J6_bitCount_0f7a4 d u10.1 u10.2).bind (fun u14 => some (u14.1, u14.2)))))) else (some ((-1), m1))) rfl (mz_fe (e := (1, .invokestatic 274, 148, (171, 1, 1000), [])) (by decide +kernel)) rfl (mz_inv_stat (N := 171) (k := 1) (st := [.int x0]) (rest := []) (vs := [.int x0]) (h := (mz_S0, m)) rfl rfl (Nat.le_of_ble_eq_true rfl) (Nat.le_of_ble_eq_true rfl)) (mz_dc_lt (n := 1) rfl (by decide +kernel) (by decide +kernel)) (by decide +kernel) (Or.inr (by decide +kernel)) (fun v2 m1 => ?_)
  refine q_if (c := .ne) (off := 5) (t := 9) (x := v2) (y := 0) (st := []) (mz_fe (e := (4, .ifCond .ne 5, 3, (0, 0, 0), [])) (by decide +kernel)) (fun _ => rfl) rfl rfl rfl (fun c4 => ?_) (fun c4 => ?_)
  · refine q_o (mz_fe (e := (9, .aload_n 0, 1, (0, 0, 0), [])) (by decide +kernel)) (pc2 := 10) rfl ?_
    refine q_getR (b := 220) (mz_fe (e := (10, .getfield 81, 101, (11, 11, 2), [])) (by decide +kernel)) rfl tg_1 (by rw [ln_1]; decide) (mz_rfS (by decide +kernel)) ?_
    refine q_o (mz_fe (e := (13, .aload_n 0, 1, (0, 0, 0), [])) (by decide +kernel)) (pc2 := 14) rfl ?_
    refine q_getR (b := 29) (mz_fe (e := (14, .getfield 47, 95, (11, 5, 2), [])) (by decide +kernel)) rfl tg_1 (by rw [ln_1]; decide) (mz_rfS (by decide +kernel)) ?_
    refine q_callV (N := 1) (vs := [.ref 220, .ref 29]) (rest := []) (L' := [some (.ref 1), some (.int x0), none]) rfl (mz_fe (e := (17, .invokevirtual 290, 153, (1, 2, 6), [])) (by decide +kernel)) rfl (mz_inv_virt (N := 1) (k := 2) (t := 6) (st := [.ref 29, .ref 220]) (rest := []) (b := 220) (vs := [.ref 29]) (h := (mz_S0, m1)) rfl rfl (Nat.le_of_ble_eq_true rfl) (Nat.le_of_ble_eq_true rfl) tg_220 (by decide)) (mz_dc_lt (n := 2) rfl (by decide +kernel) (by decide +kernel)) (by decide +kernel) (by decide +kernel) (fun m5 => ?_)
    refine q_o (mz_fe (e := (20, .aload_n 0, 1, (0, 0, 0), [])) (by decide +kernel)) (pc2 := 21) rfl ?_
    refine q_getR (b := 220) (mz_fe (e := (21, .getfield 81, 101, (11, 11, 2), [])) (by decide +kernel)) rfl tg_1 (by rw [ln_1]; decide) (mz_rfS (by decide +kernel)) ?_
    refine q_callI (N := 2) (vs := [.ref 220]) (rest := []) (L' := [some (.ref 1), some (.int x0), none]) (f := fun v9 m8 => if ¬ x0 = 0 then (some (v9, m8)) else ((R_J6_bitCount_0f7a4 d v9 m8).bind (fun u14 => some (u14.1, u14.2)))) rfl (mz_fe (e := (24, .invokevirtual 293, 154, (2, 1, 6), [])) (by decide +kernel)) rfl (mz_inv_virt (N := 2) (k := 1) (t := 6) (st := [.ref 220]) (rest := []) (b := 220) (vs := []) (h := (mz_S0, m5)) rfl rfl (Nat.le_of_ble_eq_true rfl) (Nat.le_of_ble_eq_true rfl) tg_220 (by decide)) (mz_dc_lt (n := 1) rfl (by decide +kernel) (by decide +kernel)) (by decide +kernel) (Or.inl (by decide +kernel)) (fun v9 m8 => ?_)
    refine q_s (mz_fe (e := (27, .istore_n 2, 1, (0, 0, 0), [])) (by decide +kernel)) (pc' := 28) (L' := [some (.ref 1), some (.int x0), some (.int v9)]) (st' := []) rfl ?_
    refine q_o (mz_fe (e := (28, .iload_n 1, 1, (0, 0, 0), [])) (by decide +kernel)) (pc2 := 29) rfl ?_
    refine q_if (c := .ne) (off := 10) (t := 39) (x := x0) (y := 0) (st := []) (mz_fe (e := (29, .ifCond .ne 10, 3, (0, 0, 0), [])) (by decide +kernel)) (fun _ => rfl) rfl rfl rfl (fun c11 => ?_) (fun c11 => ?_)
    · refine q_o (mz_fe (e := (39, .iload_n 2, 1, (0, 0, 0), [])) (by decide +kernel)) (pc2 := 40) rfl ?_
      exact q_retI (mz_fe (e := (40, .ireturn, 1, (0, 0, 0), [])) (by decide +kernel)) (by decide +kernel)
    · refine q_o (mz_fe (e := (32, .iload_n 2, 1, (0, 0, 0), [])) (by decide +kernel)) (pc2 := 33) rfl ?_
      refine q_callI (N := 290) (vs := [.int v9]) (rest := []) (L' := [some (.ref 1), some (.int x0), some (.int v9)]) (f := fun v13 m12 => some (v13, m12)) rfl (mz_fe (e := (33, .invokestatic 296, 155, (290, 1, 1000), [])) (by decide +kernel)) rfl (mz_inv_stat (N := 290) (k := 1) (st := [.int v9]) (rest := []) (vs := [.int v9]) (h := (mz_S0, m8)) rfl rfl (Nat.le_of_ble_eq_true rfl) (Nat.le_of_ble_eq_true rfl)) (mz_dc_lt (n := 1) rfl (by decide +kernel) (by decide +kernel)) (by decide +kernel) (Or.inl (by decide +kernel)) (fun v13 m12 => ?_)
      refine q_o (mz_fe (e := (36, .goto 4, 3, (0, 0, 0), [])) (by decide +kernel)) (pc2 := 40) rfl ?_
      exact q_retI (mz_fe (e := (40, .ireturn, 1, (0, 0, 0), [])) (by decide +kernel)) (by decide +kernel)
  · refine q_ic (v := (-1)) (mz_fe (e := (7, .iconst (-1), 1, (0, 0, 0), [])) (by decide +kernel)) (by decide) ?_
    exact q_retI (mz_fe (e := (8, .ireturn, 1, (0, 0, 0), [])) (by decide +kernel)) (by decide +kernel)
set_option maxRecDepth 10000 in
theorem R_X11_paired_eq (d : Nat) (x0 : Int32) (m : MzM)  : R_X11_paired d x0 m = if x0 = (-1) then ((R_X0_lookAt d 29 m).bind (fun m2 => if ¬ x0 = (-1) then ((R_X0_partnerOf d x0 m2).bind (fun u8 => some (u8.1, u8.2))) else ((R_X0_mostPairs d  m2).bind (fun u11 => some (u11.1, u11.2))))) else ((R_X11_isPerson d x0 m).bind (fun u14 => if ¬ u14.1 = 0 then ((R_X0_lookAt d 29 u14.2).bind (fun m16 => if ¬ x0 = (-1) then ((R_X0_partnerOf d x0 m16).bind (fun u22 => some (u22.1, u22.2))) else ((R_X0_mostPairs d  m16).bind (fun u25 => some (u25.1, u25.2))))) else (some ((-1), u14.2)))) := by
  show mz_cI (mz_T d 150 0 (mz_en (mz_xl 150) [.ref 1, .int x0]) [] m) = _
  rw [show mz_en (mz_xl 150) [.ref 1, .int x0] = [some (.ref 1), some (.int x0)] from by rw [show mz_xl 150 = 2 from by decide +kernel]; rfl]
  refine q_o (mz_fe (e := (0, .iload_n 1, 1, (0, 0, 0), [])) (by decide +kernel)) (pc2 := 1) rfl ?_
  refine q_ic (v := (-1)) (mz_fe (e := (1, .iconst (-1), 1, (0, 0, 0), [])) (by decide +kernel)) (by decide) ?_
  refine q_if (c := .eq) (off := 13) (t := 15) (x := x0) (y := (-1)) (st := []) (mz_fe (e := (2, .if_icmp .eq 13, 3, (0, 0, 0), [])) (by decide +kernel)) (fun _ => rfl) rfl rfl rfl (fun c1 => ?_) (fun c1 => ?_)
  · refine q_o (mz_fe (e := (15, .aload_n 0, 1, (0, 0, 0), [])) (by decide +kernel)) (pc2 := 16) rfl ?_
    refine q_getR (b := 220) (mz_fe (e := (16, .getfield 81, 101, (11, 11, 2), [])) (by decide +kernel)) rfl tg_1 (by rw [ln_1]; decide) (mz_rfS (by decide +kernel)) ?_
    refine q_o (mz_fe (e := (19, .aload_n 0, 1, (0, 0, 0), [])) (by decide +kernel)) (pc2 := 20) rfl ?_
    refine q_getR (b := 29) (mz_fe (e := (20, .getfield 47, 95, (11, 5, 2), [])) (by decide +kernel)) rfl tg_1 (by rw [ln_1]; decide) (mz_rfS (by decide +kernel)) ?_
    refine q_callV (N := 1) (vs := [.ref 220, .ref 29]) (rest := []) (L' := [some (.ref 1), some (.int x0)]) rfl (mz_fe (e := (23, .invokevirtual 290, 153, (1, 2, 6), [])) (by decide +kernel)) rfl (mz_inv_virt (N := 1) (k := 2) (t := 6) (st := [.ref 29, .ref 220]) (rest := []) (b := 220) (vs := [.ref 29]) (h := (mz_S0, m)) rfl rfl (Nat.le_of_ble_eq_true rfl) (Nat.le_of_ble_eq_true rfl) tg_220 (by decide)) (mz_dc_lt (n := 2) rfl (by decide +kernel) (by decide +kernel)) (by decide +kernel) (by decide +kernel) (fun m2 => ?_)
    refine q_o (mz_fe (e := (26, .iload_n 1, 1, (0, 0, 0), [])) (by decide +kernel)) (pc2 := 27) rfl ?_
    refine q_ic (v := (-1)) (mz_fe (e := (27, .iconst (-1), 1, (0, 0, 0), [])) (by decide +kernel)) (by decide) ?_
    refine q_if (c := .ne) (off := 13) (t := 41) (x := x0) (y := (-1)) (st := []) (mz_fe (e := (28, .if_icmp .ne 13, 3, (0, 0, 0), [])) (by decide +kernel)) (fun _ => rfl) rfl rfl rfl (fun c5 => ?_) (fun c5 => ?_)
    · refine q_o (mz_fe (e := (41, .aload_n 0, 1, (0, 0, 0), [])) (by decide +kernel)) (pc2 := 42) rfl ?_
      refine q_getR (b := 220) (mz_fe (e := (42, .getfield 81, 101, (11, 11, 2), [])) (by decide +kernel)) rfl tg_1 (by rw [ln_1]; decide) (mz_rfS (by decide +kernel)) ?_
      refine q_o (mz_fe (e := (45, .iload_n 1, 1, (0, 0, 0), [])) (by decide +kernel)) (pc2 := 46) rfl ?_
      refine q_callI (N := 8) (vs := [.ref 220, .int x0]) (rest := []) (L' := [some (.ref 1), some (.int x0)]) (f := fun v7 m6 => some (v7, m6)) rfl (mz_fe (e := (46, .invokevirtual 304, 157, (8, 2, 6), [])) (by decide +kernel)) rfl (mz_inv_virt (N := 8) (k := 2) (t := 6) (st := [.int x0, .ref 220]) (rest := []) (b := 220) (vs := [.int x0]) (h := (mz_S0, m2)) rfl rfl (Nat.le_of_ble_eq_true rfl) (Nat.le_of_ble_eq_true rfl) tg_220 (by decide)) (mz_dc_lt (n := 2) rfl (by decide +kernel) (by decide +kernel)) (by decide +kernel) (Or.inl (by decide +kernel)) (fun v7 m6 => ?_)
      exact q_retI (mz_fe (e := (49, .ireturn, 1, (0, 0, 0), [])) (by decide +kernel)) (by decide +kernel)
    · refine q_o (mz_fe (e := (31, .aload_n 0, 1, (0, 0, 0), [])) (by decide +kernel)) (pc2 := 32) rfl ?_
      refine q_getR (b := 220) (mz_fe (e := (32, .getfield 81, 101, (11, 11, 2), [])) (by decide +kernel)) rfl tg_1 (by rw [ln_1]; decide) (mz_rfS (by decide +kernel)) ?_
      refine q_callI (N := 5) (vs := [.ref 220]) (rest := []) (L' := [some (.ref 1), some (.int x0)]) (f := fun v10 m9 => some (v10, m9)) rfl (mz_fe (e := (35, .invokevirtual 301, 156, (5, 1, 6), [])) (by decide +kernel)) rfl (mz_inv_virt (N := 5) (k := 1) (t := 6) (st := [.ref 220]) (rest := []) (b := 220) (vs := []) (h := (mz_S0, m2)) rfl rfl (Nat.le_of_ble_eq_true rfl) (Nat.le_of_ble_eq_true rfl) tg_220 (by decide)) (mz_dc_lt (n := 1) rfl (by decide +kernel) (by decide +kernel)) (by decide +kernel) (Or.inl (by decide +kernel)) (fun v10 m9 => ?_)
      refine q_o (mz_fe (e := (38, .goto 11, 3, (0, 0, 0), [])) (by decide +kernel)) (pc2 := 49) rfl ?_
      exact q_retI (mz_fe (e := (49, .ireturn, 1, (0, 0, 0), [])) (by decide +kernel)) (by decide +kernel)
  · refine q_o (mz_fe (e := (5, .aload_n 0, 1, (0, 0, 0), [])) (by decide +kernel)) (pc2 := 6) rfl ?_
    refine q_o (mz_fe (e := (6, .iload_n 1, 1, (0, 0, 0), [])) (by decide +kernel)) (pc2 := 7) rfl ?_
    refine q_callI (N := 165) (vs := [.ref 1, .int x0]) (rest := []) (L' := [some (.ref 1), some (.int x0)]) (f := fun v13 m12 => if ¬ v13 = 0 then ((R_X0_lookAt d 29 m12).bind (fun m16 => if ¬ x0 = (-1) then ((R_X0_partnerOf d x0 m16).bind (fun u22 => some (u22.1, u22.2))) else ((R_X0_mostPairs d  m16).bind (fun u25 => some (u25.1, u25.2))))) else (some ((-1), m12))) rfl (mz_fe (e := (7, .invokevirtual 129, 115, (165, 2, 17), [])) (by decide +kernel)) rfl (mz_inv_virt (N := 165) (k := 2) (t := 17) (st := [.int x0, .ref 1]) (rest := []) (b := 1) (vs := [.int x0]) (h := (mz_S0, m)) rfl rfl (Nat.le_of_ble_eq_true rfl) (Nat.le_of_ble_eq_true rfl) tg_1 (by decide)) (mz_dc_lt (n := 2) rfl (by decide +kernel) (by decide +kernel)) (by decide +kernel) (Or.inr (by decide +kernel)) (fun v13 m12 => ?_)
    refine q_if (c := .ne) (off := 5) (t := 15) (x := v13) (y := 0) (st := []) (mz_fe (e := (10, .ifCond .ne 5, 3, (0, 0, 0), [])) (by decide +kernel)) (fun _ => rfl) rfl rfl rfl (fun c15 => ?_) (fun c15 => ?_)
    · refine q_o (mz_fe (e := (15, .aload_n 0, 1, (0, 0, 0), [])) (by decide +kernel)) (pc2 := 16) rfl ?_
      refine q_getR (b := 220) (mz_fe (e := (16, .getfield 81, 101, (11, 11, 2), [])) (by decide +kernel)) rfl tg_1 (by rw [ln_1]; decide) (mz_rfS (by decide +kernel)) ?_
      refine q_o (mz_fe (e := (19, .aload_n 0, 1, (0, 0, 0), [])) (by decide +kernel)) (pc2 := 20) rfl ?_
      refine q_getR (b := 29) (mz_fe (e := (20, .getfield 47, 95, (11, 5, 2), [])) (by decide +kernel)) rfl tg_1 (by rw [ln_1]; decide) (mz_rfS (by decide +kernel)) ?_
      refine q_callV (N := 1) (vs := [.ref 220, .ref 29]) (rest := []) (L' := [some (.ref 1), some (.int x0)]) rfl (mz_fe (e := (23, .invokevirtual 290, 153, (1, 2, 6), [])) (by decide +kernel)) rfl (mz_inv_virt (N := 1) (k := 2) (t := 6) (st := [.ref 29, .ref 220]) (rest := []) (b := 220) (vs := [.ref 29]) (h := (mz_S0, m12)) rfl rfl (Nat.le_of_ble_eq_true rfl) (Nat.le_of_ble_eq_true rfl) tg_220 (by decide)) (mz_dc_lt (n := 2) rfl (by decide +kernel) (by decide +kernel)) (by decide +kernel) (by decide +kernel) (fun m16 => ?_)
      refine q_o (mz_fe (e := (26, .iload_n 1, 1, (0, 0, 0), [])) (by decide +kernel)) (pc2 := 27) rfl ?_
      refine q_ic (v := (-1)) (mz_fe (e := (27, .iconst (-1), 1, (0, 0, 0), [])) (by decide +kernel)) (by decide) ?_
      refine q_if (c := .ne) (off := 13) (t := 41) (x := x0) (y := (-1)) (st := []) (mz_fe (e := (28, .if_icmp .ne 13, 3, (0, 0, 0), [])) (by decide +kernel)) (fun _ => rfl) rfl rfl rfl (fun c19 => ?_) (fun c19 => ?_)
      · refine q_o (mz_fe (e := (41, .aload_n 0, 1, (0, 0, 0), [])) (by decide +kernel)) (pc2 := 42) rfl ?_
        refine q_getR (b := 220) (mz_fe (e := (42, .getfield 81, 101, (11, 11, 2), [])) (by decide +kernel)) rfl tg_1 (by rw [ln_1]; decide) (mz_rfS (by decide +kernel)) ?_
        refine q_o (mz_fe (e := (45, .iload_n 1, 1, (0, 0, 0), [])) (by decide +kernel)) (pc2 := 46) rfl ?_
        refine q_callI (N := 8) (vs := [.ref 220, .int x0]) (rest := []) (L' := [some (.ref 1), some (.int x0)]) (f := fun v21 m20 => some (v21, m20)) rfl (mz_fe (e := (46, .invokevirtual 304, 157, (8, 2, 6), [])) (by decide +kernel)) rfl (mz_inv_virt (N := 8) (k := 2) (t := 6) (st := [.int x0, .ref 220]) (rest := []) (b := 220) (vs := [.int x0]) (h := (mz_S0, m16)) rfl rfl (Nat.le_of_ble_eq_true rfl) (Nat.le_of_ble_eq_true rfl) tg_220 (by decide)) (mz_dc_lt (n := 2) rfl (by decide +kernel) (by decide +kernel)) (by decide +kernel) (Or.inl (by decide +kernel)) (fun v21 m20 => ?_)
        exact q_retI (mz_fe (e := (49, .ireturn, 1, (0, 0, 0), [])) (by decide +kernel)) (by decide +kernel)
      · refine q_o (mz_fe (e := (31, .aload_n 0, 1, (0, 0, 0), [])) (by decide +kernel)) (pc2 := 32) rfl ?_
        refine q_getR (b := 220) (mz_fe (e := (32, .getfield 81, 101, (11, 11, 2), [])) (by decide +kernel)) rfl tg_1 (by rw [ln_1]; decide) (mz_rfS (by decide +kernel)) ?_
        refine q_callI (N := 5) (vs := [.ref 220]) (rest := []) (L' := [some (.ref 1), some (.int x0)]) (f := fun v24 m23 => some (v24, m23)) rfl (mz_fe (e := (35, .invokevirtual 301, 156, (5, 1, 6), [])) (by decide +kernel)) rfl (mz_inv_virt (N := 5) (k := 1) (t := 6) (st := [.ref 220]) (rest := []) (b := 220) (vs := []) (h := (mz_S0, m16)) rfl rfl (Nat.le_of_ble_eq_true rfl) (Nat.le_of_ble_eq_true rfl) tg_220 (by decide)) (mz_dc_lt (n := 1) rfl (by decide +kernel) (by decide +kernel)) (by decide +kernel) (Or.inl (by decide +kernel)) (fun v24 m23 => ?_)
        refine q_o (mz_fe (e := (38, .goto 11, 3, (0, 0, 0), [])) (by decide +kernel)) (pc2 := 49) rfl ?_
        exact q_retI (mz_fe (e := (49, .ireturn, 1, (0, 0, 0), [])) (by decide +kernel)) (by decide +kernel)
    · refine q_ic (v := (-1)) (mz_fe (e := (13, .iconst (-1), 1, (0, 0, 0), [])) (by decide +kernel)) (by decide) ?_
      exact q_retI (mz_fe (e := (14, .ireturn, 1, (0, 0, 0), [])) (by decide +kernel)) (by decide +kernel)
set_option maxRecDepth 10000 in
theorem R_X11_most_eq (d : Nat) (x0 : Int32) (x1 : Int32) (m : MzM)  : R_X11_most d x0 x1 m = (R_X11_isStuff d x0 m).bind (fun u3 => if u3.1 = 0 then (some ((-1), u3.2)) else ((R_X11_isZeroOrOne d x1 u3.2).bind (fun u7 => if ¬ u7.1 = 0 then (H_X11_most_26 d x0 x1 (-2) (-2) 0 u7.2) else (some ((-1), u7.2))))) := by
  show mz_cI (mz_T d 151 0 (mz_en (mz_xl 151) [.ref 1, .int x0, .int x1]) [] m) = _
  rw [show mz_en (mz_xl 151) [.ref 1, .int x0, .int x1] = [some (.ref 1), some (.int x0), some (.int x1), none, none, none, none] from by rw [show mz_xl 151 = 7 from by decide +kernel]; rfl]
  refine q_o (mz_fe (e := (0, .iload_n 1, 1, (0, 0, 0), [])) (by decide +kernel)) (pc2 := 1) rfl ?_
  refine q_callI (N := 167) (vs := [.int x0]) (rest := []) (L' := [some (.ref 1), some (.int x0), some (.int x1), none, none, none, none]) (f := fun v2 m1 => if v2 = 0 then (some ((-1), m1)) else ((R_X11_isZeroOrOne d x1 m1).bind (fun u7 => if ¬ u7.1 = 0 then (H_X11_most_26 d x0 x1 (-2) (-2) 0 u7.2) else (some ((-1), u7.2))))) rfl (mz_fe (e := (1, .invokestatic 132, 116, (167, 1, 1000), [])) (by decide +kernel)) rfl (mz_inv_stat (N := 167) (k := 1) (st := [.int x0]) (rest := []) (vs := [.int x0]) (h := (mz_S0, m)) rfl rfl (Nat.le_of_ble_eq_true rfl) (Nat.le_of_ble_eq_true rfl)) (mz_dc_lt (n := 1) rfl (by decide +kernel) (by decide +kernel)) (by decide +kernel) (Or.inr (by decide +kernel)) (fun v2 m1 => ?_)
  refine q_if (c := .eq) (off := 10) (t := 14) (x := v2) (y := 0) (st := []) (mz_fe (e := (4, .ifCond .eq 10, 3, (0, 0, 0), [])) (by decide +kernel)) (fun _ => rfl) rfl rfl rfl (fun c4 => ?_) (fun c4 => ?_)
  · refine q_ic (v := (-1)) (mz_fe (e := (14, .iconst (-1), 1, (0, 0, 0), [])) (by decide +kernel)) (by decide) ?_
    exact q_retI (mz_fe (e := (15, .ireturn, 1, (0, 0, 0), [])) (by decide +kernel)) (by decide +kernel)
  · refine q_o (mz_fe (e := (7, .iload_n 2, 1, (0, 0, 0), [])) (by decide +kernel)) (pc2 := 8) rfl ?_
    refine q_callI (N := 171) (vs := [.int x1]) (rest := []) (L' := [some (.ref 1), some (.int x0), some (.int x1), none, none, none, none]) (f := fun v6 m5 => if ¬ v6 = 0 then (H_X11_most_26 d x0 x1 (-2) (-2) 0 m5) else (some ((-1), m5))) rfl (mz_fe (e := (8, .invokestatic 274, 148, (171, 1, 1000), [])) (by decide +kernel)) rfl (mz_inv_stat (N := 171) (k := 1) (st := [.int x1]) (rest := []) (vs := [.int x1]) (h := (mz_S0, m1)) rfl rfl (Nat.le_of_ble_eq_true rfl) (Nat.le_of_ble_eq_true rfl)) (mz_dc_lt (n := 1) rfl (by decide +kernel) (by decide +kernel)) (by decide +kernel) (Or.inr (by decide +kernel)) (fun v6 m5 => ?_)
    refine q_if (c := .ne) (off := 5) (t := 16) (x := v6) (y := 0) (st := []) (mz_fe (e := (11, .ifCond .ne 5, 3, (0, 0, 0), [])) (by decide +kernel)) (fun _ => rfl) rfl rfl rfl (fun c8 => ?_) (fun c8 => ?_)
    · refine q_bi (v := (-2)) (mz_fe (e := (16, .bipush (-2), 2, (0, 0, 0), [])) (by decide +kernel)) (by decide) ?_
      refine q_s (mz_fe (e := (18, .istore_n 3, 1, (0, 0, 0), [])) (by decide +kernel)) (pc' := 19) (L' := [some (.ref 1), some (.int x0), some (.int x1), some (.int (-2)), none, none, none]) (st' := []) rfl ?_
      refine q_bi (v := (-2)) (mz_fe (e := (19, .bipush (-2), 2, (0, 0, 0), [])) (by decide +kernel)) (by decide) ?_
      refine q_s (mz_fe (e := (21, .istore 4, 2, (0, 0, 0), [])) (by decide +kernel)) (pc' := 23) (L' := [some (.ref 1), some (.int x0), some (.int x1), some (.int (-2)), some (.int (-2)), none, none]) (st' := []) rfl ?_
      refine q_ic (v := 0) (mz_fe (e := (23, .iconst 0, 1, (0, 0, 0), [])) (by decide +kernel)) (by decide) ?_
      refine q_s (mz_fe (e := (24, .istore 5, 2, (0, 0, 0), [])) (by decide +kernel)) (pc' := 26) (L' := [some (.ref 1), some (.int x0), some (.int x1), some (.int (-2)), some (.int (-2)), some (.int 0), none]) (st' := []) rfl ?_
      exact congrArg mz_cI (mz_At_msk (L := [some (.ref 1), some (.int x0), some (.int x1), some (.int (-2)), some (.int (-2)), some (.int 0), none]) (L2 := [some (.ref 1), some (.int x0), some (.int x1), some (.int (-2)), some (.int (-2)), some (.int 0), none]) (mz_fe (e := (26, .iload 5, 2, (0, 0, 0), [true, true, true, true, true, true, false])) (by decide +kernel)) rfl rfl)
    · refine q_ic (v := (-1)) (mz_fe (e := (14, .iconst (-1), 1, (0, 0, 0), [])) (by decide +kernel)) (by decide) ?_
      exact q_retI (mz_fe (e := (15, .ireturn, 1, (0, 0, 0), [])) (by decide +kernel)) (by decide +kernel)
set_option maxRecDepth 10000 in
theorem H_X11_most_26_eq (d : Nat) (y1 : Int32) (y2 : Int32) (y3 : Int32) (y4 : Int32) (y5 : Int32) (m : MzM)  : H_X11_most_26 d y1 y2 y3 y4 y5 m = if (mz_rd m 4 4) ≤ y5 then (if ¬ y2 = 0 then (some (y4, m)) else (some (y3, m))) else ((R_X6_amount d 29 y5 y1 m).bind (fun u13 => if y3 = (-2) then (H_X11_most_26 d y1 y2 y5 u13.1 (y5 + 1) u13.2) else (if u13.1 ≤ y4 then (H_X11_most_26 d y1 y2 y3 y4 (y5 + 1) u13.2) else (H_X11_most_26 d y1 y2 y5 u13.1 (y5 + 1) u13.2)))) := by
  show mz_cI (mz_T d 151 26 [some (.ref 1), some (.int y1), some (.int y2), some (.int y3), some (.int y4), some (.int y5), none] [] m) = _
  refine q_s (mz_fe (e := (26, .iload 5, 2, (0, 0, 0), [true, true, true, true, true, true, false])) (by decide +kernel)) (pc' := 28) (L' := [some (.ref 1), some (.int y1), some (.int y2), some (.int y3), some (.int y4), some (.int y5), none]) (st' := [.int y5]) rfl ?_
  refine q_o (mz_fe (e := (28, .aload_n 0, 1, (0, 0, 0), [])) (by decide +kernel)) (pc2 := 29) rfl ?_
  refine q_getR (b := 4) (mz_fe (e := (29, .getfield 19, 91, (11, 1, 2), [])) (by decide +kernel)) rfl tg_1 (by rw [ln_1]; decide) (mz_rfS (by decide +kernel)) ?_
  refine q_getI (mz_fe (e := (32, .getfield 187, 109, (8, 4, 0), [])) (by decide +kernel)) rfl (by decide) tg_4 (by rw [ln_4]; decide) ?_
  refine q_if (c := .ge) (off := 41) (t := 76) (x := y5) (y := (mz_rd m 4 4)) (st := []) (mz_fe (e := (35, .if_icmp .ge 41, 3, (0, 0, 0), [])) (by decide +kernel)) (fun _ => rfl) rfl rfl rfl (fun c9 => ?_) (fun c9 => ?_)
  · refine q_o (mz_fe (e := (76, .iload_n 2, 1, (0, 0, 0), [])) (by decide +kernel)) (pc2 := 77) rfl ?_
    refine q_if (c := .ne) (off := 7) (t := 84) (x := y2) (y := 0) (st := []) (mz_fe (e := (77, .ifCond .ne 7, 3, (0, 0, 0), [])) (by decide +kernel)) (fun _ => rfl) rfl rfl rfl (fun c10 => ?_) (fun c10 => ?_)
    · refine q_o (mz_fe (e := (84, .iload 4, 2, (0, 0, 0), [])) (by decide +kernel)) (pc2 := 86) rfl ?_
      exact q_retI (mz_fe (e := (86, .ireturn, 1, (0, 0, 0), [])) (by decide +kernel)) (by decide +kernel)
    · refine q_o (mz_fe (e := (80, .iload_n 3, 1, (0, 0, 0), [])) (by decide +kernel)) (pc2 := 81) rfl ?_
      refine q_o (mz_fe (e := (81, .goto 5, 3, (0, 0, 0), [])) (by decide +kernel)) (pc2 := 86) rfl ?_
      exact q_retI (mz_fe (e := (86, .ireturn, 1, (0, 0, 0), [])) (by decide +kernel)) (by decide +kernel)
  · refine q_o (mz_fe (e := (38, .aload_n 0, 1, (0, 0, 0), [])) (by decide +kernel)) (pc2 := 39) rfl ?_
    refine q_getR (b := 29) (mz_fe (e := (39, .getfield 47, 95, (11, 5, 2), [])) (by decide +kernel)) rfl tg_1 (by rw [ln_1]; decide) (mz_rfS (by decide +kernel)) ?_
    refine q_o (mz_fe (e := (42, .iload 5, 2, (0, 0, 0), [])) (by decide +kernel)) (pc2 := 44) rfl ?_
    refine q_o (mz_fe (e := (44, .iload_n 1, 1, (0, 0, 0), [])) (by decide +kernel)) (pc2 := 45) rfl ?_
    refine q_callI (N := 72) (vs := [.ref 29, .int y5, .int y1]) (rest := []) (L' := [some (.ref 1), some (.int y1), some (.int y2), some (.int y3), some (.int y4), some (.int y5), none]) (f := fun v12 m11 => if y3 = (-2) then (H_X11_most_26 d y1 y2 y5 v12 (y5 + 1) m11) else (if v12 ≤ y4 then (H_X11_most_26 d y1 y2 y3 y4 (y5 + 1) m11) else (H_X11_most_26 d y1 y2 y5 v12 (y5 + 1) m11))) rfl (mz_fe (e := (45, .invokevirtual 135, 117, (72, 3, 12), [])) (by decide +kernel)) rfl (mz_inv_virt (N := 72) (k := 3) (t := 12) (st := [.int y1, .int y5, .ref 29]) (rest := []) (b := 29) (vs := [.int y5, .int y1]) (h := (mz_S0, m)) rfl rfl (Nat.le_of_ble_eq_true rfl) (Nat.le_of_ble_eq_true rfl) (st_t (by decide : mz_isS 29 = true)) (by decide)) (mz_dc_lt (n := 3) rfl (by decide +kernel) (by decide +kernel)) (by decide +kernel) (Or.inl (by decide +kernel)) (fun v12 m11 => ?_)
    refine q_s (mz_fe (e := (48, .istore 6, 2, (0, 0, 0), [])) (by decide +kernel)) (pc' := 50) (L' := [some (.ref 1), some (.int y1), some (.int y2), some (.int y3), some (.int y4), some (.int y5), some (.int v12)]) (st' := []) rfl ?_
    refine q_o (mz_fe (e := (50, .iload_n 3, 1, (0, 0, 0), [])) (by decide +kernel)) (pc2 := 51) rfl ?_
    refine q_bi (v := (-2)) (mz_fe (e := (51, .bipush (-2), 2, (0, 0, 0), [])) (by decide +kernel)) (by decide) ?_
    refine q_if (c := .eq) (off := 10) (t := 63) (x := y3) (y := (-2)) (st := []) (mz_fe (e := (53, .if_icmp .eq 10, 3, (0, 0, 0), [])) (by decide +kernel)) (fun _ => rfl) rfl rfl rfl (fun c14 => ?_) (fun c14 => ?_)
    · refine q_o (mz_fe (e := (63, .iload 5, 2, (0, 0, 0), [])) (by decide +kernel)) (pc2 := 65) rfl ?_
      refine q_s (mz_fe (e := (65, .istore_n 3, 1, (0, 0, 0), [])) (by decide +kernel)) (pc' := 66) (L' := [some (.ref 1), some (.int y1), some (.int y2), some (.int y5), some (.int y4), some (.int y5), some (.int v12)]) (st' := []) rfl ?_
      refine q_o (mz_fe (e := (66, .iload 6, 2, (0, 0, 0), [])) (by decide +kernel)) (pc2 := 68) rfl ?_
      refine q_s (mz_fe (e := (68, .istore 4, 2, (0, 0, 0), [])) (by decide +kernel)) (pc' := 70) (L' := [some (.ref 1), some (.int y1), some (.int y2), some (.int y5), some (.int v12), some (.int y5), some (.int v12)]) (st' := []) rfl ?_
      refine q_iinc (v := y5) (c := 1) (L3 := [some (.ref 1), some (.int y1), some (.int y2), some (.int y5), some (.int v12), some (.int (y5 + 1)), some (.int v12)]) (mz_fe (e := (70, .iinc 5 1, 3, (0, 0, 0), [])) (by decide +kernel)) rfl rfl (by decide) rfl ?_
      refine q_o (mz_fe (e := (73, .goto (-47), 3, (0, 0, 0), [])) (by decide +kernel)) (pc2 := 26) rfl ?_
      exact congrArg mz_cI (mz_At_msk (L := [some (.ref 1), some (.int y1), some (.int y2), some (.int y5), some (.int v12), some (.int (y5 + 1)), some (.int v12)]) (L2 := [some (.ref 1), some (.int y1), some (.int y2), some (.int y5), some (.int v12), some (.int (y5 + 1)), none]) (mz_fe (e := (26, .iload 5, 2, (0, 0, 0), [true, true, true, true, true, true, false])) (by decide +kernel)) rfl rfl)
    · refine q_o (mz_fe (e := (56, .iload 6, 2, (0, 0, 0), [])) (by decide +kernel)) (pc2 := 58) rfl ?_
      refine q_o (mz_fe (e := (58, .iload 4, 2, (0, 0, 0), [])) (by decide +kernel)) (pc2 := 60) rfl ?_
      refine q_if (c := .le) (off := 10) (t := 70) (x := v12) (y := y4) (st := []) (mz_fe (e := (60, .if_icmp .le 10, 3, (0, 0, 0), [])) (by decide +kernel)) (fun _ => rfl) rfl rfl rfl (fun c15 => ?_) (fun c15 => ?_)
      · refine q_iinc (v := y5) (c := 1) (L3 := [some (.ref 1), some (.int y1), some (.int y2), some (.int y3), some (.int y4), some (.int (y5 + 1)), some (.int v12)]) (mz_fe (e := (70, .iinc 5 1, 3, (0, 0, 0), [])) (by decide +kernel)) rfl rfl (by decide) rfl ?_
        refine q_o (mz_fe (e := (73, .goto (-47), 3, (0, 0, 0), [])) (by decide +kernel)) (pc2 := 26) rfl ?_
        exact congrArg mz_cI (mz_At_msk (L := [some (.ref 1), some (.int y1), some (.int y2), some (.int y3), some (.int y4), some (.int (y5 + 1)), some (.int v12)]) (L2 := [some (.ref 1), some (.int y1), some (.int y2), some (.int y3), some (.int y4), some (.int (y5 + 1)), none]) (mz_fe (e := (26, .iload 5, 2, (0, 0, 0), [true, true, true, true, true, true, false])) (by decide +kernel)) rfl rfl)
      · refine q_o (mz_fe (e := (63, .iload 5, 2, (0, 0, 0), [])) (by decide +kernel)) (pc2 := 65) rfl ?_
        refine q_s (mz_fe (e := (65, .istore_n 3, 1, (0, 0, 0), [])) (by decide +kernel)) (pc' := 66) (L' := [some (.ref 1), some (.int y1), some (.int y2), some (.int y5), some (.int y4), some (.int y5), some (.int v12)]) (st' := []) rfl ?_
        refine q_o (mz_fe (e := (66, .iload 6, 2, (0, 0, 0), [])) (by decide +kernel)) (pc2 := 68) rfl ?_
        refine q_s (mz_fe (e := (68, .istore 4, 2, (0, 0, 0), [])) (by decide +kernel)) (pc' := 70) (L' := [some (.ref 1), some (.int y1), some (.int y2), some (.int y5), some (.int v12), some (.int y5), some (.int v12)]) (st' := []) rfl ?_
        refine q_iinc (v := y5) (c := 1) (L3 := [some (.ref 1), some (.int y1), some (.int y2), some (.int y5), some (.int v12), some (.int (y5 + 1)), some (.int v12)]) (mz_fe (e := (70, .iinc 5 1, 3, (0, 0, 0), [])) (by decide +kernel)) rfl rfl (by decide) rfl ?_
        refine q_o (mz_fe (e := (73, .goto (-47), 3, (0, 0, 0), [])) (by decide +kernel)) (pc2 := 26) rfl ?_
        exact congrArg mz_cI (mz_At_msk (L := [some (.ref 1), some (.int y1), some (.int y2), some (.int y5), some (.int v12), some (.int (y5 + 1)), some (.int v12)]) (L2 := [some (.ref 1), some (.int y1), some (.int y2), some (.int y5), some (.int v12), some (.int (y5 + 1)), none]) (mz_fe (e := (26, .iload 5, 2, (0, 0, 0), [true, true, true, true, true, true, false])) (by decide +kernel)) rfl rfl)
set_option maxRecDepth 10000 in
theorem R_X11_likest_eq (d : Nat) (x0 : Int32) (m : MzM)  : R_X11_likest d x0 m = (R_X11_isZeroOrOne d x0 m).bind (fun u3 => if ¬ u3.1 = 0 then (H_X11_likest_18 d x0 (-2) (-2) 0 u3.2) else (some ((-1), u3.2))) := by
  show mz_cI (mz_T d 152 0 (mz_en (mz_xl 152) [.ref 1, .int x0]) [] m) = _
  rw [show mz_en (mz_xl 152) [.ref 1, .int x0] = [some (.ref 1), some (.int x0), none, none, none, none, none] from by rw [show mz_xl 152 = 7 from by decide +kernel]; rfl]
  refine q_o (mz_fe (e := (0, .iload_n 1, 1, (0, 0, 0), [])) (by decide +kernel)) (pc2 := 1) rfl ?_
  refine q_callI (N := 171) (vs := [.int x0]) (rest := []) (L' := [some (.ref 1), some (.int x0), none, none, none, none, none]) (f := fun v2 m1 => if ¬ v2 = 0 then (H_X11_likest_18 d x0 (-2) (-2) 0 m1) else (some ((-1), m1))) rfl (mz_fe (e := (1, .invokestatic 274, 148, (171, 1, 1000), [])) (by decide +kernel)) rfl (mz_inv_stat (N := 171) (k := 1) (st := [.int x0]) (rest := []) (vs := [.int x0]) (h := (mz_S0, m)) rfl rfl (Nat.le_of_ble_eq_true rfl) (Nat.le_of_ble_eq_true rfl)) (mz_dc_lt (n := 1) rfl (by decide +kernel) (by decide +kernel)) (by decide +kernel) (Or.inr (by decide +kernel)) (fun v2 m1 => ?_)
  refine q_if (c := .ne) (off := 5) (t := 9) (x := v2) (y := 0) (st := []) (mz_fe (e := (4, .ifCond .ne 5, 3, (0, 0, 0), [])) (by decide +kernel)) (fun _ => rfl) rfl rfl rfl (fun c4 => ?_) (fun c4 => ?_)
  · refine q_bi (v := (-2)) (mz_fe (e := (9, .bipush (-2), 2, (0, 0, 0), [])) (by decide +kernel)) (by decide) ?_
    refine q_s (mz_fe (e := (11, .istore_n 2, 1, (0, 0, 0), [])) (by decide +kernel)) (pc' := 12) (L' := [some (.ref 1), some (.int x0), some (.int (-2)), none, none, none, none]) (st' := []) rfl ?_
    refine q_bi (v := (-2)) (mz_fe (e := (12, .bipush (-2), 2, (0, 0, 0), [])) (by decide +kernel)) (by decide) ?_
    refine q_s (mz_fe (e := (14, .istore_n 3, 1, (0, 0, 0), [])) (by decide +kernel)) (pc' := 15) (L' := [some (.ref 1), some (.int x0), some (.int (-2)), some (.int (-2)), none, none, none]) (st' := []) rfl ?_
    refine q_ic (v := 0) (mz_fe (e := (15, .iconst 0, 1, (0, 0, 0), [])) (by decide +kernel)) (by decide) ?_
    refine q_s (mz_fe (e := (16, .istore 4, 2, (0, 0, 0), [])) (by decide +kernel)) (pc' := 18) (L' := [some (.ref 1), some (.int x0), some (.int (-2)), some (.int (-2)), some (.int 0), none, none]) (st' := []) rfl ?_
    exact congrArg mz_cI (mz_At_msk (L := [some (.ref 1), some (.int x0), some (.int (-2)), some (.int (-2)), some (.int 0), none, none]) (L2 := [some (.ref 1), some (.int x0), some (.int (-2)), some (.int (-2)), some (.int 0), none, none]) (mz_fe (e := (18, .iload 4, 2, (0, 0, 0), [true, true, true, true, true, false, false])) (by decide +kernel)) rfl rfl)
  · refine q_ic (v := (-1)) (mz_fe (e := (7, .iconst (-1), 1, (0, 0, 0), [])) (by decide +kernel)) (by decide) ?_
    exact q_retI (mz_fe (e := (8, .ireturn, 1, (0, 0, 0), [])) (by decide +kernel)) (by decide +kernel)
set_option maxRecDepth 10000 in
theorem H_X11_likest_18_eq (d : Nat) (y1 : Int32) (y2 : Int32) (y3 : Int32) (y4 : Int32) (m : MzM)  : H_X11_likest_18 d y1 y2 y3 y4 m = if (mz_rd m 4 4) ≤ y4 then (if ¬ y1 = 0 then (some (y3, m)) else (some (y2, m))) else (H_X11_likest_36 d y1 y2 y3 y4 (y4 + 1) m) := by
  show mz_cI (mz_T d 152 18 [some (.ref 1), some (.int y1), some (.int y2), some (.int y3), some (.int y4), none, none] [] m) = _
  refine q_s (mz_fe (e := (18, .iload 4, 2, (0, 0, 0), [true, true, true, true, true, false, false])) (by decide +kernel)) (pc' := 20) (L' := [some (.ref 1), some (.int y1), some (.int y2), some (.int y3), some (.int y4), none, none]) (st' := [.int y4]) rfl ?_
  refine q_o (mz_fe (e := (20, .aload_n 0, 1, (0, 0, 0), [])) (by decide +kernel)) (pc2 := 21) rfl ?_
  refine q_getR (b := 4) (mz_fe (e := (21, .getfield 19, 91, (11, 1, 2), [])) (by decide +kernel)) rfl tg_1 (by rw [ln_1]; decide) (mz_rfS (by decide +kernel)) ?_
  refine q_getI (mz_fe (e := (24, .getfield 187, 109, (8, 4, 0), [])) (by decide +kernel)) rfl (by decide) tg_4 (by rw [ln_4]; decide) ?_
  refine q_if (c := .ge) (off := 70) (t := 97) (x := y4) (y := (mz_rd m 4 4)) (st := []) (mz_fe (e := (27, .if_icmp .ge 70, 3, (0, 0, 0), [])) (by decide +kernel)) (fun _ => rfl) rfl rfl rfl (fun c5 => ?_) (fun c5 => ?_)
  · refine q_o (mz_fe (e := (97, .iload_n 1, 1, (0, 0, 0), [])) (by decide +kernel)) (pc2 := 98) rfl ?_
    refine q_if (c := .ne) (off := 7) (t := 105) (x := y1) (y := 0) (st := []) (mz_fe (e := (98, .ifCond .ne 7, 3, (0, 0, 0), [])) (by decide +kernel)) (fun _ => rfl) rfl rfl rfl (fun c6 => ?_) (fun c6 => ?_)
    · refine q_o (mz_fe (e := (105, .iload_n 3, 1, (0, 0, 0), [])) (by decide +kernel)) (pc2 := 106) rfl ?_
      exact q_retI (mz_fe (e := (106, .ireturn, 1, (0, 0, 0), [])) (by decide +kernel)) (by decide +kernel)
    · refine q_o (mz_fe (e := (101, .iload_n 2, 1, (0, 0, 0), [])) (by decide +kernel)) (pc2 := 102) rfl ?_
      refine q_o (mz_fe (e := (102, .goto 4, 3, (0, 0, 0), [])) (by decide +kernel)) (pc2 := 106) rfl ?_
      exact q_retI (mz_fe (e := (106, .ireturn, 1, (0, 0, 0), [])) (by decide +kernel)) (by decide +kernel)
  · refine q_o (mz_fe (e := (30, .iload 4, 2, (0, 0, 0), [])) (by decide +kernel)) (pc2 := 32) rfl ?_
    refine q_ic (v := 1) (mz_fe (e := (32, .iconst 1, 1, (0, 0, 0), [])) (by decide +kernel)) (by decide) ?_
    refine q_o (mz_fe (e := (33, .iadd, 1, (0, 0, 0), [])) (by decide +kernel)) (pc2 := 34) rfl ?_
    refine q_s (mz_fe (e := (34, .istore 5, 2, (0, 0, 0), [])) (by decide +kernel)) (pc' := 36) (L' := [some (.ref 1), some (.int y1), some (.int y2), some (.int y3), some (.int y4), some (.int (y4 + 1)), none]) (st' := []) rfl ?_
    exact congrArg mz_cI (mz_At_msk (L := [some (.ref 1), some (.int y1), some (.int y2), some (.int y3), some (.int y4), some (.int (y4 + 1)), none]) (L2 := [some (.ref 1), some (.int y1), some (.int y2), some (.int y3), some (.int y4), some (.int (y4 + 1)), none]) (mz_fe (e := (36, .iload 5, 2, (0, 0, 0), [true, true, true, true, true, true, false])) (by decide +kernel)) rfl rfl)
set_option maxRecDepth 10000 in
theorem H_X11_likest_36_eq (d : Nat) (y1 : Int32) (y2 : Int32) (y3 : Int32) (y4 : Int32) (y5 : Int32) (m : MzM)  : H_X11_likest_36 d y1 y2 y3 y4 y5 m = if (mz_rd m 4 4) ≤ y5 then (H_X11_likest_18 d y1 y2 y3 (y4 + 1) m) else ((R_X6_apart d 29 y4 y5 m).bind (fun u10 => if y2 = (-2) then (H_X11_likest_36 d y1 (((10 : Int32) * y4) + y5) u10.1 y4 (y5 + 1) u10.2) else (if y3 ≤ u10.1 then (H_X11_likest_36 d y1 y2 y3 y4 (y5 + 1) u10.2) else (H_X11_likest_36 d y1 (((10 : Int32) * y4) + y5) u10.1 y4 (y5 + 1) u10.2)))) := by
  show mz_cI (mz_T d 152 36 [some (.ref 1), some (.int y1), some (.int y2), some (.int y3), some (.int y4), some (.int y5), none] [] m) = _
  refine q_s (mz_fe (e := (36, .iload 5, 2, (0, 0, 0), [true, true, true, true, true, true, false])) (by decide +kernel)) (pc' := 38) (L' := [some (.ref 1), some (.int y1), some (.int y2), some (.int y3), some (.int y4), some (.int y5), none]) (st' := [.int y5]) rfl ?_
  refine q_o (mz_fe (e := (38, .aload_n 0, 1, (0, 0, 0), [])) (by decide +kernel)) (pc2 := 39) rfl ?_
  refine q_getR (b := 4) (mz_fe (e := (39, .getfield 19, 91, (11, 1, 2), [])) (by decide +kernel)) rfl tg_1 (by rw [ln_1]; decide) (mz_rfS (by decide +kernel)) ?_
  refine q_getI (mz_fe (e := (42, .getfield 187, 109, (8, 4, 0), [])) (by decide +kernel)) rfl (by decide) tg_4 (by rw [ln_4]; decide) ?_
  refine q_if (c := .ge) (off := 46) (t := 91) (x := y5) (y := (mz_rd m 4 4)) (st := []) (mz_fe (e := (45, .if_icmp .ge 46, 3, (0, 0, 0), [])) (by decide +kernel)) (fun _ => rfl) rfl rfl rfl (fun c7 => ?_) (fun c7 => ?_)
  · refine q_iinc (v := y4) (c := 1) (L3 := [some (.ref 1), some (.int y1), some (.int y2), some (.int y3), some (.int (y4 + 1)), some (.int y5), none]) (mz_fe (e := (91, .iinc 4 1, 3, (0, 0, 0), [])) (by decide +kernel)) rfl rfl (by decide) rfl ?_
    refine q_o (mz_fe (e := (94, .goto (-76), 3, (0, 0, 0), [])) (by decide +kernel)) (pc2 := 18) rfl ?_
    exact congrArg mz_cI (mz_At_msk (L := [some (.ref 1), some (.int y1), some (.int y2), some (.int y3), some (.int (y4 + 1)), some (.int y5), none]) (L2 := [some (.ref 1), some (.int y1), some (.int y2), some (.int y3), some (.int (y4 + 1)), none, none]) (mz_fe (e := (18, .iload 4, 2, (0, 0, 0), [true, true, true, true, true, false, false])) (by decide +kernel)) rfl rfl)
  · refine q_o (mz_fe (e := (48, .aload_n 0, 1, (0, 0, 0), [])) (by decide +kernel)) (pc2 := 49) rfl ?_
    refine q_getR (b := 29) (mz_fe (e := (49, .getfield 47, 95, (11, 5, 2), [])) (by decide +kernel)) rfl tg_1 (by rw [ln_1]; decide) (mz_rfS (by decide +kernel)) ?_
    refine q_o (mz_fe (e := (52, .iload 4, 2, (0, 0, 0), [])) (by decide +kernel)) (pc2 := 54) rfl ?_
    refine q_o (mz_fe (e := (54, .iload 5, 2, (0, 0, 0), [])) (by decide +kernel)) (pc2 := 56) rfl ?_
    refine q_callI (N := 76) (vs := [.ref 29, .int y4, .int y5]) (rest := []) (L' := [some (.ref 1), some (.int y1), some (.int y2), some (.int y3), some (.int y4), some (.int y5), none]) (f := fun v9 m8 => if y2 = (-2) then (H_X11_likest_36 d y1 (((10 : Int32) * y4) + y5) v9 y4 (y5 + 1) m8) else (if y3 ≤ v9 then (H_X11_likest_36 d y1 y2 y3 y4 (y5 + 1) m8) else (H_X11_likest_36 d y1 (((10 : Int32) * y4) + y5) v9 y4 (y5 + 1) m8))) rfl (mz_fe (e := (56, .invokevirtual 178, 125, (76, 3, 12), [])) (by decide +kernel)) rfl (mz_inv_virt (N := 76) (k := 3) (t := 12) (st := [.int y5, .int y4, .ref 29]) (rest := []) (b := 29) (vs := [.int y4, .int y5]) (h := (mz_S0, m)) rfl rfl (Nat.le_of_ble_eq_true rfl) (Nat.le_of_ble_eq_true rfl) (st_t (by decide : mz_isS 29 = true)) (by decide)) (mz_dc_lt (n := 3) rfl (by decide +kernel) (by decide +kernel)) (by decide +kernel) (Or.inl (by decide +kernel)) (fun v9 m8 => ?_)
    refine q_s (mz_fe (e := (59, .istore 6, 2, (0, 0, 0), [])) (by decide +kernel)) (pc' := 61) (L' := [some (.ref 1), some (.int y1), some (.int y2), some (.int y3), some (.int y4), some (.int y5), some (.int v9)]) (st' := []) rfl ?_
    refine q_o (mz_fe (e := (61, .iload_n 2, 1, (0, 0, 0), [])) (by decide +kernel)) (pc2 := 62) rfl ?_
    refine q_bi (v := (-2)) (mz_fe (e := (62, .bipush (-2), 2, (0, 0, 0), [])) (by decide +kernel)) (by decide) ?_
    refine q_if (c := .eq) (off := 9) (t := 73) (x := y2) (y := (-2)) (st := []) (mz_fe (e := (64, .if_icmp .eq 9, 3, (0, 0, 0), [])) (by decide +kernel)) (fun _ => rfl) rfl rfl rfl (fun c11 => ?_) (fun c11 => ?_)
    · refine q_bi (v := 10) (mz_fe (e := (73, .bipush 10, 2, (0, 0, 0), [])) (by decide +kernel)) (by decide) ?_
      refine q_o (mz_fe (e := (75, .iload 4, 2, (0, 0, 0), [])) (by decide +kernel)) (pc2 := 77) rfl ?_
      refine q_o (mz_fe (e := (77, .imul, 1, (0, 0, 0), [])) (by decide +kernel)) (pc2 := 78) rfl ?_
      refine q_o (mz_fe (e := (78, .iload 5, 2, (0, 0, 0), [])) (by decide +kernel)) (pc2 := 80) rfl ?_
      refine q_o (mz_fe (e := (80, .iadd, 1, (0, 0, 0), [])) (by decide +kernel)) (pc2 := 81) rfl ?_
      refine q_s (mz_fe (e := (81, .istore_n 2, 1, (0, 0, 0), [])) (by decide +kernel)) (pc' := 82) (L' := [some (.ref 1), some (.int y1), some (.int (((10 : Int32) * y4) + y5)), some (.int y3), some (.int y4), some (.int y5), some (.int v9)]) (st' := []) rfl ?_
      refine q_o (mz_fe (e := (82, .iload 6, 2, (0, 0, 0), [])) (by decide +kernel)) (pc2 := 84) rfl ?_
      refine q_s (mz_fe (e := (84, .istore_n 3, 1, (0, 0, 0), [])) (by decide +kernel)) (pc' := 85) (L' := [some (.ref 1), some (.int y1), some (.int (((10 : Int32) * y4) + y5)), some (.int v9), some (.int y4), some (.int y5), some (.int v9)]) (st' := []) rfl ?_
      refine q_iinc (v := y5) (c := 1) (L3 := [some (.ref 1), some (.int y1), some (.int (((10 : Int32) * y4) + y5)), some (.int v9), some (.int y4), some (.int (y5 + 1)), some (.int v9)]) (mz_fe (e := (85, .iinc 5 1, 3, (0, 0, 0), [])) (by decide +kernel)) rfl rfl (by decide) rfl ?_
      refine q_o (mz_fe (e := (88, .goto (-52), 3, (0, 0, 0), [])) (by decide +kernel)) (pc2 := 36) rfl ?_
      exact congrArg mz_cI (mz_At_msk (L := [some (.ref 1), some (.int y1), some (.int (((10 : Int32) * y4) + y5)), some (.int v9), some (.int y4), some (.int (y5 + 1)), some (.int v9)]) (L2 := [some (.ref 1), some (.int y1), some (.int (((10 : Int32) * y4) + y5)), some (.int v9), some (.int y4), some (.int (y5 + 1)), none]) (mz_fe (e := (36, .iload 5, 2, (0, 0, 0), [true, true, true, true, true, true, false])) (by decide +kernel)) rfl rfl)
    · refine q_o (mz_fe (e := (67, .iload 6, 2, (0, 0, 0), [])) (by decide +kernel)) (pc2 := 69) rfl ?_
      refine q_o (mz_fe (e := (69, .iload_n 3, 1, (0, 0, 0), [])) (by decide +kernel)) (pc2 := 70) rfl ?_
      refine q_if (c := .ge) (off := 15) (t := 85) (x := v9) (y := y3) (st := []) (mz_fe (e := (70, .if_icmp .ge 15, 3, (0, 0, 0), [])) (by decide +kernel)) (fun _ => rfl) rfl rfl rfl (fun c12 => ?_) (fun c12 => ?_)
      · refine q_iinc (v := y5) (c := 1) (L3 := [some (.ref 1), some (.int y1), some (.int y2), some (.int y3), some (.int y4), some (.int (y5 + 1)), some (.int v9)]) (mz_fe (e := (85, .iinc 5 1, 3, (0, 0, 0), [])) (by decide +kernel)) rfl rfl (by decide) rfl ?_
        refine q_o (mz_fe (e := (88, .goto (-52), 3, (0, 0, 0), [])) (by decide +kernel)) (pc2 := 36) rfl ?_
        exact congrArg mz_cI (mz_At_msk (L := [some (.ref 1), some (.int y1), some (.int y2), some (.int y3), some (.int y4), some (.int (y5 + 1)), some (.int v9)]) (L2 := [some (.ref 1), some (.int y1), some (.int y2), some (.int y3), some (.int y4), some (.int (y5 + 1)), none]) (mz_fe (e := (36, .iload 5, 2, (0, 0, 0), [true, true, true, true, true, true, false])) (by decide +kernel)) rfl rfl)
      · refine q_bi (v := 10) (mz_fe (e := (73, .bipush 10, 2, (0, 0, 0), [])) (by decide +kernel)) (by decide) ?_
        refine q_o (mz_fe (e := (75, .iload 4, 2, (0, 0, 0), [])) (by decide +kernel)) (pc2 := 77) rfl ?_
        refine q_o (mz_fe (e := (77, .imul, 1, (0, 0, 0), [])) (by decide +kernel)) (pc2 := 78) rfl ?_
        refine q_o (mz_fe (e := (78, .iload 5, 2, (0, 0, 0), [])) (by decide +kernel)) (pc2 := 80) rfl ?_
        refine q_o (mz_fe (e := (80, .iadd, 1, (0, 0, 0), [])) (by decide +kernel)) (pc2 := 81) rfl ?_
        refine q_s (mz_fe (e := (81, .istore_n 2, 1, (0, 0, 0), [])) (by decide +kernel)) (pc' := 82) (L' := [some (.ref 1), some (.int y1), some (.int (((10 : Int32) * y4) + y5)), some (.int y3), some (.int y4), some (.int y5), some (.int v9)]) (st' := []) rfl ?_
        refine q_o (mz_fe (e := (82, .iload 6, 2, (0, 0, 0), [])) (by decide +kernel)) (pc2 := 84) rfl ?_
        refine q_s (mz_fe (e := (84, .istore_n 3, 1, (0, 0, 0), [])) (by decide +kernel)) (pc' := 85) (L' := [some (.ref 1), some (.int y1), some (.int (((10 : Int32) * y4) + y5)), some (.int v9), some (.int y4), some (.int y5), some (.int v9)]) (st' := []) rfl ?_
        refine q_iinc (v := y5) (c := 1) (L3 := [some (.ref 1), some (.int y1), some (.int (((10 : Int32) * y4) + y5)), some (.int v9), some (.int y4), some (.int (y5 + 1)), some (.int v9)]) (mz_fe (e := (85, .iinc 5 1, 3, (0, 0, 0), [])) (by decide +kernel)) rfl rfl (by decide) rfl ?_
        refine q_o (mz_fe (e := (88, .goto (-52), 3, (0, 0, 0), [])) (by decide +kernel)) (pc2 := 36) rfl ?_
        exact congrArg mz_cI (mz_At_msk (L := [some (.ref 1), some (.int y1), some (.int (((10 : Int32) * y4) + y5)), some (.int v9), some (.int y4), some (.int (y5 + 1)), some (.int v9)]) (L2 := [some (.ref 1), some (.int y1), some (.int (((10 : Int32) * y4) + y5)), some (.int v9), some (.int y4), some (.int (y5 + 1)), none]) (mz_fe (e := (36, .iload 5, 2, (0, 0, 0), [true, true, true, true, true, true, false])) (by decide +kernel)) rfl rfl)
set_option maxRecDepth 10000 in
theorem R_X11_fair_eq (d : Nat) (x0 : Int32) (m : MzM)  : R_X11_fair d x0 m = (R_X11_isStuff d x0 m).bind (fun u3 => if ¬ u3.1 = 0 then (if ¬ (mz_rd u3.2 4 4) = 0 then ((R_X6_amount d 29 0 x0 u3.2).bind (fun u8 => H_X11_fair_36 d x0 u8.1 u8.1 1 u8.2)) else (some (0, u3.2))) else (some ((-1), u3.2))) := by
  show mz_cI (mz_T d 153 0 (mz_en (mz_xl 153) [.ref 1, .int x0]) [] m) = _
  rw [show mz_en (mz_xl 153) [.ref 1, .int x0] = [some (.ref 1), some (.int x0), none, none, none, none] from by rw [show mz_xl 153 = 6 from by decide +kernel]; rfl]
  refine q_o (mz_fe (e := (0, .iload_n 1, 1, (0, 0, 0), [])) (by decide +kernel)) (pc2 := 1) rfl ?_
  refine q_callI (N := 167) (vs := [.int x0]) (rest := []) (L' := [some (.ref 1), some (.int x0), none, none, none, none]) (f := fun v2 m1 => if ¬ v2 = 0 then (if ¬ (mz_rd m1 4 4) = 0 then ((R_X6_amount d 29 0 x0 m1).bind (fun u8 => H_X11_fair_36 d x0 u8.1 u8.1 1 u8.2)) else (some (0, m1))) else (some ((-1), m1))) rfl (mz_fe (e := (1, .invokestatic 132, 116, (167, 1, 1000), [])) (by decide +kernel)) rfl (mz_inv_stat (N := 167) (k := 1) (st := [.int x0]) (rest := []) (vs := [.int x0]) (h := (mz_S0, m)) rfl rfl (Nat.le_of_ble_eq_true rfl) (Nat.le_of_ble_eq_true rfl)) (mz_dc_lt (n := 1) rfl (by decide +kernel) (by decide +kernel)) (by decide +kernel) (Or.inr (by decide +kernel)) (fun v2 m1 => ?_)
  refine q_if (c := .ne) (off := 5) (t := 9) (x := v2) (y := 0) (st := []) (mz_fe (e := (4, .ifCond .ne 5, 3, (0, 0, 0), [])) (by decide +kernel)) (fun _ => rfl) rfl rfl rfl (fun c4 => ?_) (fun c4 => ?_)
  · refine q_o (mz_fe (e := (9, .aload_n 0, 1, (0, 0, 0), [])) (by decide +kernel)) (pc2 := 10) rfl ?_
    refine q_getR (b := 4) (mz_fe (e := (10, .getfield 19, 91, (11, 1, 2), [])) (by decide +kernel)) rfl tg_1 (by rw [ln_1]; decide) (mz_rfS (by decide +kernel)) ?_
    refine q_getI (mz_fe (e := (13, .getfield 187, 109, (8, 4, 0), [])) (by decide +kernel)) rfl (by decide) tg_4 (by rw [ln_4]; decide) ?_
    refine q_if (c := .ne) (off := 5) (t := 21) (x := (mz_rd m1 4 4)) (y := 0) (st := []) (mz_fe (e := (16, .ifCond .ne 5, 3, (0, 0, 0), [])) (by decide +kernel)) (fun _ => rfl) rfl rfl rfl (fun c5 => ?_) (fun c5 => ?_)
    · refine q_o (mz_fe (e := (21, .aload_n 0, 1, (0, 0, 0), [])) (by decide +kernel)) (pc2 := 22) rfl ?_
      refine q_getR (b := 29) (mz_fe (e := (22, .getfield 47, 95, (11, 5, 2), [])) (by decide +kernel)) rfl tg_1 (by rw [ln_1]; decide) (mz_rfS (by decide +kernel)) ?_
      refine q_ic (v := 0) (mz_fe (e := (25, .iconst 0, 1, (0, 0, 0), [])) (by decide +kernel)) (by decide) ?_
      refine q_o (mz_fe (e := (26, .iload_n 1, 1, (0, 0, 0), [])) (by decide +kernel)) (pc2 := 27) rfl ?_
      refine q_callI (N := 72) (vs := [.ref 29, .int 0, .int x0]) (rest := []) (L' := [some (.ref 1), some (.int x0), none, none, none, none]) (f := fun v7 m6 => H_X11_fair_36 d x0 v7 v7 1 m6) rfl (mz_fe (e := (27, .invokevirtual 135, 117, (72, 3, 12), [])) (by decide +kernel)) rfl (mz_inv_virt (N := 72) (k := 3) (t := 12) (st := [.int x0, .int 0, .ref 29]) (rest := []) (b := 29) (vs := [.int 0, .int x0]) (h := (mz_S0, m1)) rfl rfl (Nat.le_of_ble_eq_true rfl) (Nat.le_of_ble_eq_true rfl) (st_t (by decide : mz_isS 29 = true)) (by decide)) (mz_dc_lt (n := 3) rfl (by decide +kernel) (by decide +kernel)) (by decide +kernel) (Or.inl (by decide +kernel)) (fun v7 m6 => ?_)
      refine q_s (mz_fe (e := (30, .istore_n 2, 1, (0, 0, 0), [])) (by decide +kernel)) (pc' := 31) (L' := [some (.ref 1), some (.int x0), some (.int v7), none, none, none]) (st' := []) rfl ?_
      refine q_o (mz_fe (e := (31, .iload_n 2, 1, (0, 0, 0), [])) (by decide +kernel)) (pc2 := 32) rfl ?_
      refine q_s (mz_fe (e := (32, .istore_n 3, 1, (0, 0, 0), [])) (by decide +kernel)) (pc' := 33) (L' := [some (.ref 1), some (.int x0), some (.int v7), some (.int v7), none, none]) (st' := []) rfl ?_
      refine q_ic (v := 1) (mz_fe (e := (33, .iconst 1, 1, (0, 0, 0), [])) (by decide +kernel)) (by decide) ?_
      refine q_s (mz_fe (e := (34, .istore 4, 2, (0, 0, 0), [])) (by decide +kernel)) (pc' := 36) (L' := [some (.ref 1), some (.int x0), some (.int v7), some (.int v7), some (.int 1), none]) (st' := []) rfl ?_
      exact congrArg mz_cI (mz_At_msk (L := [some (.ref 1), some (.int x0), some (.int v7), some (.int v7), some (.int 1), none]) (L2 := [some (.ref 1), some (.int x0), some (.int v7), some (.int v7), some (.int 1), none]) (mz_fe (e := (36, .iload 4, 2, (0, 0, 0), [true, true, true, true, true, false])) (by decide +kernel)) rfl rfl)
    · refine q_ic (v := 0) (mz_fe (e := (19, .iconst 0, 1, (0, 0, 0), [])) (by decide +kernel)) (by decide) ?_
      exact q_retI (mz_fe (e := (20, .ireturn, 1, (0, 0, 0), [])) (by decide +kernel)) (by decide +kernel)
  · refine q_ic (v := (-1)) (mz_fe (e := (7, .iconst (-1), 1, (0, 0, 0), [])) (by decide +kernel)) (by decide) ?_
    exact q_retI (mz_fe (e := (8, .ireturn, 1, (0, 0, 0), [])) (by decide +kernel)) (by decide +kernel)
set_option maxRecDepth 10000 in
theorem H_X11_fair_36_eq (d : Nat) (y1 : Int32) (y2 : Int32) (y3 : Int32) (y4 : Int32) (m : MzM)  : H_X11_fair_36 d y1 y2 y3 y4 m = if (mz_rd m 4 4) ≤ y4 then (some ((y3 - y2), m)) else ((R_X6_amount d 29 y4 y1 m).bind (fun u12 => H_X11_fair_36 d y1 (if u12.1 < y2 then u12.1 else y2) (if y3 < u12.1 then u12.1 else y3) (y4 + 1) u12.2)) := by
  show mz_cI (mz_T d 153 36 [some (.ref 1), some (.int y1), some (.int y2), some (.int y3), some (.int y4), none] [] m) = _
  refine q_s (mz_fe (e := (36, .iload 4, 2, (0, 0, 0), [true, true, true, true, true, false])) (by decide +kernel)) (pc' := 38) (L' := [some (.ref 1), some (.int y1), some (.int y2), some (.int y3), some (.int y4), none]) (st' := [.int y4]) rfl ?_
  refine q_o (mz_fe (e := (38, .aload_n 0, 1, (0, 0, 0), [])) (by decide +kernel)) (pc2 := 39) rfl ?_
  refine q_getR (b := 4) (mz_fe (e := (39, .getfield 19, 91, (11, 1, 2), [])) (by decide +kernel)) rfl tg_1 (by rw [ln_1]; decide) (mz_rfS (by decide +kernel)) ?_
  refine q_getI (mz_fe (e := (42, .getfield 187, 109, (8, 4, 0), [])) (by decide +kernel)) rfl (by decide) tg_4 (by rw [ln_4]; decide) ?_
  refine q_if (c := .ge) (off := 35) (t := 80) (x := y4) (y := (mz_rd m 4 4)) (st := []) (mz_fe (e := (45, .if_icmp .ge 35, 3, (0, 0, 0), [])) (by decide +kernel)) (fun _ => rfl) rfl rfl rfl (fun c9 => ?_) (fun c9 => ?_)
  · refine q_o (mz_fe (e := (80, .iload_n 3, 1, (0, 0, 0), [])) (by decide +kernel)) (pc2 := 81) rfl ?_
    refine q_o (mz_fe (e := (81, .iload_n 2, 1, (0, 0, 0), [])) (by decide +kernel)) (pc2 := 82) rfl ?_
    refine q_o (mz_fe (e := (82, .isub, 1, (0, 0, 0), [])) (by decide +kernel)) (pc2 := 83) rfl ?_
    exact q_retI (mz_fe (e := (83, .ireturn, 1, (0, 0, 0), [])) (by decide +kernel)) (by decide +kernel)
  · refine q_o (mz_fe (e := (48, .aload_n 0, 1, (0, 0, 0), [])) (by decide +kernel)) (pc2 := 49) rfl ?_
    refine q_getR (b := 29) (mz_fe (e := (49, .getfield 47, 95, (11, 5, 2), [])) (by decide +kernel)) rfl tg_1 (by rw [ln_1]; decide) (mz_rfS (by decide +kernel)) ?_
    refine q_o (mz_fe (e := (52, .iload 4, 2, (0, 0, 0), [])) (by decide +kernel)) (pc2 := 54) rfl ?_
    refine q_o (mz_fe (e := (54, .iload_n 1, 1, (0, 0, 0), [])) (by decide +kernel)) (pc2 := 55) rfl ?_
    refine q_callI (N := 72) (vs := [.ref 29, .int y4, .int y1]) (rest := []) (L' := [some (.ref 1), some (.int y1), some (.int y2), some (.int y3), some (.int y4), none]) (f := fun v11 m10 => H_X11_fair_36 d y1 (if v11 < y2 then v11 else y2) (if y3 < v11 then v11 else y3) (y4 + 1) m10) rfl (mz_fe (e := (55, .invokevirtual 135, 117, (72, 3, 12), [])) (by decide +kernel)) rfl (mz_inv_virt (N := 72) (k := 3) (t := 12) (st := [.int y1, .int y4, .ref 29]) (rest := []) (b := 29) (vs := [.int y4, .int y1]) (h := (mz_S0, m)) rfl rfl (Nat.le_of_ble_eq_true rfl) (Nat.le_of_ble_eq_true rfl) (st_t (by decide : mz_isS 29 = true)) (by decide)) (mz_dc_lt (n := 3) rfl (by decide +kernel) (by decide +kernel)) (by decide +kernel) (Or.inl (by decide +kernel)) (fun v11 m10 => ?_)
    refine q_s (mz_fe (e := (58, .istore 5, 2, (0, 0, 0), [])) (by decide +kernel)) (pc' := 60) (L' := [some (.ref 1), some (.int y1), some (.int y2), some (.int y3), some (.int y4), some (.int v11)]) (st' := []) rfl ?_
    refine q_o (mz_fe (e := (60, .iload_n 2, 1, (0, 0, 0), [])) (by decide +kernel)) (pc2 := 61) rfl ?_
    refine q_o (mz_fe (e := (61, .iload 5, 2, (0, 0, 0), [])) (by decide +kernel)) (pc2 := 63) rfl ?_
    refine q_min (mz_fe (e := (63, .invokestatic 307, 25, (9996, 0, 0), [])) (by decide +kernel)) rfl (Nat.le_of_ble_eq_true rfl) ?_
    refine q_s (mz_fe (e := (66, .istore_n 2, 1, (0, 0, 0), [])) (by decide +kernel)) (pc' := 67) (L' := [some (.ref 1), some (.int y1), some (.int (if v11 < y2 then v11 else y2)), some (.int y3), some (.int y4), some (.int v11)]) (st' := []) rfl ?_
    refine q_o (mz_fe (e := (67, .iload_n 3, 1, (0, 0, 0), [])) (by decide +kernel)) (pc2 := 68) rfl ?_
    refine q_o (mz_fe (e := (68, .iload 5, 2, (0, 0, 0), [])) (by decide +kernel)) (pc2 := 70) rfl ?_
    refine q_max (mz_fe (e := (70, .invokestatic 312, 26, (9997, 0, 0), [])) (by decide +kernel)) rfl (Nat.le_of_ble_eq_true rfl) ?_
    refine q_s (mz_fe (e := (73, .istore_n 3, 1, (0, 0, 0), [])) (by decide +kernel)) (pc' := 74) (L' := [some (.ref 1), some (.int y1), some (.int (if v11 < y2 then v11 else y2)), some (.int (if y3 < v11 then v11 else y3)), some (.int y4), some (.int v11)]) (st' := []) rfl ?_
    refine q_iinc (v := y4) (c := 1) (L3 := [some (.ref 1), some (.int y1), some (.int (if v11 < y2 then v11 else y2)), some (.int (if y3 < v11 then v11 else y3)), some (.int (y4 + 1)), some (.int v11)]) (mz_fe (e := (74, .iinc 4 1, 3, (0, 0, 0), [])) (by decide +kernel)) rfl rfl (by decide) rfl ?_
    refine q_o (mz_fe (e := (77, .goto (-41), 3, (0, 0, 0), [])) (by decide +kernel)) (pc2 := 36) rfl ?_
    exact congrArg mz_cI (mz_At_msk (L := [some (.ref 1), some (.int y1), some (.int (if v11 < y2 then v11 else y2)), some (.int (if y3 < v11 then v11 else y3)), some (.int (y4 + 1)), some (.int v11)]) (L2 := [some (.ref 1), some (.int y1), some (.int (if v11 < y2 then v11 else y2)), some (.int (if y3 < v11 then v11 else y3)), some (.int (y4 + 1)), none]) (mz_fe (e := (36, .iload 4, 2, (0, 0, 0), [true, true, true, true, true, false])) (by decide +kernel)) rfl rfl)
set_option maxRecDepth 10000 in
theorem R_X11_ends_eq (d : Nat)  (m : MzM)  : R_X11_ends d  m = (R_X6_copyFrom d 33 29 m).bind (fun m1 => H_X11_ends_13 d 0 m1) := by
  show mz_cI (mz_T d 154 0 (mz_en (mz_xl 154) [.ref 1]) [] m) = _
  rw [show mz_en (mz_xl 154) [.ref 1] = [some (.ref 1), none] from by rw [show mz_xl 154 = 2 from by decide +kernel]; rfl]
  refine q_o (mz_fe (e := (0, .aload_n 0, 1, (0, 0, 0), [])) (by decide +kernel)) (pc2 := 1) rfl ?_
  refine q_getR (b := 33) (mz_fe (e := (1, .getfield 51, 96, (11, 6, 2), [])) (by decide +kernel)) rfl tg_1 (by rw [ln_1]; decide) (mz_rfS (by decide +kernel)) ?_
  refine q_o (mz_fe (e := (4, .aload_n 0, 1, (0, 0, 0), [])) (by decide +kernel)) (pc2 := 5) rfl ?_
  refine q_getR (b := 29) (mz_fe (e := (5, .getfield 47, 95, (11, 5, 2), [])) (by decide +kernel)) rfl tg_1 (by rw [ln_1]; decide) (mz_rfS (by decide +kernel)) ?_
  refine q_callV (N := 68) (vs := [.ref 33, .ref 29]) (rest := []) (L' := [some (.ref 1), none]) rfl (mz_fe (e := (8, .invokevirtual 259, 143, (68, 2, 12), [])) (by decide +kernel)) rfl (mz_inv_virt (N := 68) (k := 2) (t := 12) (st := [.ref 29, .ref 33]) (rest := []) (b := 33) (vs := [.ref 29]) (h := (mz_S0, m)) rfl rfl (Nat.le_of_ble_eq_true rfl) (Nat.le_of_ble_eq_true rfl) (st_t (by decide : mz_isS 33 = true)) (by decide)) (mz_dc_lt (n := 2) rfl (by decide +kernel) (by decide +kernel)) (by decide +kernel) (by decide +kernel) (fun m1 => ?_)
  refine q_ic (v := 0) (mz_fe (e := (11, .iconst 0, 1, (0, 0, 0), [])) (by decide +kernel)) (by decide) ?_
  refine q_s (mz_fe (e := (12, .istore_n 1, 1, (0, 0, 0), [])) (by decide +kernel)) (pc' := 13) (L' := [some (.ref 1), some (.int 0)]) (st' := []) rfl ?_
  exact congrArg mz_cI (mz_At_msk (L := [some (.ref 1), some (.int 0)]) (L2 := [some (.ref 1), some (.int 0)]) (mz_fe (e := (13, .iload_n 1, 1, (0, 0, 0), [true, true])) (by decide +kernel)) rfl rfl)
set_option maxRecDepth 10000 in
theorem H_X11_ends_13_eq (d : Nat) (y1 : Int32) (m : MzM)  : H_X11_ends_13 d y1 m = if (200 : Int32) < y1 then (some ((-2), m)) else ((R_X3_anySuitQuarrels d 33 m).bind (fun u7 => if ¬ u7.1 = 0 then ((R_X3_goSuits d 33 u7.2).bind (fun m9 => H_X11_ends_13 d (y1 + 1) m9)) else (some (y1, u7.2)))) := by
  show mz_cI (mz_T d 154 13 [some (.ref 1), some (.int y1)] [] m) = _
  refine q_s (mz_fe (e := (13, .iload_n 1, 1, (0, 0, 0), [true, true])) (by decide +kernel)) (pc' := 14) (L' := [some (.ref 1), some (.int y1)]) (st' := [.int y1]) rfl ?_
  refine q_si (v := 200) (mz_fe (e := (14, .sipush 200, 3, (0, 0, 0), [])) (by decide +kernel)) (by decide) ?_
  refine q_if (c := .gt) (off := 36) (t := 53) (x := y1) (y := 200) (st := []) (mz_fe (e := (17, .if_icmp .gt 36, 3, (0, 0, 0), [])) (by decide +kernel)) (fun _ => rfl) rfl rfl rfl (fun c4 => ?_) (fun c4 => ?_)
  · refine q_bi (v := (-2)) (mz_fe (e := (53, .bipush (-2), 2, (0, 0, 0), [])) (by decide +kernel)) (by decide) ?_
    exact q_retI (mz_fe (e := (55, .ireturn, 1, (0, 0, 0), [])) (by decide +kernel)) (by decide +kernel)
  · refine q_o (mz_fe (e := (20, .aload_n 0, 1, (0, 0, 0), [])) (by decide +kernel)) (pc2 := 21) rfl ?_
    refine q_getR (b := 27) (mz_fe (e := (21, .getfield 40, 94, (11, 4, 2), [])) (by decide +kernel)) rfl tg_1 (by rw [ln_1]; decide) (mz_rfS (by decide +kernel)) ?_
    refine q_o (mz_fe (e := (24, .aload_n 0, 1, (0, 0, 0), [])) (by decide +kernel)) (pc2 := 25) rfl ?_
    refine q_getR (b := 33) (mz_fe (e := (25, .getfield 51, 96, (11, 6, 2), [])) (by decide +kernel)) rfl tg_1 (by rw [ln_1]; decide) (mz_rfS (by decide +kernel)) ?_
    refine q_callI (N := 39) (vs := [.ref 27, .ref 33]) (rest := []) (L' := [some (.ref 1), some (.int y1)]) (f := fun v6 m5 => if ¬ v6 = 0 then ((R_X3_goSuits d 33 m5).bind (fun m9 => H_X11_ends_13 d (y1 + 1) m9)) else (some (y1, m5))) rfl (mz_fe (e := (28, .invokevirtual 315, 158, (39, 2, 9), [])) (by decide +kernel)) rfl (mz_inv_virt (N := 39) (k := 2) (t := 9) (st := [.ref 33, .ref 27]) (rest := []) (b := 27) (vs := [.ref 33]) (h := (mz_S0, m)) rfl rfl (Nat.le_of_ble_eq_true rfl) (Nat.le_of_ble_eq_true rfl) tg_27 (by decide)) (mz_dc_lt (n := 2) rfl (by decide +kernel) (by decide +kernel)) (by decide +kernel) (Or.inr (by decide +kernel)) (fun v6 m5 => ?_)
    refine q_if (c := .ne) (off := 5) (t := 36) (x := v6) (y := 0) (st := []) (mz_fe (e := (31, .ifCond .ne 5, 3, (0, 0, 0), [])) (by decide +kernel)) (fun _ => rfl) rfl rfl rfl (fun c8 => ?_) (fun c8 => ?_)
    · refine q_o (mz_fe (e := (36, .aload_n 0, 1, (0, 0, 0), [])) (by decide +kernel)) (pc2 := 37) rfl ?_
      refine q_getR (b := 27) (mz_fe (e := (37, .getfield 40, 94, (11, 4, 2), [])) (by decide +kernel)) rfl tg_1 (by rw [ln_1]; decide) (mz_rfS (by decide +kernel)) ?_
      refine q_o (mz_fe (e := (40, .aload_n 0, 1, (0, 0, 0), [])) (by decide +kernel)) (pc2 := 41) rfl ?_
      refine q_getR (b := 33) (mz_fe (e := (41, .getfield 51, 96, (11, 6, 2), [])) (by decide +kernel)) rfl tg_1 (by rw [ln_1]; decide) (mz_rfS (by decide +kernel)) ?_
      refine q_callV (N := 38) (vs := [.ref 27, .ref 33]) (rest := []) (L' := [some (.ref 1), some (.int y1)]) rfl (mz_fe (e := (44, .invokevirtual 318, 159, (38, 2, 9), [])) (by decide +kernel)) rfl (mz_inv_virt (N := 38) (k := 2) (t := 9) (st := [.ref 33, .ref 27]) (rest := []) (b := 27) (vs := [.ref 33]) (h := (mz_S0, m5)) rfl rfl (Nat.le_of_ble_eq_true rfl) (Nat.le_of_ble_eq_true rfl) tg_27 (by decide)) (mz_dc_lt (n := 2) rfl (by decide +kernel) (by decide +kernel)) (by decide +kernel) (by decide +kernel) (fun m9 => ?_)
      refine q_iinc (v := y1) (c := 1) (L3 := [some (.ref 1), some (.int (y1 + 1))]) (mz_fe (e := (47, .iinc 1 1, 3, (0, 0, 0), [])) (by decide +kernel)) rfl rfl (by decide) rfl ?_
      refine q_o (mz_fe (e := (50, .goto (-37), 3, (0, 0, 0), [])) (by decide +kernel)) (pc2 := 13) rfl ?_
      exact congrArg mz_cI (mz_At_msk (L := [some (.ref 1), some (.int (y1 + 1))]) (L2 := [some (.ref 1), some (.int (y1 + 1))]) (mz_fe (e := (13, .iload_n 1, 1, (0, 0, 0), [true, true])) (by decide +kernel)) rfl rfl)
    · refine q_o (mz_fe (e := (34, .iload_n 1, 1, (0, 0, 0), [])) (by decide +kernel)) (pc2 := 35) rfl ?_
      exact q_retI (mz_fe (e := (35, .ireturn, 1, (0, 0, 0), [])) (by decide +kernel)) (by decide +kernel)
set_option maxRecDepth 10000 in
theorem R_X11_bill_eq (d : Nat) (x0 : Int32) (m : MzM)  : R_X11_bill d x0 m = (R_X11_areDays d x0 m).bind (fun u3 => if ¬ u3.1 = 0 then ((R_X6_copyFrom d 33 29 u3.2).bind (fun m5 => H_X11_bill_22 d x0 0 m5)) else (some ((-1), u3.2))) := by
  show mz_cI (mz_T d 155 0 (mz_en (mz_xl 155) [.ref 1, .int x0]) [] m) = _
  rw [show mz_en (mz_xl 155) [.ref 1, .int x0] = [some (.ref 1), some (.int x0), none] from by rw [show mz_xl 155 = 3 from by decide +kernel]; rfl]
  refine q_o (mz_fe (e := (0, .iload_n 1, 1, (0, 0, 0), [])) (by decide +kernel)) (pc2 := 1) rfl ?_
  refine q_callI (N := 169) (vs := [.int x0]) (rest := []) (L' := [some (.ref 1), some (.int x0), none]) (f := fun v2 m1 => if ¬ v2 = 0 then ((R_X6_copyFrom d 33 29 m1).bind (fun m5 => H_X11_bill_22 d x0 0 m5)) else (some ((-1), m1))) rfl (mz_fe (e := (1, .invokestatic 242, 138, (169, 1, 1000), [])) (by decide +kernel)) rfl (mz_inv_stat (N := 169) (k := 1) (st := [.int x0]) (rest := []) (vs := [.int x0]) (h := (mz_S0, m)) rfl rfl (Nat.le_of_ble_eq_true rfl) (Nat.le_of_ble_eq_true rfl)) (mz_dc_lt (n := 1) rfl (by decide +kernel) (by decide +kernel)) (by decide +kernel) (Or.inr (by decide +kernel)) (fun v2 m1 => ?_)
  refine q_if (c := .ne) (off := 5) (t := 9) (x := v2) (y := 0) (st := []) (mz_fe (e := (4, .ifCond .ne 5, 3, (0, 0, 0), [])) (by decide +kernel)) (fun _ => rfl) rfl rfl rfl (fun c4 => ?_) (fun c4 => ?_)
  · refine q_o (mz_fe (e := (9, .aload_n 0, 1, (0, 0, 0), [])) (by decide +kernel)) (pc2 := 10) rfl ?_
    refine q_getR (b := 33) (mz_fe (e := (10, .getfield 51, 96, (11, 6, 2), [])) (by decide +kernel)) rfl tg_1 (by rw [ln_1]; decide) (mz_rfS (by decide +kernel)) ?_
    refine q_o (mz_fe (e := (13, .aload_n 0, 1, (0, 0, 0), [])) (by decide +kernel)) (pc2 := 14) rfl ?_
    refine q_getR (b := 29) (mz_fe (e := (14, .getfield 47, 95, (11, 5, 2), [])) (by decide +kernel)) rfl tg_1 (by rw [ln_1]; decide) (mz_rfS (by decide +kernel)) ?_
    refine q_callV (N := 68) (vs := [.ref 33, .ref 29]) (rest := []) (L' := [some (.ref 1), some (.int x0), none]) rfl (mz_fe (e := (17, .invokevirtual 259, 143, (68, 2, 12), [])) (by decide +kernel)) rfl (mz_inv_virt (N := 68) (k := 2) (t := 12) (st := [.ref 29, .ref 33]) (rest := []) (b := 33) (vs := [.ref 29]) (h := (mz_S0, m1)) rfl rfl (Nat.le_of_ble_eq_true rfl) (Nat.le_of_ble_eq_true rfl) (st_t (by decide : mz_isS 33 = true)) (by decide)) (mz_dc_lt (n := 2) rfl (by decide +kernel) (by decide +kernel)) (by decide +kernel) (by decide +kernel) (fun m5 => ?_)
    refine q_ic (v := 0) (mz_fe (e := (20, .iconst 0, 1, (0, 0, 0), [])) (by decide +kernel)) (by decide) ?_
    refine q_s (mz_fe (e := (21, .istore_n 2, 1, (0, 0, 0), [])) (by decide +kernel)) (pc' := 22) (L' := [some (.ref 1), some (.int x0), some (.int 0)]) (st' := []) rfl ?_
    exact congrArg mz_cI (mz_At_msk (L := [some (.ref 1), some (.int x0), some (.int 0)]) (L2 := [some (.ref 1), some (.int x0), some (.int 0)]) (mz_fe (e := (22, .iload_n 2, 1, (0, 0, 0), [true, true, true])) (by decide +kernel)) rfl rfl)
  · refine q_ic (v := (-1)) (mz_fe (e := (7, .iconst (-1), 1, (0, 0, 0), [])) (by decide +kernel)) (by decide) ?_
    exact q_retI (mz_fe (e := (8, .ireturn, 1, (0, 0, 0), [])) (by decide +kernel)) (by decide +kernel)
set_option maxRecDepth 10000 in
theorem H_X11_bill_22_eq (d : Nat) (y1 : Int32) (y2 : Int32) (m : MzM)  : H_X11_bill_22 d y1 y2 m = if y1 ≤ y2 then (some (((mz_rd m 33 7) - (mz_rd m 29 7)), m)) else ((R_X3_goSuits d 33 m).bind (fun m9 => H_X11_bill_22 d y1 (y2 + 1) m9)) := by
  show mz_cI (mz_T d 155 22 [some (.ref 1), some (.int y1), some (.int y2)] [] m) = _
  refine q_s (mz_fe (e := (22, .iload_n 2, 1, (0, 0, 0), [true, true, true])) (by decide +kernel)) (pc' := 23) (L' := [some (.ref 1), some (.int y1), some (.int y2)]) (st' := [.int y2]) rfl ?_
  refine q_o (mz_fe (e := (23, .iload_n 1, 1, (0, 0, 0), [])) (by decide +kernel)) (pc2 := 24) rfl ?_
  refine q_if (c := .ge) (off := 20) (t := 44) (x := y2) (y := y1) (st := []) (mz_fe (e := (24, .if_icmp .ge 20, 3, (0, 0, 0), [])) (by decide +kernel)) (fun _ => rfl) rfl rfl rfl (fun c8 => ?_) (fun c8 => ?_)
  · refine q_o (mz_fe (e := (44, .aload_n 0, 1, (0, 0, 0), [])) (by decide +kernel)) (pc2 := 45) rfl ?_
    refine q_getR (b := 33) (mz_fe (e := (45, .getfield 51, 96, (11, 6, 2), [])) (by decide +kernel)) rfl tg_1 (by rw [ln_1]; decide) (mz_rfS (by decide +kernel)) ?_
    refine q_getI (mz_fe (e := (48, .getfield 202, 113, (6, 7, 0), [])) (by decide +kernel)) rfl (by decide) (st_t (by decide : mz_isS 33 = true)) (by rw [(st_l (by decide : mz_isS 33 = true))]; decide) ?_
    refine q_o (mz_fe (e := (51, .aload_n 0, 1, (0, 0, 0), [])) (by decide +kernel)) (pc2 := 52) rfl ?_
    refine q_getR (b := 29) (mz_fe (e := (52, .getfield 47, 95, (11, 5, 2), [])) (by decide +kernel)) rfl tg_1 (by rw [ln_1]; decide) (mz_rfS (by decide +kernel)) ?_
    refine q_getI (mz_fe (e := (55, .getfield 202, 113, (6, 7, 0), [])) (by decide +kernel)) rfl (by decide) (st_t (by decide : mz_isS 29 = true)) (by rw [(st_l (by decide : mz_isS 29 = true))]; decide) ?_
    refine q_o (mz_fe (e := (58, .isub, 1, (0, 0, 0), [])) (by decide +kernel)) (pc2 := 59) rfl ?_
    exact q_retI (mz_fe (e := (59, .ireturn, 1, (0, 0, 0), [])) (by decide +kernel)) (by decide +kernel)
  · refine q_o (mz_fe (e := (27, .aload_n 0, 1, (0, 0, 0), [])) (by decide +kernel)) (pc2 := 28) rfl ?_
    refine q_getR (b := 27) (mz_fe (e := (28, .getfield 40, 94, (11, 4, 2), [])) (by decide +kernel)) rfl tg_1 (by rw [ln_1]; decide) (mz_rfS (by decide +kernel)) ?_
    refine q_o (mz_fe (e := (31, .aload_n 0, 1, (0, 0, 0), [])) (by decide +kernel)) (pc2 := 32) rfl ?_
    refine q_getR (b := 33) (mz_fe (e := (32, .getfield 51, 96, (11, 6, 2), [])) (by decide +kernel)) rfl tg_1 (by rw [ln_1]; decide) (mz_rfS (by decide +kernel)) ?_
    refine q_callV (N := 38) (vs := [.ref 27, .ref 33]) (rest := []) (L' := [some (.ref 1), some (.int y1), some (.int y2)]) rfl (mz_fe (e := (35, .invokevirtual 318, 159, (38, 2, 9), [])) (by decide +kernel)) rfl (mz_inv_virt (N := 38) (k := 2) (t := 9) (st := [.ref 33, .ref 27]) (rest := []) (b := 27) (vs := [.ref 33]) (h := (mz_S0, m)) rfl rfl (Nat.le_of_ble_eq_true rfl) (Nat.le_of_ble_eq_true rfl) tg_27 (by decide)) (mz_dc_lt (n := 2) rfl (by decide +kernel) (by decide +kernel)) (by decide +kernel) (by decide +kernel) (fun m9 => ?_)
    refine q_iinc (v := y2) (c := 1) (L3 := [some (.ref 1), some (.int y1), some (.int (y2 + 1))]) (mz_fe (e := (38, .iinc 2 1, 3, (0, 0, 0), [])) (by decide +kernel)) rfl rfl (by decide) rfl ?_
    refine q_o (mz_fe (e := (41, .goto (-19), 3, (0, 0, 0), [])) (by decide +kernel)) (pc2 := 22) rfl ?_
    exact congrArg mz_cI (mz_At_msk (L := [some (.ref 1), some (.int y1), some (.int (y2 + 1))]) (L2 := [some (.ref 1), some (.int y1), some (.int (y2 + 1))]) (mz_fe (e := (22, .iload_n 2, 1, (0, 0, 0), [true, true, true])) (by decide +kernel)) rfl rfl)
set_option maxRecDepth 10000 in
theorem R_X11_then_eq (d : Nat) (x0 : Int32) (x1 : Int32) (x2 : Int32) (m : MzM)  : R_X11_then d x0 x1 x2 m = if x0 = (-1) then ((R_X11_isStuff d x1 m).bind (fun u4 => if u4.1 = 0 then (some ((-1), u4.2)) else ((R_X11_areDays d x2 u4.2).bind (fun u8 => if ¬ u8.1 = 0 then ((R_X11_lookAhead d x2 (mz_rd u8.2 4 8) u8.2).bind (fun m10 => if ¬ x0 = (-1) then ((R_X6_amount d 33 x0 x1 m10).bind (fun u16 => some (u16.1, u16.2))) else (mz_g (mz_ok x1 4) (some ((mz_rd m10 35 (x1 : Int32).toNatClampNeg), m10))))) else (some ((-1), u8.2)))))) else ((R_X11_isPerson d x0 m).bind (fun u20 => if u20.1 = 0 then (some ((-1), u20.2)) else ((R_X11_isStuff d x1 u20.2).bind (fun u24 => if u24.1 = 0 then (some ((-1), u24.2)) else ((R_X11_areDays d x2 u24.2).bind (fun u28 => if ¬ u28.1 = 0 then ((R_X11_lookAhead d x2 (mz_rd u28.2 4 8) u28.2).bind (fun m30 => if ¬ x0 = (-1) then ((R_X6_amount d 33 x0 x1 m30).bind (fun u36 => some (u36.1, u36.2))) else (mz_g (mz_ok x1 4) (some ((mz_rd m30 35 (x1 : Int32).toNatClampNeg), m30))))) else (some ((-1), u28.2)))))))) := by
  show mz_cI (mz_T d 156 0 (mz_en (mz_xl 156) [.ref 1, .int x0, .int x1, .int x2]) [] m) = _
  rw [show mz_en (mz_xl 156) [.ref 1, .int x0, .int x1, .int x2] = [some (.ref 1), some (.int x0), some (.int x1), some (.int x2)] from by rw [show mz_xl 156 = 4 from by decide +kernel]; rfl]
  refine q_o (mz_fe (e := (0, .iload_n 1, 1, (0, 0, 0), [])) (by decide +kernel)) (pc2 := 1) rfl ?_
  refine q_ic (v := (-1)) (mz_fe (e := (1, .iconst (-1), 1, (0, 0, 0), [])) (by decide +kernel)) (by decide) ?_
  refine q_if (c := .eq) (off := 11) (t := 13) (x := x0) (y := (-1)) (st := []) (mz_fe (e := (2, .if_icmp .eq 11, 3, (0, 0, 0), [])) (by decide +kernel)) (fun _ => rfl) rfl rfl rfl (fun c1 => ?_) (fun c1 => ?_)
  · refine q_o (mz_fe (e := (13, .iload_n 2, 1, (0, 0, 0), [])) (by decide +kernel)) (pc2 := 14) rfl ?_
    refine q_callI (N := 167) (vs := [.int x1]) (rest := []) (L' := [some (.ref 1), some (.int x0), some (.int x1), some (.int x2)]) (f := fun v3 m2 => if v3 = 0 then (some ((-1), m2)) else ((R_X11_areDays d x2 m2).bind (fun u8 => if ¬ u8.1 = 0 then ((R_X11_lookAhead d x2 (mz_rd u8.2 4 8) u8.2).bind (fun m10 => if ¬ x0 = (-1) then ((R_X6_amount d 33 x0 x1 m10).bind (fun u16 => some (u16.1, u16.2))) else (mz_g (mz_ok x1 4) (some ((mz_rd m10 35 (x1 : Int32).toNatClampNeg), m10))))) else (some ((-1), u8.2))))) rfl (mz_fe (e := (14, .invokestatic 132, 116, (167, 1, 1000), [])) (by decide +kernel)) rfl (mz_inv_stat (N := 167) (k := 1) (st := [.int x1]) (rest := []) (vs := [.int x1]) (h := (mz_S0, m)) rfl rfl (Nat.le_of_ble_eq_true rfl) (Nat.le_of_ble_eq_true rfl)) (mz_dc_lt (n := 1) rfl (by decide +kernel) (by decide +kernel)) (by decide +kernel) (Or.inr (by decide +kernel)) (fun v3 m2 => ?_)
    refine q_if (c := .eq) (off := 10) (t := 27) (x := v3) (y := 0) (st := []) (mz_fe (e := (17, .ifCond .eq 10, 3, (0, 0, 0), [])) (by decide +kernel)) (fun _ => rfl) rfl rfl rfl (fun c5 => ?_) (fun c5 => ?_)
    · refine q_ic (v := (-1)) (mz_fe (e := (27, .iconst (-1), 1, (0, 0, 0), [])) (by decide +kernel)) (by decide) ?_
      exact q_retI (mz_fe (e := (28, .ireturn, 1, (0, 0, 0), [])) (by decide +kernel)) (by decide +kernel)
    · refine q_o (mz_fe (e := (20, .iload_n 3, 1, (0, 0, 0), [])) (by decide +kernel)) (pc2 := 21) rfl ?_
      refine q_callI (N := 169) (vs := [.int x2]) (rest := []) (L' := [some (.ref 1), some (.int x0), some (.int x1), some (.int x2)]) (f := fun v7 m6 => if ¬ v7 = 0 then ((R_X11_lookAhead d x2 (mz_rd m6 4 8) m6).bind (fun m10 => if ¬ x0 = (-1) then ((R_X6_amount d 33 x0 x1 m10).bind (fun u16 => some (u16.1, u16.2))) else (mz_g (mz_ok x1 4) (some ((mz_rd m10 35 (x1 : Int32).toNatClampNeg), m10))))) else (some ((-1), m6))) rfl (mz_fe (e := (21, .invokestatic 242, 138, (169, 1, 1000), [])) (by decide +kernel)) rfl (mz_inv_stat (N := 169) (k := 1) (st := [.int x2]) (rest := []) (vs := [.int x2]) (h := (mz_S0, m2)) rfl rfl (Nat.le_of_ble_eq_true rfl) (Nat.le_of_ble_eq_true rfl)) (mz_dc_lt (n := 1) rfl (by decide +kernel) (by decide +kernel)) (by decide +kernel) (Or.inr (by decide +kernel)) (fun v7 m6 => ?_)
      refine q_if (c := .ne) (off := 5) (t := 29) (x := v7) (y := 0) (st := []) (mz_fe (e := (24, .ifCond .ne 5, 3, (0, 0, 0), [])) (by decide +kernel)) (fun _ => rfl) rfl rfl rfl (fun c9 => ?_) (fun c9 => ?_)
      · refine q_o (mz_fe (e := (29, .aload_n 0, 1, (0, 0, 0), [])) (by decide +kernel)) (pc2 := 30) rfl ?_
        refine q_o (mz_fe (e := (30, .iload_n 3, 1, (0, 0, 0), [])) (by decide +kernel)) (pc2 := 31) rfl ?_
        refine q_o (mz_fe (e := (31, .aload_n 0, 1, (0, 0, 0), [])) (by decide +kernel)) (pc2 := 32) rfl ?_
        refine q_getR (b := 4) (mz_fe (e := (32, .getfield 19, 91, (11, 1, 2), [])) (by decide +kernel)) rfl tg_1 (by rw [ln_1]; decide) (mz_rfS (by decide +kernel)) ?_
        refine q_getI (mz_fe (e := (35, .getfield 210, 116, (8, 8, 0), [])) (by decide +kernel)) rfl (by decide) tg_4 (by rw [ln_4]; decide) ?_
        refine q_callV (N := 160) (vs := [.ref 1, .int x2, .int (mz_rd m6 4 8)]) (rest := []) (L' := [some (.ref 1), some (.int x0), some (.int x1), some (.int x2)]) rfl (mz_fe (e := (38, .invokevirtual 321, 160, (160, 3, 17), [])) (by decide +kernel)) rfl (mz_inv_virt (N := 160) (k := 3) (t := 17) (st := [.int (mz_rd m6 4 8), .int x2, .ref 1]) (rest := []) (b := 1) (vs := [.int x2, .int (mz_rd m6 4 8)]) (h := (mz_S0, m6)) rfl rfl (Nat.le_of_ble_eq_true rfl) (Nat.le_of_ble_eq_true rfl) tg_1 (by decide)) (mz_dc_lt (n := 3) rfl (by decide +kernel) (by decide +kernel)) (by decide +kernel) (by decide +kernel) (fun m10 => ?_)
        refine q_o (mz_fe (e := (41, .iload_n 1, 1, (0, 0, 0), [])) (by decide +kernel)) (pc2 := 42) rfl ?_
        refine q_ic (v := (-1)) (mz_fe (e := (42, .iconst (-1), 1, (0, 0, 0), [])) (by decide +kernel)) (by decide) ?_
        refine q_if (c := .ne) (off := 15) (t := 58) (x := x0) (y := (-1)) (st := []) (mz_fe (e := (43, .if_icmp .ne 15, 3, (0, 0, 0), [])) (by decide +kernel)) (fun _ => rfl) rfl rfl rfl (fun c13 => ?_) (fun c13 => ?_)
        · refine q_o (mz_fe (e := (58, .aload_n 0, 1, (0, 0, 0), [])) (by decide +kernel)) (pc2 := 59) rfl ?_
          refine q_getR (b := 33) (mz_fe (e := (59, .getfield 51, 96, (11, 6, 2), [])) (by decide +kernel)) rfl tg_1 (by rw [ln_1]; decide) (mz_rfS (by decide +kernel)) ?_
          refine q_o (mz_fe (e := (62, .iload_n 1, 1, (0, 0, 0), [])) (by decide +kernel)) (pc2 := 63) rfl ?_
          refine q_o (mz_fe (e := (63, .iload_n 2, 1, (0, 0, 0), [])) (by decide +kernel)) (pc2 := 64) rfl ?_
          refine q_callI (N := 72) (vs := [.ref 33, .int x0, .int x1]) (rest := []) (L' := [some (.ref 1), some (.int x0), some (.int x1), some (.int x2)]) (f := fun v15 m14 => some (v15, m14)) rfl (mz_fe (e := (64, .invokevirtual 135, 117, (72, 3, 12), [])) (by decide +kernel)) rfl (mz_inv_virt (N := 72) (k := 3) (t := 12) (st := [.int x1, .int x0, .ref 33]) (rest := []) (b := 33) (vs := [.int x0, .int x1]) (h := (mz_S0, m10)) rfl rfl (Nat.le_of_ble_eq_true rfl) (Nat.le_of_ble_eq_true rfl) (st_t (by decide : mz_isS 33 = true)) (by decide)) (mz_dc_lt (n := 3) rfl (by decide +kernel) (by decide +kernel)) (by decide +kernel) (Or.inl (by decide +kernel)) (fun v15 m14 => ?_)
          exact q_retI (mz_fe (e := (67, .ireturn, 1, (0, 0, 0), [])) (by decide +kernel)) (by decide +kernel)
        · refine q_o (mz_fe (e := (46, .aload_n 0, 1, (0, 0, 0), [])) (by decide +kernel)) (pc2 := 47) rfl ?_
          refine q_getR (b := 33) (mz_fe (e := (47, .getfield 51, 96, (11, 6, 2), [])) (by decide +kernel)) rfl tg_1 (by rw [ln_1]; decide) (mz_rfS (by decide +kernel)) ?_
          refine q_getR (b := 35) (mz_fe (e := (50, .getfield 151, 106, (6, 1, 2), [])) (by decide +kernel)) rfl (st_t (by decide : mz_isS 33 = true)) (by rw [(st_l (by decide : mz_isS 33 = true))]; decide) (mz_rfS (by decide +kernel)) ?_
          refine q_o (mz_fe (e := (53, .iload_n 2, 1, (0, 0, 0), [])) (by decide +kernel)) (pc2 := 54) rfl ?_
          refine q_ialdg rfl (mz_fe (e := (54, .iaload, 1, (0, 0, 0), [])) (by decide +kernel)) rfl (by decide) (st_wt (by decide : mz_isS 33 = true)) (st_wl (by decide : mz_isS 33 = true)) (fun g17 => ?_)
          refine q_o (mz_fe (e := (55, .goto 12, 3, (0, 0, 0), [])) (by decide +kernel)) (pc2 := 67) rfl ?_
          exact q_retI (mz_fe (e := (67, .ireturn, 1, (0, 0, 0), [])) (by decide +kernel)) (by decide +kernel)
      · refine q_ic (v := (-1)) (mz_fe (e := (27, .iconst (-1), 1, (0, 0, 0), [])) (by decide +kernel)) (by decide) ?_
        exact q_retI (mz_fe (e := (28, .ireturn, 1, (0, 0, 0), [])) (by decide +kernel)) (by decide +kernel)
  · refine q_o (mz_fe (e := (5, .aload_n 0, 1, (0, 0, 0), [])) (by decide +kernel)) (pc2 := 6) rfl ?_
    refine q_o (mz_fe (e := (6, .iload_n 1, 1, (0, 0, 0), [])) (by decide +kernel)) (pc2 := 7) rfl ?_
    refine q_callI (N := 165) (vs := [.ref 1, .int x0]) (rest := []) (L' := [some (.ref 1), some (.int x0), some (.int x1), some (.int x2)]) (f := fun v19 m18 => if v19 = 0 then (some ((-1), m18)) else ((R_X11_isStuff d x1 m18).bind (fun u24 => if u24.1 = 0 then (some ((-1), u24.2)) else ((R_X11_areDays d x2 u24.2).bind (fun u28 => if ¬ u28.1 = 0 then ((R_X11_lookAhead d x2 (mz_rd u28.2 4 8) u28.2).bind (fun m30 => if ¬ x0 = (-1) then ((R_X6_amount d 33 x0 x1 m30).bind (fun u36 => some (u36.1, u36.2))) else (mz_g (mz_ok x1 4) (some ((mz_rd m30 35 (x1 : Int32).toNatClampNeg), m30))))) else (some ((-1), u28.2))))))) rfl (mz_fe (e := (7, .invokevirtual 129, 115, (165, 2, 17), [])) (by decide +kernel)) rfl (mz_inv_virt (N := 165) (k := 2) (t := 17) (st := [.int x0, .ref 1]) (rest := []) (b := 1) (vs := [.int x0]) (h := (mz_S0, m)) rfl rfl (Nat.le_of_ble_eq_true rfl) (Nat.le_of_ble_eq_true rfl) tg_1 (by decide)) (mz_dc_lt (n := 2) rfl (by decide +kernel) (by decide +kernel)) (by decide +kernel) (Or.inr (by decide +kernel)) (fun v19 m18 => ?_)
    refine q_if (c := .eq) (off := 17) (t := 27) (x := v19) (y := 0) (st := []) (mz_fe (e := (10, .ifCond .eq 17, 3, (0, 0, 0), [])) (by decide +kernel)) (fun _ => rfl) rfl rfl rfl (fun c21 => ?_) (fun c21 => ?_)
    · refine q_ic (v := (-1)) (mz_fe (e := (27, .iconst (-1), 1, (0, 0, 0), [])) (by decide +kernel)) (by decide) ?_
      exact q_retI (mz_fe (e := (28, .ireturn, 1, (0, 0, 0), [])) (by decide +kernel)) (by decide +kernel)
    · refine q_o (mz_fe (e := (13, .iload_n 2, 1, (0, 0, 0), [])) (by decide +kernel)) (pc2 := 14) rfl ?_
      refine q_callI (N := 167) (vs := [.int x1]) (rest := []) (L' := [some (.ref 1), some (.int x0), some (.int x1), some (.int x2)]) (f := fun v23 m22 => if v23 = 0 then (some ((-1), m22)) else ((R_X11_areDays d x2 m22).bind (fun u28 => if ¬ u28.1 = 0 then ((R_X11_lookAhead d x2 (mz_rd u28.2 4 8) u28.2).bind (fun m30 => if ¬ x0 = (-1) then ((R_X6_amount d 33 x0 x1 m30).bind (fun u36 => some (u36.1, u36.2))) else (mz_g (mz_ok x1 4) (some ((mz_rd m30 35 (x1 : Int32).toNatClampNeg), m30))))) else (some ((-1), u28.2))))) rfl (mz_fe (e := (14, .invokestatic 132, 116, (167, 1, 1000), [])) (by decide +kernel)) rfl (mz_inv_stat (N := 167) (k := 1) (st := [.int x1]) (rest := []) (vs := [.int x1]) (h := (mz_S0, m18)) rfl rfl (Nat.le_of_ble_eq_true rfl) (Nat.le_of_ble_eq_true rfl)) (mz_dc_lt (n := 1) rfl (by decide +kernel) (by decide +kernel)) (by decide +kernel) (Or.inr (by decide +kernel)) (fun v23 m22 => ?_)
      refine q_if (c := .eq) (off := 10) (t := 27) (x := v23) (y := 0) (st := []) (mz_fe (e := (17, .ifCond .eq 10, 3, (0, 0, 0), [])) (by decide +kernel)) (fun _ => rfl) rfl rfl rfl (fun c25 => ?_) (fun c25 => ?_)
      · refine q_ic (v := (-1)) (mz_fe (e := (27, .iconst (-1), 1, (0, 0, 0), [])) (by decide +kernel)) (by decide) ?_
        exact q_retI (mz_fe (e := (28, .ireturn, 1, (0, 0, 0), [])) (by decide +kernel)) (by decide +kernel)
      · refine q_o (mz_fe (e := (20, .iload_n 3, 1, (0, 0, 0), [])) (by decide +kernel)) (pc2 := 21) rfl ?_
        refine q_callI (N := 169) (vs := [.int x2]) (rest := []) (L' := [some (.ref 1), some (.int x0), some (.int x1), some (.int x2)]) (f := fun v27 m26 => if ¬ v27 = 0 then ((R_X11_lookAhead d x2 (mz_rd m26 4 8) m26).bind (fun m30 => if ¬ x0 = (-1) then ((R_X6_amount d 33 x0 x1 m30).bind (fun u36 => some (u36.1, u36.2))) else (mz_g (mz_ok x1 4) (some ((mz_rd m30 35 (x1 : Int32).toNatClampNeg), m30))))) else (some ((-1), m26))) rfl (mz_fe (e := (21, .invokestatic 242, 138, (169, 1, 1000), [])) (by decide +kernel)) rfl (mz_inv_stat (N := 169) (k := 1) (st := [.int x2]) (rest := []) (vs := [.int x2]) (h := (mz_S0, m22)) rfl rfl (Nat.le_of_ble_eq_true rfl) (Nat.le_of_ble_eq_true rfl)) (mz_dc_lt (n := 1) rfl (by decide +kernel) (by decide +kernel)) (by decide +kernel) (Or.inr (by decide +kernel)) (fun v27 m26 => ?_)
        refine q_if (c := .ne) (off := 5) (t := 29) (x := v27) (y := 0) (st := []) (mz_fe (e := (24, .ifCond .ne 5, 3, (0, 0, 0), [])) (by decide +kernel)) (fun _ => rfl) rfl rfl rfl (fun c29 => ?_) (fun c29 => ?_)
        · refine q_o (mz_fe (e := (29, .aload_n 0, 1, (0, 0, 0), [])) (by decide +kernel)) (pc2 := 30) rfl ?_
          refine q_o (mz_fe (e := (30, .iload_n 3, 1, (0, 0, 0), [])) (by decide +kernel)) (pc2 := 31) rfl ?_
          refine q_o (mz_fe (e := (31, .aload_n 0, 1, (0, 0, 0), [])) (by decide +kernel)) (pc2 := 32) rfl ?_
          refine q_getR (b := 4) (mz_fe (e := (32, .getfield 19, 91, (11, 1, 2), [])) (by decide +kernel)) rfl tg_1 (by rw [ln_1]; decide) (mz_rfS (by decide +kernel)) ?_
          refine q_getI (mz_fe (e := (35, .getfield 210, 116, (8, 8, 0), [])) (by decide +kernel)) rfl (by decide) tg_4 (by rw [ln_4]; decide) ?_
          refine q_callV (N := 160) (vs := [.ref 1, .int x2, .int (mz_rd m26 4 8)]) (rest := []) (L' := [some (.ref 1), some (.int x0), some (.int x1), some (.int x2)]) rfl (mz_fe (e := (38, .invokevirtual 321, 160, (160, 3, 17), [])) (by decide +kernel)) rfl (mz_inv_virt (N := 160) (k := 3) (t := 17) (st := [.int (mz_rd m26 4 8), .int x2, .ref 1]) (rest := []) (b := 1) (vs := [.int x2, .int (mz_rd m26 4 8)]) (h := (mz_S0, m26)) rfl rfl (Nat.le_of_ble_eq_true rfl) (Nat.le_of_ble_eq_true rfl) tg_1 (by decide)) (mz_dc_lt (n := 3) rfl (by decide +kernel) (by decide +kernel)) (by decide +kernel) (by decide +kernel) (fun m30 => ?_)
          refine q_o (mz_fe (e := (41, .iload_n 1, 1, (0, 0, 0), [])) (by decide +kernel)) (pc2 := 42) rfl ?_
          refine q_ic (v := (-1)) (mz_fe (e := (42, .iconst (-1), 1, (0, 0, 0), [])) (by decide +kernel)) (by decide) ?_
          refine q_if (c := .ne) (off := 15) (t := 58) (x := x0) (y := (-1)) (st := []) (mz_fe (e := (43, .if_icmp .ne 15, 3, (0, 0, 0), [])) (by decide +kernel)) (fun _ => rfl) rfl rfl rfl (fun c33 => ?_) (fun c33 => ?_)
          · refine q_o (mz_fe (e := (58, .aload_n 0, 1, (0, 0, 0), [])) (by decide +kernel)) (pc2 := 59) rfl ?_
            refine q_getR (b := 33) (mz_fe (e := (59, .getfield 51, 96, (11, 6, 2), [])) (by decide +kernel)) rfl tg_1 (by rw [ln_1]; decide) (mz_rfS (by decide +kernel)) ?_
            refine q_o (mz_fe (e := (62, .iload_n 1, 1, (0, 0, 0), [])) (by decide +kernel)) (pc2 := 63) rfl ?_
            refine q_o (mz_fe (e := (63, .iload_n 2, 1, (0, 0, 0), [])) (by decide +kernel)) (pc2 := 64) rfl ?_
            refine q_callI (N := 72) (vs := [.ref 33, .int x0, .int x1]) (rest := []) (L' := [some (.ref 1), some (.int x0), some (.int x1), some (.int x2)]) (f := fun v35 m34 => some (v35, m34)) rfl (mz_fe (e := (64, .invokevirtual 135, 117, (72, 3, 12), [])) (by decide +kernel)) rfl (mz_inv_virt (N := 72) (k := 3) (t := 12) (st := [.int x1, .int x0, .ref 33]) (rest := []) (b := 33) (vs := [.int x0, .int x1]) (h := (mz_S0, m30)) rfl rfl (Nat.le_of_ble_eq_true rfl) (Nat.le_of_ble_eq_true rfl) (st_t (by decide : mz_isS 33 = true)) (by decide)) (mz_dc_lt (n := 3) rfl (by decide +kernel) (by decide +kernel)) (by decide +kernel) (Or.inl (by decide +kernel)) (fun v35 m34 => ?_)
            exact q_retI (mz_fe (e := (67, .ireturn, 1, (0, 0, 0), [])) (by decide +kernel)) (by decide +kernel)
          · refine q_o (mz_fe (e := (46, .aload_n 0, 1, (0, 0, 0), [])) (by decide +kernel)) (pc2 := 47) rfl ?_
            refine q_getR (b := 33) (mz_fe (e := (47, .getfield 51, 96, (11, 6, 2), [])) (by decide +kernel)) rfl tg_1 (by rw [ln_1]; decide) (mz_rfS (by decide +kernel)) ?_
            refine q_getR (b := 35) (mz_fe (e := (50, .getfield 151, 106, (6, 1, 2), [])) (by decide +kernel)) rfl (st_t (by decide : mz_isS 33 = true)) (by rw [(st_l (by decide : mz_isS 33 = true))]; decide) (mz_rfS (by decide +kernel)) ?_
            refine q_o (mz_fe (e := (53, .iload_n 2, 1, (0, 0, 0), [])) (by decide +kernel)) (pc2 := 54) rfl ?_
            refine q_ialdg rfl (mz_fe (e := (54, .iaload, 1, (0, 0, 0), [])) (by decide +kernel)) rfl (by decide) (st_wt (by decide : mz_isS 33 = true)) (st_wl (by decide : mz_isS 33 = true)) (fun g37 => ?_)
            refine q_o (mz_fe (e := (55, .goto 12, 3, (0, 0, 0), [])) (by decide +kernel)) (pc2 := 67) rfl ?_
            exact q_retI (mz_fe (e := (67, .ireturn, 1, (0, 0, 0), [])) (by decide +kernel)) (by decide +kernel)
        · refine q_ic (v := (-1)) (mz_fe (e := (27, .iconst (-1), 1, (0, 0, 0), [])) (by decide +kernel)) (by decide) ?_
          exact q_retI (mz_fe (e := (28, .ireturn, 1, (0, 0, 0), [])) (by decide +kernel)) (by decide +kernel)
set_option maxRecDepth 10000 in
theorem R_X11_foesIn_eq (d : Nat) (x0 : Int32) (x1 : Int32) (m : MzM)  : R_X11_foesIn d x0 x1 m = (R_X11_isPerson d x0 m).bind (fun u3 => if u3.1 = 0 then (some ((-1), u3.2)) else ((R_X11_areDays d x1 u3.2).bind (fun u7 => if ¬ u7.1 = 0 then ((R_X11_lookAhead d x1 (mz_rd u7.2 4 8) u7.2).bind (fun m9 => (R_X3_foesOf d 33 x0 m9).bind (fun u14 => some (u14.1, u14.2)))) else (some ((-1), u7.2))))) := by
  show mz_cI (mz_T d 157 0 (mz_en (mz_xl 157) [.ref 1, .int x0, .int x1]) [] m) = _
  rw [show mz_en (mz_xl 157) [.ref 1, .int x0, .int x1] = [some (.ref 1), some (.int x0), some (.int x1)] from by rw [show mz_xl 157 = 3 from by decide +kernel]; rfl]
  refine q_o (mz_fe (e := (0, .aload_n 0, 1, (0, 0, 0), [])) (by decide +kernel)) (pc2 := 1) rfl ?_
  refine q_o (mz_fe (e := (1, .iload_n 1, 1, (0, 0, 0), [])) (by decide +kernel)) (pc2 := 2) rfl ?_
  refine q_callI (N := 165) (vs := [.ref 1, .int x0]) (rest := []) (L' := [some (.ref 1), some (.int x0), some (.int x1)]) (f := fun v2 m1 => if v2 = 0 then (some ((-1), m1)) else ((R_X11_areDays d x1 m1).bind (fun u7 => if ¬ u7.1 = 0 then ((R_X11_lookAhead d x1 (mz_rd u7.2 4 8) u7.2).bind (fun m9 => (R_X3_foesOf d 33 x0 m9).bind (fun u14 => some (u14.1, u14.2)))) else (some ((-1), u7.2))))) rfl (mz_fe (e := (2, .invokevirtual 129, 115, (165, 2, 17), [])) (by decide +kernel)) rfl (mz_inv_virt (N := 165) (k := 2) (t := 17) (st := [.int x0, .ref 1]) (rest := []) (b := 1) (vs := [.int x0]) (h := (mz_S0, m)) rfl rfl (Nat.le_of_ble_eq_true rfl) (Nat.le_of_ble_eq_true rfl) tg_1 (by decide)) (mz_dc_lt (n := 2) rfl (by decide +kernel) (by decide +kernel)) (by decide +kernel) (Or.inr (by decide +kernel)) (fun v2 m1 => ?_)
  refine q_if (c := .eq) (off := 10) (t := 15) (x := v2) (y := 0) (st := []) (mz_fe (e := (5, .ifCond .eq 10, 3, (0, 0, 0), [])) (by decide +kernel)) (fun _ => rfl) rfl rfl rfl (fun c4 => ?_) (fun c4 => ?_)
  · refine q_ic (v := (-1)) (mz_fe (e := (15, .iconst (-1), 1, (0, 0, 0), [])) (by decide +kernel)) (by decide) ?_
    exact q_retI (mz_fe (e := (16, .ireturn, 1, (0, 0, 0), [])) (by decide +kernel)) (by decide +kernel)
  · refine q_o (mz_fe (e := (8, .iload_n 2, 1, (0, 0, 0), [])) (by decide +kernel)) (pc2 := 9) rfl ?_
    refine q_callI (N := 169) (vs := [.int x1]) (rest := []) (L' := [some (.ref 1), some (.int x0), some (.int x1)]) (f := fun v6 m5 => if ¬ v6 = 0 then ((R_X11_lookAhead d x1 (mz_rd m5 4 8) m5).bind (fun m9 => (R_X3_foesOf d 33 x0 m9).bind (fun u14 => some (u14.1, u14.2)))) else (some ((-1), m5))) rfl (mz_fe (e := (9, .invokestatic 242, 138, (169, 1, 1000), [])) (by decide +kernel)) rfl (mz_inv_stat (N := 169) (k := 1) (st := [.int x1]) (rest := []) (vs := [.int x1]) (h := (mz_S0, m1)) rfl rfl (Nat.le_of_ble_eq_true rfl) (Nat.le_of_ble_eq_true rfl)) (mz_dc_lt (n := 1) rfl (by decide +kernel) (by decide +kernel)) (by decide +kernel) (Or.inr (by decide +kernel)) (fun v6 m5 => ?_)
    refine q_if (c := .ne) (off := 5) (t := 17) (x := v6) (y := 0) (st := []) (mz_fe (e := (12, .ifCond .ne 5, 3, (0, 0, 0), [])) (by decide +kernel)) (fun _ => rfl) rfl rfl rfl (fun c8 => ?_) (fun c8 => ?_)
    · refine q_o (mz_fe (e := (17, .aload_n 0, 1, (0, 0, 0), [])) (by decide +kernel)) (pc2 := 18) rfl ?_
      refine q_o (mz_fe (e := (18, .iload_n 2, 1, (0, 0, 0), [])) (by decide +kernel)) (pc2 := 19) rfl ?_
      refine q_o (mz_fe (e := (19, .aload_n 0, 1, (0, 0, 0), [])) (by decide +kernel)) (pc2 := 20) rfl ?_
      refine q_getR (b := 4) (mz_fe (e := (20, .getfield 19, 91, (11, 1, 2), [])) (by decide +kernel)) rfl tg_1 (by rw [ln_1]; decide) (mz_rfS (by decide +kernel)) ?_
      refine q_getI (mz_fe (e := (23, .getfield 210, 116, (8, 8, 0), [])) (by decide +kernel)) rfl (by decide) tg_4 (by rw [ln_4]; decide) ?_
      refine q_callV (N := 160) (vs := [.ref 1, .int x1, .int (mz_rd m5 4 8)]) (rest := []) (L' := [some (.ref 1), some (.int x0), some (.int x1)]) rfl (mz_fe (e := (26, .invokevirtual 321, 160, (160, 3, 17), [])) (by decide +kernel)) rfl (mz_inv_virt (N := 160) (k := 3) (t := 17) (st := [.int (mz_rd m5 4 8), .int x1, .ref 1]) (rest := []) (b := 1) (vs := [.int x1, .int (mz_rd m5 4 8)]) (h := (mz_S0, m5)) rfl rfl (Nat.le_of_ble_eq_true rfl) (Nat.le_of_ble_eq_true rfl) tg_1 (by decide)) (mz_dc_lt (n := 3) rfl (by decide +kernel) (by decide +kernel)) (by decide +kernel) (by decide +kernel) (fun m9 => ?_)
      refine q_o (mz_fe (e := (29, .aload_n 0, 1, (0, 0, 0), [])) (by decide +kernel)) (pc2 := 30) rfl ?_
      refine q_getR (b := 27) (mz_fe (e := (30, .getfield 40, 94, (11, 4, 2), [])) (by decide +kernel)) rfl tg_1 (by rw [ln_1]; decide) (mz_rfS (by decide +kernel)) ?_
      refine q_o (mz_fe (e := (33, .aload_n 0, 1, (0, 0, 0), [])) (by decide +kernel)) (pc2 := 34) rfl ?_
      refine q_getR (b := 33) (mz_fe (e := (34, .getfield 51, 96, (11, 6, 2), [])) (by decide +kernel)) rfl tg_1 (by rw [ln_1]; decide) (mz_rfS (by decide +kernel)) ?_
      refine q_o (mz_fe (e := (37, .iload_n 1, 1, (0, 0, 0), [])) (by decide +kernel)) (pc2 := 38) rfl ?_
      refine q_callI (N := 40) (vs := [.ref 27, .ref 33, .int x0]) (rest := []) (L' := [some (.ref 1), some (.int x0), some (.int x1)]) (f := fun v13 m12 => some (v13, m12)) rfl (mz_fe (e := (38, .invokevirtual 143, 119, (40, 3, 9), [])) (by decide +kernel)) rfl (mz_inv_virt (N := 40) (k := 3) (t := 9) (st := [.int x0, .ref 33, .ref 27]) (rest := []) (b := 27) (vs := [.ref 33, .int x0]) (h := (mz_S0, m9)) rfl rfl (Nat.le_of_ble_eq_true rfl) (Nat.le_of_ble_eq_true rfl) tg_27 (by decide)) (mz_dc_lt (n := 3) rfl (by decide +kernel) (by decide +kernel)) (by decide +kernel) (Or.inl (by decide +kernel)) (fun v13 m12 => ?_)
      exact q_retI (mz_fe (e := (41, .ireturn, 1, (0, 0, 0), [])) (by decide +kernel)) (by decide +kernel)
    · refine q_ic (v := (-1)) (mz_fe (e := (15, .iconst (-1), 1, (0, 0, 0), [])) (by decide +kernel)) (by decide) ?_
      exact q_retI (mz_fe (e := (16, .ireturn, 1, (0, 0, 0), [])) (by decide +kernel)) (by decide +kernel)
set_option maxRecDepth 10000 in
theorem R_X11_turnsIn_eq (d : Nat) (x0 : Int32) (m : MzM)  : R_X11_turnsIn d x0 m = (R_X11_areDays d x0 m).bind (fun u3 => if ¬ u3.1 = 0 then ((R_X11_lookAhead d x0 (mz_rd u3.2 4 8) u3.2).bind (fun m5 => some ((mz_rd m5 33 4), m5))) else (some ((-1), u3.2))) := by
  show mz_cI (mz_T d 158 0 (mz_en (mz_xl 158) [.ref 1, .int x0]) [] m) = _
  rw [show mz_en (mz_xl 158) [.ref 1, .int x0] = [some (.ref 1), some (.int x0)] from by rw [show mz_xl 158 = 2 from by decide +kernel]; rfl]
  refine q_o (mz_fe (e := (0, .iload_n 1, 1, (0, 0, 0), [])) (by decide +kernel)) (pc2 := 1) rfl ?_
  refine q_callI (N := 169) (vs := [.int x0]) (rest := []) (L' := [some (.ref 1), some (.int x0)]) (f := fun v2 m1 => if ¬ v2 = 0 then ((R_X11_lookAhead d x0 (mz_rd m1 4 8) m1).bind (fun m5 => some ((mz_rd m5 33 4), m5))) else (some ((-1), m1))) rfl (mz_fe (e := (1, .invokestatic 242, 138, (169, 1, 1000), [])) (by decide +kernel)) rfl (mz_inv_stat (N := 169) (k := 1) (st := [.int x0]) (rest := []) (vs := [.int x0]) (h := (mz_S0, m)) rfl rfl (Nat.le_of_ble_eq_true rfl) (Nat.le_of_ble_eq_true rfl)) (mz_dc_lt (n := 1) rfl (by decide +kernel) (by decide +kernel)) (by decide +kernel) (Or.inr (by decide +kernel)) (fun v2 m1 => ?_)
  refine q_if (c := .ne) (off := 5) (t := 9) (x := v2) (y := 0) (st := []) (mz_fe (e := (4, .ifCond .ne 5, 3, (0, 0, 0), [])) (by decide +kernel)) (fun _ => rfl) rfl rfl rfl (fun c4 => ?_) (fun c4 => ?_)
  · refine q_o (mz_fe (e := (9, .aload_n 0, 1, (0, 0, 0), [])) (by decide +kernel)) (pc2 := 10) rfl ?_
    refine q_o (mz_fe (e := (10, .iload_n 1, 1, (0, 0, 0), [])) (by decide +kernel)) (pc2 := 11) rfl ?_
    refine q_o (mz_fe (e := (11, .aload_n 0, 1, (0, 0, 0), [])) (by decide +kernel)) (pc2 := 12) rfl ?_
    refine q_getR (b := 4) (mz_fe (e := (12, .getfield 19, 91, (11, 1, 2), [])) (by decide +kernel)) rfl tg_1 (by rw [ln_1]; decide) (mz_rfS (by decide +kernel)) ?_
    refine q_getI (mz_fe (e := (15, .getfield 210, 116, (8, 8, 0), [])) (by decide +kernel)) rfl (by decide) tg_4 (by rw [ln_4]; decide) ?_
    refine q_callV (N := 160) (vs := [.ref 1, .int x0, .int (mz_rd m1 4 8)]) (rest := []) (L' := [some (.ref 1), some (.int x0)]) rfl (mz_fe (e := (18, .invokevirtual 321, 160, (160, 3, 17), [])) (by decide +kernel)) rfl (mz_inv_virt (N := 160) (k := 3) (t := 17) (st := [.int (mz_rd m1 4 8), .int x0, .ref 1]) (rest := []) (b := 1) (vs := [.int x0, .int (mz_rd m1 4 8)]) (h := (mz_S0, m1)) rfl rfl (Nat.le_of_ble_eq_true rfl) (Nat.le_of_ble_eq_true rfl) tg_1 (by decide)) (mz_dc_lt (n := 3) rfl (by decide +kernel) (by decide +kernel)) (by decide +kernel) (by decide +kernel) (fun m5 => ?_)
    refine q_o (mz_fe (e := (21, .aload_n 0, 1, (0, 0, 0), [])) (by decide +kernel)) (pc2 := 22) rfl ?_
    refine q_getR (b := 33) (mz_fe (e := (22, .getfield 51, 96, (11, 6, 2), [])) (by decide +kernel)) rfl tg_1 (by rw [ln_1]; decide) (mz_rfS (by decide +kernel)) ?_
    refine q_getI (mz_fe (e := (25, .getfield 190, 110, (6, 4, 0), [])) (by decide +kernel)) rfl (by decide) (st_t (by decide : mz_isS 33 = true)) (by rw [(st_l (by decide : mz_isS 33 = true))]; decide) ?_
    exact q_retI (mz_fe (e := (28, .ireturn, 1, (0, 0, 0), [])) (by decide +kernel)) (by decide +kernel)
  · refine q_ic (v := (-1)) (mz_fe (e := (7, .iconst (-1), 1, (0, 0, 0), [])) (by decide +kernel)) (by decide) ?_
    exact q_retI (mz_fe (e := (8, .ireturn, 1, (0, 0, 0), [])) (by decide +kernel)) (by decide +kernel)
set_option maxRecDepth 10000 in
theorem R_X11_year_eq (d : Nat) (x0 : Int32) (x1 : Int32) (x2 : Int32) (x3 : Int32) (m : MzM)  : R_X11_year d x0 x1 x2 x3 m = (R_X11_areTwo d x0 x1 m).bind (fun u3 => if u3.1 = 0 then (some ((-1), u3.2)) else ((R_X11_areDays d x2 u3.2).bind (fun u7 => if u7.1 = 0 then (some ((-1), u7.2)) else (if x3 < 1 then (some ((-1), u7.2)) else (if x3 ≤ 20 then (H_X11_year_37 d x0 x1 x2 x3 0 0 u7.2) else (some ((-1), u7.2))))))) := by
  show mz_cI (mz_T d 159 0 (mz_en (mz_xl 159) [.ref 1, .int x0, .int x1, .int x2, .int x3]) [] m) = _
  rw [show mz_en (mz_xl 159) [.ref 1, .int x0, .int x1, .int x2, .int x3] = [some (.ref 1), some (.int x0), some (.int x1), some (.int x2), some (.int x3), none, none] from by rw [show mz_xl 159 = 7 from by decide +kernel]; rfl]
  refine q_o (mz_fe (e := (0, .aload_n 0, 1, (0, 0, 0), [])) (by decide +kernel)) (pc2 := 1) rfl ?_
  refine q_o (mz_fe (e := (1, .iload_n 1, 1, (0, 0, 0), [])) (by decide +kernel)) (pc2 := 2) rfl ?_
  refine q_o (mz_fe (e := (2, .iload_n 2, 1, (0, 0, 0), [])) (by decide +kernel)) (pc2 := 3) rfl ?_
  refine q_callI (N := 166) (vs := [.ref 1, .int x0, .int x1]) (rest := []) (L' := [some (.ref 1), some (.int x0), some (.int x1), some (.int x2), some (.int x3), none, none]) (f := fun v2 m1 => if v2 = 0 then (some ((-1), m1)) else ((R_X11_areDays d x2 m1).bind (fun u7 => if u7.1 = 0 then (some ((-1), u7.2)) else (if x3 < 1 then (some ((-1), u7.2)) else (if x3 ≤ 20 then (H_X11_year_37 d x0 x1 x2 x3 0 0 u7.2) else (some ((-1), u7.2))))))) rfl (mz_fe (e := (3, .invokevirtual 167, 122, (166, 3, 17), [])) (by decide +kernel)) rfl (mz_inv_virt (N := 166) (k := 3) (t := 17) (st := [.int x1, .int x0, .ref 1]) (rest := []) (b := 1) (vs := [.int x0, .int x1]) (h := (mz_S0, m)) rfl rfl (Nat.le_of_ble_eq_true rfl) (Nat.le_of_ble_eq_true rfl) tg_1 (by decide)) (mz_dc_lt (n := 3) rfl (by decide +kernel) (by decide +kernel)) (by decide +kernel) (Or.inr (by decide +kernel)) (fun v2 m1 => ?_)
  refine q_if (c := .eq) (off := 23) (t := 29) (x := v2) (y := 0) (st := []) (mz_fe (e := (6, .ifCond .eq 23, 3, (0, 0, 0), [])) (by decide +kernel)) (fun _ => rfl) rfl rfl rfl (fun c4 => ?_) (fun c4 => ?_)
  · refine q_ic (v := (-1)) (mz_fe (e := (29, .iconst (-1), 1, (0, 0, 0), [])) (by decide +kernel)) (by decide) ?_
    exact q_retI (mz_fe (e := (30, .ireturn, 1, (0, 0, 0), [])) (by decide +kernel)) (by decide +kernel)
  · refine q_o (mz_fe (e := (9, .iload_n 3, 1, (0, 0, 0), [])) (by decide +kernel)) (pc2 := 10) rfl ?_
    refine q_callI (N := 169) (vs := [.int x2]) (rest := []) (L' := [some (.ref 1), some (.int x0), some (.int x1), some (.int x2), some (.int x3), none, none]) (f := fun v6 m5 => if v6 = 0 then (some ((-1), m5)) else (if x3 < 1 then (some ((-1), m5)) else (if x3 ≤ 20 then (H_X11_year_37 d x0 x1 x2 x3 0 0 m5) else (some ((-1), m5))))) rfl (mz_fe (e := (10, .invokestatic 242, 138, (169, 1, 1000), [])) (by decide +kernel)) rfl (mz_inv_stat (N := 169) (k := 1) (st := [.int x2]) (rest := []) (vs := [.int x2]) (h := (mz_S0, m1)) rfl rfl (Nat.le_of_ble_eq_true rfl) (Nat.le_of_ble_eq_true rfl)) (mz_dc_lt (n := 1) rfl (by decide +kernel) (by decide +kernel)) (by decide +kernel) (Or.inr (by decide +kernel)) (fun v6 m5 => ?_)
    refine q_if (c := .eq) (off := 16) (t := 29) (x := v6) (y := 0) (st := []) (mz_fe (e := (13, .ifCond .eq 16, 3, (0, 0, 0), [])) (by decide +kernel)) (fun _ => rfl) rfl rfl rfl (fun c8 => ?_) (fun c8 => ?_)
    · refine q_ic (v := (-1)) (mz_fe (e := (29, .iconst (-1), 1, (0, 0, 0), [])) (by decide +kernel)) (by decide) ?_
      exact q_retI (mz_fe (e := (30, .ireturn, 1, (0, 0, 0), [])) (by decide +kernel)) (by decide +kernel)
    · refine q_o (mz_fe (e := (16, .iload 4, 2, (0, 0, 0), [])) (by decide +kernel)) (pc2 := 18) rfl ?_
      refine q_ic (v := 1) (mz_fe (e := (18, .iconst 1, 1, (0, 0, 0), [])) (by decide +kernel)) (by decide) ?_
      refine q_if (c := .lt) (off := 10) (t := 29) (x := x3) (y := 1) (st := []) (mz_fe (e := (19, .if_icmp .lt 10, 3, (0, 0, 0), [])) (by decide +kernel)) (fun _ => rfl) rfl rfl rfl (fun c9 => ?_) (fun c9 => ?_)
      · refine q_ic (v := (-1)) (mz_fe (e := (29, .iconst (-1), 1, (0, 0, 0), [])) (by decide +kernel)) (by decide) ?_
        exact q_retI (mz_fe (e := (30, .ireturn, 1, (0, 0, 0), [])) (by decide +kernel)) (by decide +kernel)
      · refine q_o (mz_fe (e := (22, .iload 4, 2, (0, 0, 0), [])) (by decide +kernel)) (pc2 := 24) rfl ?_
        refine q_bi (v := 20) (mz_fe (e := (24, .bipush 20, 2, (0, 0, 0), [])) (by decide +kernel)) (by decide) ?_
        refine q_if (c := .le) (off := 5) (t := 31) (x := x3) (y := 20) (st := []) (mz_fe (e := (26, .if_icmp .le 5, 3, (0, 0, 0), [])) (by decide +kernel)) (fun _ => rfl) rfl rfl rfl (fun c10 => ?_) (fun c10 => ?_)
        · refine q_ic (v := 0) (mz_fe (e := (31, .iconst 0, 1, (0, 0, 0), [])) (by decide +kernel)) (by decide) ?_
          refine q_s (mz_fe (e := (32, .istore 5, 2, (0, 0, 0), [])) (by decide +kernel)) (pc' := 34) (L' := [some (.ref 1), some (.int x0), some (.int x1), some (.int x2), some (.int x3), some (.int 0), none]) (st' := []) rfl ?_
          refine q_ic (v := 0) (mz_fe (e := (34, .iconst 0, 1, (0, 0, 0), [])) (by decide +kernel)) (by decide) ?_
          refine q_s (mz_fe (e := (35, .istore 6, 2, (0, 0, 0), [])) (by decide +kernel)) (pc' := 37) (L' := [some (.ref 1), some (.int x0), some (.int x1), some (.int x2), some (.int x3), some (.int 0), some (.int 0)]) (st' := []) rfl ?_
          exact congrArg mz_cI (mz_At_msk (L := [some (.ref 1), some (.int x0), some (.int x1), some (.int x2), some (.int x3), some (.int 0), some (.int 0)]) (L2 := [some (.ref 1), some (.int x0), some (.int x1), some (.int x2), some (.int x3), some (.int 0), some (.int 0)]) (mz_fe (e := (37, .iload 6, 2, (0, 0, 0), [true, true, true, true, true, true, true])) (by decide +kernel)) rfl rfl)
        · refine q_ic (v := (-1)) (mz_fe (e := (29, .iconst (-1), 1, (0, 0, 0), [])) (by decide +kernel)) (by decide) ?_
          exact q_retI (mz_fe (e := (30, .ireturn, 1, (0, 0, 0), [])) (by decide +kernel)) (by decide +kernel)
set_option maxRecDepth 10000 in
theorem H_X11_year_37_eq (d : Nat) (y1 : Int32) (y2 : Int32) (y3 : Int32) (y4 : Int32) (y5 : Int32) (y6 : Int32) (m : MzM)  : H_X11_year_37 d y1 y2 y3 y4 y5 y6 m = if y4 ≤ y6 then (some (y5, m)) else ((R_X11_lookAhead d y3 ((mz_rd m 4 8) + y6) m).bind (fun m12 => (R_X3_quarrel d 33 y1 y2 m12).bind (fun u17 => if u17.1 = 0 then (H_X11_year_37 d y1 y2 y3 y4 (y5 + 0) (y6 + 1) u17.2) else (H_X11_year_37 d y1 y2 y3 y4 (y5 + 1) (y6 + 1) u17.2)))) := by
  show mz_cI (mz_T d 159 37 [some (.ref 1), some (.int y1), some (.int y2), some (.int y3), some (.int y4), some (.int y5), some (.int y6)] [] m) = _
  refine q_s (mz_fe (e := (37, .iload 6, 2, (0, 0, 0), [true, true, true, true, true, true, true])) (by decide +kernel)) (pc' := 39) (L' := [some (.ref 1), some (.int y1), some (.int y2), some (.int y3), some (.int y4), some (.int y5), some (.int y6)]) (st' := [.int y6]) rfl ?_
  refine q_o (mz_fe (e := (39, .iload 4, 2, (0, 0, 0), [])) (by decide +kernel)) (pc2 := 41) rfl ?_
  refine q_if (c := .ge) (off := 50) (t := 91) (x := y6) (y := y4) (st := []) (mz_fe (e := (41, .if_icmp .ge 50, 3, (0, 0, 0), [])) (by decide +kernel)) (fun _ => rfl) rfl rfl rfl (fun c11 => ?_) (fun c11 => ?_)
  · refine q_o (mz_fe (e := (91, .iload 5, 2, (0, 0, 0), [])) (by decide +kernel)) (pc2 := 93) rfl ?_
    exact q_retI (mz_fe (e := (93, .ireturn, 1, (0, 0, 0), [])) (by decide +kernel)) (by decide +kernel)
  · refine q_o (mz_fe (e := (44, .aload_n 0, 1, (0, 0, 0), [])) (by decide +kernel)) (pc2 := 45) rfl ?_
    refine q_o (mz_fe (e := (45, .iload_n 3, 1, (0, 0, 0), [])) (by decide +kernel)) (pc2 := 46) rfl ?_
    refine q_o (mz_fe (e := (46, .aload_n 0, 1, (0, 0, 0), [])) (by decide +kernel)) (pc2 := 47) rfl ?_
    refine q_getR (b := 4) (mz_fe (e := (47, .getfield 19, 91, (11, 1, 2), [])) (by decide +kernel)) rfl tg_1 (by rw [ln_1]; decide) (mz_rfS (by decide +kernel)) ?_
    refine q_getI (mz_fe (e := (50, .getfield 210, 116, (8, 8, 0), [])) (by decide +kernel)) rfl (by decide) tg_4 (by rw [ln_4]; decide) ?_
    refine q_o (mz_fe (e := (53, .iload 6, 2, (0, 0, 0), [])) (by decide +kernel)) (pc2 := 55) rfl ?_
    refine q_o (mz_fe (e := (55, .iadd, 1, (0, 0, 0), [])) (by decide +kernel)) (pc2 := 56) rfl ?_
    refine q_callV (N := 160) (vs := [.ref 1, .int y3, .int ((mz_rd m 4 8) + y6)]) (rest := []) (L' := [some (.ref 1), some (.int y1), some (.int y2), some (.int y3), some (.int y4), some (.int y5), some (.int y6)]) rfl (mz_fe (e := (56, .invokevirtual 321, 160, (160, 3, 17), [])) (by decide +kernel)) rfl (mz_inv_virt (N := 160) (k := 3) (t := 17) (st := [.int ((mz_rd m 4 8) + y6), .int y3, .ref 1]) (rest := []) (b := 1) (vs := [.int y3, .int ((mz_rd m 4 8) + y6)]) (h := (mz_S0, m)) rfl rfl (Nat.le_of_ble_eq_true rfl) (Nat.le_of_ble_eq_true rfl) tg_1 (by decide)) (mz_dc_lt (n := 3) rfl (by decide +kernel) (by decide +kernel)) (by decide +kernel) (by decide +kernel) (fun m12 => ?_)
    refine q_o (mz_fe (e := (59, .iload 5, 2, (0, 0, 0), [])) (by decide +kernel)) (pc2 := 61) rfl ?_
    refine q_o (mz_fe (e := (61, .aload_n 0, 1, (0, 0, 0), [])) (by decide +kernel)) (pc2 := 62) rfl ?_
    refine q_getR (b := 27) (mz_fe (e := (62, .getfield 40, 94, (11, 4, 2), [])) (by decide +kernel)) rfl tg_1 (by rw [ln_1]; decide) (mz_rfS (by decide +kernel)) ?_
    refine q_o (mz_fe (e := (65, .aload_n 0, 1, (0, 0, 0), [])) (by decide +kernel)) (pc2 := 66) rfl ?_
    refine q_getR (b := 33) (mz_fe (e := (66, .getfield 51, 96, (11, 6, 2), [])) (by decide +kernel)) rfl tg_1 (by rw [ln_1]; decide) (mz_rfS (by decide +kernel)) ?_
    refine q_o (mz_fe (e := (69, .iload_n 1, 1, (0, 0, 0), [])) (by decide +kernel)) (pc2 := 70) rfl ?_
    refine q_o (mz_fe (e := (70, .iload_n 2, 1, (0, 0, 0), [])) (by decide +kernel)) (pc2 := 71) rfl ?_
    refine q_callI (N := 28) (vs := [.ref 27, .ref 33, .int y1, .int y2]) (rest := [.int y5]) (L' := [some (.ref 1), some (.int y1), some (.int y2), some (.int y3), some (.int y4), some (.int y5), some (.int y6)]) (f := fun v16 m15 => if v16 = 0 then (H_X11_year_37 d y1 y2 y3 y4 (y5 + 0) (y6 + 1) m15) else (H_X11_year_37 d y1 y2 y3 y4 (y5 + 1) (y6 + 1) m15)) rfl (mz_fe (e := (71, .invokevirtual 174, 124, (28, 4, 9), [])) (by decide +kernel)) rfl (mz_inv_virt (N := 28) (k := 4) (t := 9) (st := [.int y2, .int y1, .ref 33, .ref 27, .int y5]) (rest := [.int y5]) (b := 27) (vs := [.ref 33, .int y1, .int y2]) (h := (mz_S0, m12)) rfl rfl (Nat.le_of_ble_eq_true rfl) (Nat.le_of_ble_eq_true rfl) tg_27 (by decide)) (mz_dc_lt (n := 4) rfl (by decide +kernel) (by decide +kernel)) (by decide +kernel) (Or.inr (by decide +kernel)) (fun v16 m15 => ?_)
    refine q_if (c := .eq) (off := 7) (t := 81) (x := v16) (y := 0) (st := [.int y5]) (mz_fe (e := (74, .ifCond .eq 7, 3, (0, 0, 0), [])) (by decide +kernel)) (fun _ => rfl) rfl rfl rfl (fun c18 => ?_) (fun c18 => ?_)
    · refine q_ic (v := 0) (mz_fe (e := (81, .iconst 0, 1, (0, 0, 0), [])) (by decide +kernel)) (by decide) ?_
      refine q_o (mz_fe (e := (82, .iadd, 1, (0, 0, 0), [])) (by decide +kernel)) (pc2 := 83) rfl ?_
      refine q_s (mz_fe (e := (83, .istore 5, 2, (0, 0, 0), [])) (by decide +kernel)) (pc' := 85) (L' := [some (.ref 1), some (.int y1), some (.int y2), some (.int y3), some (.int y4), some (.int (y5 + 0)), some (.int y6)]) (st' := []) rfl ?_
      refine q_iinc (v := y6) (c := 1) (L3 := [some (.ref 1), some (.int y1), some (.int y2), some (.int y3), some (.int y4), some (.int (y5 + 0)), some (.int (y6 + 1))]) (mz_fe (e := (85, .iinc 6 1, 3, (0, 0, 0), [])) (by decide +kernel)) rfl rfl (by decide) rfl ?_
      refine q_o (mz_fe (e := (88, .goto (-51), 3, (0, 0, 0), [])) (by decide +kernel)) (pc2 := 37) rfl ?_
      exact congrArg mz_cI (mz_At_msk (L := [some (.ref 1), some (.int y1), some (.int y2), some (.int y3), some (.int y4), some (.int (y5 + 0)), some (.int (y6 + 1))]) (L2 := [some (.ref 1), some (.int y1), some (.int y2), some (.int y3), some (.int y4), some (.int (y5 + 0)), some (.int (y6 + 1))]) (mz_fe (e := (37, .iload 6, 2, (0, 0, 0), [true, true, true, true, true, true, true])) (by decide +kernel)) rfl rfl)
    · refine q_ic (v := 1) (mz_fe (e := (77, .iconst 1, 1, (0, 0, 0), [])) (by decide +kernel)) (by decide) ?_
      refine q_o (mz_fe (e := (78, .goto 4, 3, (0, 0, 0), [])) (by decide +kernel)) (pc2 := 82) rfl ?_
      refine q_o (mz_fe (e := (82, .iadd, 1, (0, 0, 0), [])) (by decide +kernel)) (pc2 := 83) rfl ?_
      refine q_s (mz_fe (e := (83, .istore 5, 2, (0, 0, 0), [])) (by decide +kernel)) (pc' := 85) (L' := [some (.ref 1), some (.int y1), some (.int y2), some (.int y3), some (.int y4), some (.int (y5 + 1)), some (.int y6)]) (st' := []) rfl ?_
      refine q_iinc (v := y6) (c := 1) (L3 := [some (.ref 1), some (.int y1), some (.int y2), some (.int y3), some (.int y4), some (.int (y5 + 1)), some (.int (y6 + 1))]) (mz_fe (e := (85, .iinc 6 1, 3, (0, 0, 0), [])) (by decide +kernel)) rfl rfl (by decide) rfl ?_
      refine q_o (mz_fe (e := (88, .goto (-51), 3, (0, 0, 0), [])) (by decide +kernel)) (pc2 := 37) rfl ?_
      exact congrArg mz_cI (mz_At_msk (L := [some (.ref 1), some (.int y1), some (.int y2), some (.int y3), some (.int y4), some (.int (y5 + 1)), some (.int (y6 + 1))]) (L2 := [some (.ref 1), some (.int y1), some (.int y2), some (.int y3), some (.int y4), some (.int (y5 + 1)), some (.int (y6 + 1))]) (mz_fe (e := (37, .iload 6, 2, (0, 0, 0), [true, true, true, true, true, true, true])) (by decide +kernel)) rfl rfl)
set_option maxRecDepth 10000 in
theorem R_X11_lookAhead_eq (d : Nat) (x0 : Int32) (x1 : Int32) (m : MzM)  : R_X11_lookAhead d x0 x1 m = (R_X6_copyFrom d 33 29 m).bind (fun m1 => (R_X3_goDays d 33 x0 x1 m1).bind (fun m4 => some m4)) := by
  show mz_cV (mz_T d 160 0 (mz_en (mz_xl 160) [.ref 1, .int x0, .int x1]) [] m) = _
  rw [show mz_en (mz_xl 160) [.ref 1, .int x0, .int x1] = [some (.ref 1), some (.int x0), some (.int x1)] from by rw [show mz_xl 160 = 3 from by decide +kernel]; rfl]
  refine q_o (mz_fe (e := (0, .aload_n 0, 1, (0, 0, 0), [])) (by decide +kernel)) (pc2 := 1) rfl ?_
  refine q_getR (b := 33) (mz_fe (e := (1, .getfield 51, 96, (11, 6, 2), [])) (by decide +kernel)) rfl tg_1 (by rw [ln_1]; decide) (mz_rfS (by decide +kernel)) ?_
  refine q_o (mz_fe (e := (4, .aload_n 0, 1, (0, 0, 0), [])) (by decide +kernel)) (pc2 := 5) rfl ?_
  refine q_getR (b := 29) (mz_fe (e := (5, .getfield 47, 95, (11, 5, 2), [])) (by decide +kernel)) rfl tg_1 (by rw [ln_1]; decide) (mz_rfS (by decide +kernel)) ?_
  refine q_callV (N := 68) (vs := [.ref 33, .ref 29]) (rest := []) (L' := [some (.ref 1), some (.int x0), some (.int x1)]) rfl (mz_fe (e := (8, .invokevirtual 259, 143, (68, 2, 12), [])) (by decide +kernel)) rfl (mz_inv_virt (N := 68) (k := 2) (t := 12) (st := [.ref 29, .ref 33]) (rest := []) (b := 33) (vs := [.ref 29]) (h := (mz_S0, m)) rfl rfl (Nat.le_of_ble_eq_true rfl) (Nat.le_of_ble_eq_true rfl) (st_t (by decide : mz_isS 33 = true)) (by decide)) (mz_dc_lt (n := 2) rfl (by decide +kernel) (by decide +kernel)) (by decide +kernel) (by decide +kernel) (fun m1 => ?_)
  refine q_o (mz_fe (e := (11, .aload_n 0, 1, (0, 0, 0), [])) (by decide +kernel)) (pc2 := 12) rfl ?_
  refine q_getR (b := 27) (mz_fe (e := (12, .getfield 40, 94, (11, 4, 2), [])) (by decide +kernel)) rfl tg_1 (by rw [ln_1]; decide) (mz_rfS (by decide +kernel)) ?_
  refine q_o (mz_fe (e := (15, .aload_n 0, 1, (0, 0, 0), [])) (by decide +kernel)) (pc2 := 16) rfl ?_
  refine q_getR (b := 33) (mz_fe (e := (16, .getfield 51, 96, (11, 6, 2), [])) (by decide +kernel)) rfl tg_1 (by rw [ln_1]; decide) (mz_rfS (by decide +kernel)) ?_
  refine q_o (mz_fe (e := (19, .iload_n 1, 1, (0, 0, 0), [])) (by decide +kernel)) (pc2 := 20) rfl ?_
  refine q_o (mz_fe (e := (20, .iload_n 2, 1, (0, 0, 0), [])) (by decide +kernel)) (pc2 := 21) rfl ?_
  refine q_callV (N := 37) (vs := [.ref 27, .ref 33, .int x0, .int x1]) (rest := []) (L' := [some (.ref 1), some (.int x0), some (.int x1)]) rfl (mz_fe (e := (21, .invokevirtual 245, 139, (37, 4, 9), [])) (by decide +kernel)) rfl (mz_inv_virt (N := 37) (k := 4) (t := 9) (st := [.int x1, .int x0, .ref 33, .ref 27]) (rest := []) (b := 27) (vs := [.ref 33, .int x0, .int x1]) (h := (mz_S0, m1)) rfl rfl (Nat.le_of_ble_eq_true rfl) (Nat.le_of_ble_eq_true rfl) tg_27 (by decide)) (mz_dc_lt (n := 4) rfl (by decide +kernel) (by decide +kernel)) (by decide +kernel) (by decide +kernel) (fun m4 => ?_)
  exact q_retV (mz_fe (e := (24, .return_, 1, (0, 0, 0), [])) (by decide +kernel)) (by decide +kernel)
set_option maxRecDepth 10000 in
theorem R_X11_tell_eq (d : Nat) (x0 : Int32) (x1 : Int32) (x2 : Int32) (x3 : Int32) (m : MzM)  : R_X11_tell d x0 x1 x2 x3 m = (R_X11_isPerson d x0 m).bind (fun u3 => if u3.1 = 0 then (some ((-1), u3.2)) else ((R_X11_isStuff d x1 u3.2).bind (fun u7 => if u7.1 = 0 then (some ((-1), u7.2)) else ((R_X11_isAmount d x2 u7.2).bind (fun u11 => if ¬ u11.1 = 0 then ((R_X10_add d x0 x1 x2 x3 u11.2).bind (fun u15 => some (u15.1, u15.2))) else (some ((-1), u11.2))))))) := by
  show mz_cI (mz_T d 161 0 (mz_en (mz_xl 161) [.ref 1, .int x0, .int x1, .int x2, .int x3]) [] m) = _
  rw [show mz_en (mz_xl 161) [.ref 1, .int x0, .int x1, .int x2, .int x3] = [some (.ref 1), some (.int x0), some (.int x1), some (.int x2), some (.int x3)] from by rw [show mz_xl 161 = 5 from by decide +kernel]; rfl]
  refine q_o (mz_fe (e := (0, .aload_n 0, 1, (0, 0, 0), [])) (by decide +kernel)) (pc2 := 1) rfl ?_
  refine q_o (mz_fe (e := (1, .iload_n 1, 1, (0, 0, 0), [])) (by decide +kernel)) (pc2 := 2) rfl ?_
  refine q_callI (N := 165) (vs := [.ref 1, .int x0]) (rest := []) (L' := [some (.ref 1), some (.int x0), some (.int x1), some (.int x2), some (.int x3)]) (f := fun v2 m1 => if v2 = 0 then (some ((-1), m1)) else ((R_X11_isStuff d x1 m1).bind (fun u7 => if u7.1 = 0 then (some ((-1), u7.2)) else ((R_X11_isAmount d x2 u7.2).bind (fun u11 => if ¬ u11.1 = 0 then ((R_X10_add d x0 x1 x2 x3 u11.2).bind (fun u15 => some (u15.1, u15.2))) else (some ((-1), u11.2))))))) rfl (mz_fe (e := (2, .invokevirtual 129, 115, (165, 2, 17), [])) (by decide +kernel)) rfl (mz_inv_virt (N := 165) (k := 2) (t := 17) (st := [.int x0, .ref 1]) (rest := []) (b := 1) (vs := [.int x0]) (h := (mz_S0, m)) rfl rfl (Nat.le_of_ble_eq_true rfl) (Nat.le_of_ble_eq_true rfl) tg_1 (by decide)) (mz_dc_lt (n := 2) rfl (by decide +kernel) (by decide +kernel)) (by decide +kernel) (Or.inr (by decide +kernel)) (fun v2 m1 => ?_)
  refine q_if (c := .eq) (off := 17) (t := 22) (x := v2) (y := 0) (st := []) (mz_fe (e := (5, .ifCond .eq 17, 3, (0, 0, 0), [])) (by decide +kernel)) (fun _ => rfl) rfl rfl rfl (fun c4 => ?_) (fun c4 => ?_)
  · refine q_ic (v := (-1)) (mz_fe (e := (22, .iconst (-1), 1, (0, 0, 0), [])) (by decide +kernel)) (by decide) ?_
    exact q_retI (mz_fe (e := (23, .ireturn, 1, (0, 0, 0), [])) (by decide +kernel)) (by decide +kernel)
  · refine q_o (mz_fe (e := (8, .iload_n 2, 1, (0, 0, 0), [])) (by decide +kernel)) (pc2 := 9) rfl ?_
    refine q_callI (N := 167) (vs := [.int x1]) (rest := []) (L' := [some (.ref 1), some (.int x0), some (.int x1), some (.int x2), some (.int x3)]) (f := fun v6 m5 => if v6 = 0 then (some ((-1), m5)) else ((R_X11_isAmount d x2 m5).bind (fun u11 => if ¬ u11.1 = 0 then ((R_X10_add d x0 x1 x2 x3 u11.2).bind (fun u15 => some (u15.1, u15.2))) else (some ((-1), u11.2))))) rfl (mz_fe (e := (9, .invokestatic 132, 116, (167, 1, 1000), [])) (by decide +kernel)) rfl (mz_inv_stat (N := 167) (k := 1) (st := [.int x1]) (rest := []) (vs := [.int x1]) (h := (mz_S0, m1)) rfl rfl (Nat.le_of_ble_eq_true rfl) (Nat.le_of_ble_eq_true rfl)) (mz_dc_lt (n := 1) rfl (by decide +kernel) (by decide +kernel)) (by decide +kernel) (Or.inr (by decide +kernel)) (fun v6 m5 => ?_)
    refine q_if (c := .eq) (off := 10) (t := 22) (x := v6) (y := 0) (st := []) (mz_fe (e := (12, .ifCond .eq 10, 3, (0, 0, 0), [])) (by decide +kernel)) (fun _ => rfl) rfl rfl rfl (fun c8 => ?_) (fun c8 => ?_)
    · refine q_ic (v := (-1)) (mz_fe (e := (22, .iconst (-1), 1, (0, 0, 0), [])) (by decide +kernel)) (by decide) ?_
      exact q_retI (mz_fe (e := (23, .ireturn, 1, (0, 0, 0), [])) (by decide +kernel)) (by decide +kernel)
    · refine q_o (mz_fe (e := (15, .iload_n 3, 1, (0, 0, 0), [])) (by decide +kernel)) (pc2 := 16) rfl ?_
      refine q_callI (N := 168) (vs := [.int x2]) (rest := []) (L' := [some (.ref 1), some (.int x0), some (.int x1), some (.int x2), some (.int x3)]) (f := fun v10 m9 => if ¬ v10 = 0 then ((R_X10_add d x0 x1 x2 x3 m9).bind (fun u15 => some (u15.1, u15.2))) else (some ((-1), m9))) rfl (mz_fe (e := (16, .invokestatic 271, 147, (168, 1, 1000), [])) (by decide +kernel)) rfl (mz_inv_stat (N := 168) (k := 1) (st := [.int x2]) (rest := []) (vs := [.int x2]) (h := (mz_S0, m5)) rfl rfl (Nat.le_of_ble_eq_true rfl) (Nat.le_of_ble_eq_true rfl)) (mz_dc_lt (n := 1) rfl (by decide +kernel) (by decide +kernel)) (by decide +kernel) (Or.inr (by decide +kernel)) (fun v10 m9 => ?_)
      refine q_if (c := .ne) (off := 5) (t := 24) (x := v10) (y := 0) (st := []) (mz_fe (e := (19, .ifCond .ne 5, 3, (0, 0, 0), [])) (by decide +kernel)) (fun _ => rfl) rfl rfl rfl (fun c12 => ?_) (fun c12 => ?_)
      · refine q_o (mz_fe (e := (24, .aload_n 0, 1, (0, 0, 0), [])) (by decide +kernel)) (pc2 := 25) rfl ?_
        refine q_getR (b := 222) (mz_fe (e := (25, .getfield 88, 102, (11, 12, 2), [])) (by decide +kernel)) rfl tg_1 (by rw [ln_1]; decide) (mz_rfS (by decide +kernel)) ?_
        refine q_o (mz_fe (e := (28, .iload_n 1, 1, (0, 0, 0), [])) (by decide +kernel)) (pc2 := 29) rfl ?_
        refine q_o (mz_fe (e := (29, .iload_n 2, 1, (0, 0, 0), [])) (by decide +kernel)) (pc2 := 30) rfl ?_
        refine q_o (mz_fe (e := (30, .iload_n 3, 1, (0, 0, 0), [])) (by decide +kernel)) (pc2 := 31) rfl ?_
        refine q_o (mz_fe (e := (31, .iload 4, 2, (0, 0, 0), [])) (by decide +kernel)) (pc2 := 33) rfl ?_
        refine q_callI (N := 108) (vs := [.ref 222, .int x0, .int x1, .int x2, .int x3]) (rest := []) (L' := [some (.ref 1), some (.int x0), some (.int x1), some (.int x2), some (.int x3)]) (f := fun v14 m13 => some (v14, m13)) rfl (mz_fe (e := (33, .invokevirtual 325, 161, (108, 5, 16), [])) (by decide +kernel)) rfl (mz_inv_virt (N := 108) (k := 5) (t := 16) (st := [.int x3, .int x2, .int x1, .int x0, .ref 222]) (rest := []) (b := 222) (vs := [.int x0, .int x1, .int x2, .int x3]) (h := (mz_S0, m9)) rfl rfl (Nat.le_of_ble_eq_true rfl) (Nat.le_of_ble_eq_true rfl) tg_222 (by decide)) (mz_dc_lt (n := 5) rfl (by decide +kernel) (by decide +kernel)) (by decide +kernel) (Or.inl (by decide +kernel)) (fun v14 m13 => ?_)
        exact q_retI (mz_fe (e := (36, .ireturn, 1, (0, 0, 0), [])) (by decide +kernel)) (by decide +kernel)
      · refine q_ic (v := (-1)) (mz_fe (e := (22, .iconst (-1), 1, (0, 0, 0), [])) (by decide +kernel)) (by decide) ?_
        exact q_retI (mz_fe (e := (23, .ireturn, 1, (0, 0, 0), [])) (by decide +kernel)) (by decide +kernel)
set_option maxRecDepth 10000 in
theorem R_X11_forget_eq (d : Nat)  (m : MzM)  : R_X11_forget d  m = (R_X10_clear d  m).bind (fun m1 => some ((mz_rd m 222 6), m1)) := by
  show mz_cI (mz_T d 162 0 (mz_en (mz_xl 162) [.ref 1]) [] m) = _
  rw [show mz_en (mz_xl 162) [.ref 1] = [some (.ref 1), none] from by rw [show mz_xl 162 = 2 from by decide +kernel]; rfl]
  refine q_o (mz_fe (e := (0, .aload_n 0, 1, (0, 0, 0), [])) (by decide +kernel)) (pc2 := 1) rfl ?_
  refine q_getR (b := 222) (mz_fe (e := (1, .getfield 88, 102, (11, 12, 2), [])) (by decide +kernel)) rfl tg_1 (by rw [ln_1]; decide) (mz_rfS (by decide +kernel)) ?_
  refine q_getI (mz_fe (e := (4, .getfield 206, 115, (10, 6, 0), [])) (by decide +kernel)) rfl (by decide) tg_222 (by rw [ln_222]; decide) ?_
  refine q_s (mz_fe (e := (7, .istore_n 1, 1, (0, 0, 0), [])) (by decide +kernel)) (pc' := 8) (L' := [some (.ref 1), some (.int (mz_rd m 222 6))]) (st' := []) rfl ?_
  refine q_o (mz_fe (e := (8, .aload_n 0, 1, (0, 0, 0), [])) (by decide +kernel)) (pc2 := 9) rfl ?_
  refine q_getR (b := 222) (mz_fe (e := (9, .getfield 88, 102, (11, 12, 2), [])) (by decide +kernel)) rfl tg_1 (by rw [ln_1]; decide) (mz_rfS (by decide +kernel)) ?_
  refine q_callV (N := 107) (vs := [.ref 222]) (rest := []) (L' := [some (.ref 1), some (.int (mz_rd m 222 6))]) rfl (mz_fe (e := (12, .invokevirtual 125, 113, (107, 1, 16), [])) (by decide +kernel)) rfl (mz_inv_virt (N := 107) (k := 1) (t := 16) (st := [.ref 222]) (rest := []) (b := 222) (vs := []) (h := (mz_S0, m)) rfl rfl (Nat.le_of_ble_eq_true rfl) (Nat.le_of_ble_eq_true rfl) tg_222 (by decide)) (mz_dc_lt (n := 1) rfl (by decide +kernel) (by decide +kernel)) (by decide +kernel) (by decide +kernel) (fun m1 => ?_)
  refine q_o (mz_fe (e := (15, .iload_n 1, 1, (0, 0, 0), [])) (by decide +kernel)) (pc2 := 16) rfl ?_
  exact q_retI (mz_fe (e := (16, .ireturn, 1, (0, 0, 0), [])) (by decide +kernel)) (by decide +kernel)
set_option maxRecDepth 10000 in
theorem R_X11_two_eq (d : Nat) (x0 : Int32) (x1 : Int32) (m : MzM)  : R_X11_two d x0 x1 m = if x0 < 0 then (some ((-1), m)) else (if (mz_rd m 222 6) < x0 then (some ((-1), m)) else (if ((-1) : Int32) ≤ x1 then ((R_X10_pairsLeft d 29 x0 m).bind (fun u6 => if ¬ x1 = (-1) then ((R_X10_pairOf d u6.1 x1 u6.2).bind (fun u10 => some (u10.1, u10.2))) else ((R_J6_bitCount_0f7a4 d u6.1 u6.2).bind (fun u13 => some (u13.1, u13.2))))) else (some ((-1), m)))) := by
  show mz_cI (mz_T d 163 0 (mz_en (mz_xl 163) [.ref 1, .int x0, .int x1]) [] m) = _
  rw [show mz_en (mz_xl 163) [.ref 1, .int x0, .int x1] = [some (.ref 1), some (.int x0), some (.int x1), none] from by rw [show mz_xl 163 = 4 from by decide +kernel]; rfl]
  refine q_o (mz_fe (e := (0, .iload_n 1, 1, (0, 0, 0), [])) (by decide +kernel)) (pc2 := 1) rfl ?_
  refine q_if (c := .lt) (off := 19) (t := 20) (x := x0) (y := 0) (st := []) (mz_fe (e := (1, .ifCond .lt 19, 3, (0, 0, 0), [])) (by decide +kernel)) (fun _ => rfl) rfl rfl rfl (fun c1 => ?_) (fun c1 => ?_)
  · refine q_ic (v := (-1)) (mz_fe (e := (20, .iconst (-1), 1, (0, 0, 0), [])) (by decide +kernel)) (by decide) ?_
    exact q_retI (mz_fe (e := (21, .ireturn, 1, (0, 0, 0), [])) (by decide +kernel)) (by decide +kernel)
  · refine q_o (mz_fe (e := (4, .iload_n 1, 1, (0, 0, 0), [])) (by decide +kernel)) (pc2 := 5) rfl ?_
    refine q_o (mz_fe (e := (5, .aload_n 0, 1, (0, 0, 0), [])) (by decide +kernel)) (pc2 := 6) rfl ?_
    refine q_getR (b := 222) (mz_fe (e := (6, .getfield 88, 102, (11, 12, 2), [])) (by decide +kernel)) rfl tg_1 (by rw [ln_1]; decide) (mz_rfS (by decide +kernel)) ?_
    refine q_getI (mz_fe (e := (9, .getfield 206, 115, (10, 6, 0), [])) (by decide +kernel)) rfl (by decide) tg_222 (by rw [ln_222]; decide) ?_
    refine q_if (c := .gt) (off := 8) (t := 20) (x := x0) (y := (mz_rd m 222 6)) (st := []) (mz_fe (e := (12, .if_icmp .gt 8, 3, (0, 0, 0), [])) (by decide +kernel)) (fun _ => rfl) rfl rfl rfl (fun c2 => ?_) (fun c2 => ?_)
    · refine q_ic (v := (-1)) (mz_fe (e := (20, .iconst (-1), 1, (0, 0, 0), [])) (by decide +kernel)) (by decide) ?_
      exact q_retI (mz_fe (e := (21, .ireturn, 1, (0, 0, 0), [])) (by decide +kernel)) (by decide +kernel)
    · refine q_o (mz_fe (e := (15, .iload_n 2, 1, (0, 0, 0), [])) (by decide +kernel)) (pc2 := 16) rfl ?_
      refine q_ic (v := (-1)) (mz_fe (e := (16, .iconst (-1), 1, (0, 0, 0), [])) (by decide +kernel)) (by decide) ?_
      refine q_if (c := .ge) (off := 5) (t := 22) (x := x1) (y := (-1)) (st := []) (mz_fe (e := (17, .if_icmp .ge 5, 3, (0, 0, 0), [])) (by decide +kernel)) (fun _ => rfl) rfl rfl rfl (fun c3 => ?_) (fun c3 => ?_)
      · refine q_o (mz_fe (e := (22, .aload_n 0, 1, (0, 0, 0), [])) (by decide +kernel)) (pc2 := 23) rfl ?_
        refine q_getR (b := 222) (mz_fe (e := (23, .getfield 88, 102, (11, 12, 2), [])) (by decide +kernel)) rfl tg_1 (by rw [ln_1]; decide) (mz_rfS (by decide +kernel)) ?_
        refine q_o (mz_fe (e := (26, .aload_n 0, 1, (0, 0, 0), [])) (by decide +kernel)) (pc2 := 27) rfl ?_
        refine q_getR (b := 29) (mz_fe (e := (27, .getfield 47, 95, (11, 5, 2), [])) (by decide +kernel)) rfl tg_1 (by rw [ln_1]; decide) (mz_rfS (by decide +kernel)) ?_
        refine q_o (mz_fe (e := (30, .iload_n 1, 1, (0, 0, 0), [])) (by decide +kernel)) (pc2 := 31) rfl ?_
        refine q_callI (N := 109) (vs := [.ref 222, .ref 29, .int x0]) (rest := []) (L' := [some (.ref 1), some (.int x0), some (.int x1), none]) (f := fun v5 m4 => if ¬ x1 = (-1) then ((R_X10_pairOf d v5 x1 m4).bind (fun u10 => some (u10.1, u10.2))) else ((R_J6_bitCount_0f7a4 d v5 m4).bind (fun u13 => some (u13.1, u13.2)))) rfl (mz_fe (e := (31, .invokevirtual 329, 162, (109, 3, 16), [])) (by decide +kernel)) rfl (mz_inv_virt (N := 109) (k := 3) (t := 16) (st := [.int x0, .ref 29, .ref 222]) (rest := []) (b := 222) (vs := [.ref 29, .int x0]) (h := (mz_S0, m)) rfl rfl (Nat.le_of_ble_eq_true rfl) (Nat.le_of_ble_eq_true rfl) tg_222 (by decide)) (mz_dc_lt (n := 3) rfl (by decide +kernel) (by decide +kernel)) (by decide +kernel) (Or.inl (by decide +kernel)) (fun v5 m4 => ?_)
        refine q_s (mz_fe (e := (34, .istore_n 3, 1, (0, 0, 0), [])) (by decide +kernel)) (pc' := 35) (L' := [some (.ref 1), some (.int x0), some (.int x1), some (.int v5)]) (st' := []) rfl ?_
        refine q_o (mz_fe (e := (35, .iload_n 2, 1, (0, 0, 0), [])) (by decide +kernel)) (pc2 := 36) rfl ?_
        refine q_ic (v := (-1)) (mz_fe (e := (36, .iconst (-1), 1, (0, 0, 0), [])) (by decide +kernel)) (by decide) ?_
        refine q_if (c := .ne) (off := 10) (t := 47) (x := x1) (y := (-1)) (st := []) (mz_fe (e := (37, .if_icmp .ne 10, 3, (0, 0, 0), [])) (by decide +kernel)) (fun _ => rfl) rfl rfl rfl (fun c7 => ?_) (fun c7 => ?_)
        · refine q_o (mz_fe (e := (47, .aload_n 0, 1, (0, 0, 0), [])) (by decide +kernel)) (pc2 := 48) rfl ?_
          refine q_getR (b := 222) (mz_fe (e := (48, .getfield 88, 102, (11, 12, 2), [])) (by decide +kernel)) rfl tg_1 (by rw [ln_1]; decide) (mz_rfS (by decide +kernel)) ?_
          refine q_o (mz_fe (e := (51, .iload_n 3, 1, (0, 0, 0), [])) (by decide +kernel)) (pc2 := 52) rfl ?_
          refine q_o (mz_fe (e := (52, .iload_n 2, 1, (0, 0, 0), [])) (by decide +kernel)) (pc2 := 53) rfl ?_
          refine q_callI (N := 112) (vs := [.ref 222, .int v5, .int x1]) (rest := []) (L' := [some (.ref 1), some (.int x0), some (.int x1), some (.int v5)]) (f := fun v9 m8 => some (v9, m8)) rfl (mz_fe (e := (53, .invokevirtual 332, 163, (112, 3, 16), [])) (by decide +kernel)) rfl (mz_inv_virt (N := 112) (k := 3) (t := 16) (st := [.int x1, .int v5, .ref 222]) (rest := []) (b := 222) (vs := [.int v5, .int x1]) (h := (mz_S0, m4)) rfl rfl (Nat.le_of_ble_eq_true rfl) (Nat.le_of_ble_eq_true rfl) tg_222 (by decide)) (mz_dc_lt (n := 3) rfl (by decide +kernel) (by decide +kernel)) (by decide +kernel) (Or.inl (by decide +kernel)) (fun v9 m8 => ?_)
          exact q_retI (mz_fe (e := (56, .ireturn, 1, (0, 0, 0), [])) (by decide +kernel)) (by decide +kernel)
        · refine q_o (mz_fe (e := (40, .iload_n 3, 1, (0, 0, 0), [])) (by decide +kernel)) (pc2 := 41) rfl ?_
          refine q_callI (N := 290) (vs := [.int v5]) (rest := []) (L' := [some (.ref 1), some (.int x0), some (.int x1), some (.int v5)]) (f := fun v12 m11 => some (v12, m11)) rfl (mz_fe (e := (41, .invokestatic 296, 155, (290, 1, 1000), [])) (by decide +kernel)) rfl (mz_inv_stat (N := 290) (k := 1) (st := [.int v5]) (rest := []) (vs := [.int v5]) (h := (mz_S0, m4)) rfl rfl (Nat.le_of_ble_eq_true rfl) (Nat.le_of_ble_eq_true rfl)) (mz_dc_lt (n := 1) rfl (by decide +kernel) (by decide +kernel)) (by decide +kernel) (Or.inl (by decide +kernel)) (fun v12 m11 => ?_)
          refine q_o (mz_fe (e := (44, .goto 12, 3, (0, 0, 0), [])) (by decide +kernel)) (pc2 := 56) rfl ?_
          exact q_retI (mz_fe (e := (56, .ireturn, 1, (0, 0, 0), [])) (by decide +kernel)) (by decide +kernel)
      · refine q_ic (v := (-1)) (mz_fe (e := (20, .iconst (-1), 1, (0, 0, 0), [])) (by decide +kernel)) (by decide) ?_
        exact q_retI (mz_fe (e := (21, .ireturn, 1, (0, 0, 0), [])) (by decide +kernel)) (by decide +kernel)
set_option maxRecDepth 10000 in
theorem R_X11_ask_eq (d : Nat) (x0 : Int32) (x1 : Int32) (m : MzM)  : R_X11_ask d x0 x1 m = if x0 < 0 then (some ((-1), m)) else (if (mz_rd m 222 6) < x0 then (some ((-1), m)) else ((R_X11_isAmount d x1 m).bind (fun u5 => if ¬ u5.1 = 0 then ((R_X10_pairsLeft d 29 x0 u5.2).bind (fun u9 => if ¬ u9.1 = 0 then ((R_X10_bestQuestion d 29 u9.1 x1 u9.2).bind (fun u13 => some (u13.1, u13.2))) else (some ((-2), u9.2)))) else (some ((-1), u5.2))))) := by
  show mz_cI (mz_T d 164 0 (mz_en (mz_xl 164) [.ref 1, .int x0, .int x1]) [] m) = _
  rw [show mz_en (mz_xl 164) [.ref 1, .int x0, .int x1] = [some (.ref 1), some (.int x0), some (.int x1), none] from by rw [show mz_xl 164 = 4 from by decide +kernel]; rfl]
  refine q_o (mz_fe (e := (0, .iload_n 1, 1, (0, 0, 0), [])) (by decide +kernel)) (pc2 := 1) rfl ?_
  refine q_if (c := .lt) (off := 21) (t := 22) (x := x0) (y := 0) (st := []) (mz_fe (e := (1, .ifCond .lt 21, 3, (0, 0, 0), [])) (by decide +kernel)) (fun _ => rfl) rfl rfl rfl (fun c1 => ?_) (fun c1 => ?_)
  · refine q_ic (v := (-1)) (mz_fe (e := (22, .iconst (-1), 1, (0, 0, 0), [])) (by decide +kernel)) (by decide) ?_
    exact q_retI (mz_fe (e := (23, .ireturn, 1, (0, 0, 0), [])) (by decide +kernel)) (by decide +kernel)
  · refine q_o (mz_fe (e := (4, .iload_n 1, 1, (0, 0, 0), [])) (by decide +kernel)) (pc2 := 5) rfl ?_
    refine q_o (mz_fe (e := (5, .aload_n 0, 1, (0, 0, 0), [])) (by decide +kernel)) (pc2 := 6) rfl ?_
    refine q_getR (b := 222) (mz_fe (e := (6, .getfield 88, 102, (11, 12, 2), [])) (by decide +kernel)) rfl tg_1 (by rw [ln_1]; decide) (mz_rfS (by decide +kernel)) ?_
    refine q_getI (mz_fe (e := (9, .getfield 206, 115, (10, 6, 0), [])) (by decide +kernel)) rfl (by decide) tg_222 (by rw [ln_222]; decide) ?_
    refine q_if (c := .gt) (off := 10) (t := 22) (x := x0) (y := (mz_rd m 222 6)) (st := []) (mz_fe (e := (12, .if_icmp .gt 10, 3, (0, 0, 0), [])) (by decide +kernel)) (fun _ => rfl) rfl rfl rfl (fun c2 => ?_) (fun c2 => ?_)
    · refine q_ic (v := (-1)) (mz_fe (e := (22, .iconst (-1), 1, (0, 0, 0), [])) (by decide +kernel)) (by decide) ?_
      exact q_retI (mz_fe (e := (23, .ireturn, 1, (0, 0, 0), [])) (by decide +kernel)) (by decide +kernel)
    · refine q_o (mz_fe (e := (15, .iload_n 2, 1, (0, 0, 0), [])) (by decide +kernel)) (pc2 := 16) rfl ?_
      refine q_callI (N := 168) (vs := [.int x1]) (rest := []) (L' := [some (.ref 1), some (.int x0), some (.int x1), none]) (f := fun v4 m3 => if ¬ v4 = 0 then ((R_X10_pairsLeft d 29 x0 m3).bind (fun u9 => if ¬ u9.1 = 0 then ((R_X10_bestQuestion d 29 u9.1 x1 u9.2).bind (fun u13 => some (u13.1, u13.2))) else (some ((-2), u9.2)))) else (some ((-1), m3))) rfl (mz_fe (e := (16, .invokestatic 271, 147, (168, 1, 1000), [])) (by decide +kernel)) rfl (mz_inv_stat (N := 168) (k := 1) (st := [.int x1]) (rest := []) (vs := [.int x1]) (h := (mz_S0, m)) rfl rfl (Nat.le_of_ble_eq_true rfl) (Nat.le_of_ble_eq_true rfl)) (mz_dc_lt (n := 1) rfl (by decide +kernel) (by decide +kernel)) (by decide +kernel) (Or.inr (by decide +kernel)) (fun v4 m3 => ?_)
      refine q_if (c := .ne) (off := 5) (t := 24) (x := v4) (y := 0) (st := []) (mz_fe (e := (19, .ifCond .ne 5, 3, (0, 0, 0), [])) (by decide +kernel)) (fun _ => rfl) rfl rfl rfl (fun c6 => ?_) (fun c6 => ?_)
      · refine q_o (mz_fe (e := (24, .aload_n 0, 1, (0, 0, 0), [])) (by decide +kernel)) (pc2 := 25) rfl ?_
        refine q_getR (b := 222) (mz_fe (e := (25, .getfield 88, 102, (11, 12, 2), [])) (by decide +kernel)) rfl tg_1 (by rw [ln_1]; decide) (mz_rfS (by decide +kernel)) ?_
        refine q_o (mz_fe (e := (28, .aload_n 0, 1, (0, 0, 0), [])) (by decide +kernel)) (pc2 := 29) rfl ?_
        refine q_getR (b := 29) (mz_fe (e := (29, .getfield 47, 95, (11, 5, 2), [])) (by decide +kernel)) rfl tg_1 (by rw [ln_1]; decide) (mz_rfS (by decide +kernel)) ?_
        refine q_o (mz_fe (e := (32, .iload_n 1, 1, (0, 0, 0), [])) (by decide +kernel)) (pc2 := 33) rfl ?_
        refine q_callI (N := 109) (vs := [.ref 222, .ref 29, .int x0]) (rest := []) (L' := [some (.ref 1), some (.int x0), some (.int x1), none]) (f := fun v8 m7 => if ¬ v8 = 0 then ((R_X10_bestQuestion d 29 v8 x1 m7).bind (fun u13 => some (u13.1, u13.2))) else (some ((-2), m7))) rfl (mz_fe (e := (33, .invokevirtual 329, 162, (109, 3, 16), [])) (by decide +kernel)) rfl (mz_inv_virt (N := 109) (k := 3) (t := 16) (st := [.int x0, .ref 29, .ref 222]) (rest := []) (b := 222) (vs := [.ref 29, .int x0]) (h := (mz_S0, m3)) rfl rfl (Nat.le_of_ble_eq_true rfl) (Nat.le_of_ble_eq_true rfl) tg_222 (by decide)) (mz_dc_lt (n := 3) rfl (by decide +kernel) (by decide +kernel)) (by decide +kernel) (Or.inl (by decide +kernel)) (fun v8 m7 => ?_)
        refine q_s (mz_fe (e := (36, .istore_n 3, 1, (0, 0, 0), [])) (by decide +kernel)) (pc' := 37) (L' := [some (.ref 1), some (.int x0), some (.int x1), some (.int v8)]) (st' := []) rfl ?_
        refine q_o (mz_fe (e := (37, .iload_n 3, 1, (0, 0, 0), [])) (by decide +kernel)) (pc2 := 38) rfl ?_
        refine q_if (c := .ne) (off := 8) (t := 46) (x := v8) (y := 0) (st := []) (mz_fe (e := (38, .ifCond .ne 8, 3, (0, 0, 0), [])) (by decide +kernel)) (fun _ => rfl) rfl rfl rfl (fun c10 => ?_) (fun c10 => ?_)
        · refine q_o (mz_fe (e := (46, .aload_n 0, 1, (0, 0, 0), [])) (by decide +kernel)) (pc2 := 47) rfl ?_
          refine q_getR (b := 222) (mz_fe (e := (47, .getfield 88, 102, (11, 12, 2), [])) (by decide +kernel)) rfl tg_1 (by rw [ln_1]; decide) (mz_rfS (by decide +kernel)) ?_
          refine q_o (mz_fe (e := (50, .aload_n 0, 1, (0, 0, 0), [])) (by decide +kernel)) (pc2 := 51) rfl ?_
          refine q_getR (b := 29) (mz_fe (e := (51, .getfield 47, 95, (11, 5, 2), [])) (by decide +kernel)) rfl tg_1 (by rw [ln_1]; decide) (mz_rfS (by decide +kernel)) ?_
          refine q_o (mz_fe (e := (54, .iload_n 3, 1, (0, 0, 0), [])) (by decide +kernel)) (pc2 := 55) rfl ?_
          refine q_o (mz_fe (e := (55, .iload_n 2, 1, (0, 0, 0), [])) (by decide +kernel)) (pc2 := 56) rfl ?_
          refine q_callI (N := 113) (vs := [.ref 222, .ref 29, .int v8, .int x1]) (rest := []) (L' := [some (.ref 1), some (.int x0), some (.int x1), some (.int v8)]) (f := fun v12 m11 => some (v12, m11)) rfl (mz_fe (e := (56, .invokevirtual 335, 164, (113, 4, 16), [])) (by decide +kernel)) rfl (mz_inv_virt (N := 113) (k := 4) (t := 16) (st := [.int x1, .int v8, .ref 29, .ref 222]) (rest := []) (b := 222) (vs := [.ref 29, .int v8, .int x1]) (h := (mz_S0, m7)) rfl rfl (Nat.le_of_ble_eq_true rfl) (Nat.le_of_ble_eq_true rfl) tg_222 (by decide)) (mz_dc_lt (n := 4) rfl (by decide +kernel) (by decide +kernel)) (by decide +kernel) (Or.inl (by decide +kernel)) (fun v12 m11 => ?_)
          exact q_retI (mz_fe (e := (59, .ireturn, 1, (0, 0, 0), [])) (by decide +kernel)) (by decide +kernel)
        · refine q_bi (v := (-2)) (mz_fe (e := (41, .bipush (-2), 2, (0, 0, 0), [])) (by decide +kernel)) (by decide) ?_
          refine q_o (mz_fe (e := (43, .goto 16, 3, (0, 0, 0), [])) (by decide +kernel)) (pc2 := 59) rfl ?_
          exact q_retI (mz_fe (e := (59, .ireturn, 1, (0, 0, 0), [])) (by decide +kernel)) (by decide +kernel)
      · refine q_ic (v := (-1)) (mz_fe (e := (22, .iconst (-1), 1, (0, 0, 0), [])) (by decide +kernel)) (by decide) ?_
        exact q_retI (mz_fe (e := (23, .ireturn, 1, (0, 0, 0), [])) (by decide +kernel)) (by decide +kernel)
set_option maxRecDepth 10000 in
theorem R_X11_isPerson_eq (d : Nat) (x0 : Int32) (m : MzM)  : R_X11_isPerson d x0 m = if x0 < 0 then (some (0, m)) else (if (mz_rd m 4 4) ≤ x0 then (some (0, m)) else (some (1, m))) := by
  show mz_cI (mz_T d 165 0 (mz_en (mz_xl 165) [.ref 1, .int x0]) [] m) = _
  rw [show mz_en (mz_xl 165) [.ref 1, .int x0] = [some (.ref 1), some (.int x0)] from by rw [show mz_xl 165 = 2 from by decide +kernel]; rfl]
  refine q_o (mz_fe (e := (0, .iload_n 1, 1, (0, 0, 0), [])) (by decide +kernel)) (pc2 := 1) rfl ?_
  refine q_if (c := .lt) (off := 18) (t := 19) (x := x0) (y := 0) (st := []) (mz_fe (e := (1, .ifCond .lt 18, 3, (0, 0, 0), [])) (by decide +kernel)) (fun _ => rfl) rfl rfl rfl (fun c1 => ?_) (fun c1 => ?_)
  · refine q_ic (v := 0) (mz_fe (e := (19, .iconst 0, 1, (0, 0, 0), [])) (by decide +kernel)) (by decide) ?_
    exact q_retZ (mz_fe (e := (20, .ireturn, 1, (0, 0, 0), [])) (by decide +kernel)) (by decide +kernel) (by decide)
  · refine q_o (mz_fe (e := (4, .iload_n 1, 1, (0, 0, 0), [])) (by decide +kernel)) (pc2 := 5) rfl ?_
    refine q_o (mz_fe (e := (5, .aload_n 0, 1, (0, 0, 0), [])) (by decide +kernel)) (pc2 := 6) rfl ?_
    refine q_getR (b := 4) (mz_fe (e := (6, .getfield 19, 91, (11, 1, 2), [])) (by decide +kernel)) rfl tg_1 (by rw [ln_1]; decide) (mz_rfS (by decide +kernel)) ?_
    refine q_getI (mz_fe (e := (9, .getfield 187, 109, (8, 4, 0), [])) (by decide +kernel)) rfl (by decide) tg_4 (by rw [ln_4]; decide) ?_
    refine q_if (c := .ge) (off := 7) (t := 19) (x := x0) (y := (mz_rd m 4 4)) (st := []) (mz_fe (e := (12, .if_icmp .ge 7, 3, (0, 0, 0), [])) (by decide +kernel)) (fun _ => rfl) rfl rfl rfl (fun c2 => ?_) (fun c2 => ?_)
    · refine q_ic (v := 0) (mz_fe (e := (19, .iconst 0, 1, (0, 0, 0), [])) (by decide +kernel)) (by decide) ?_
      exact q_retZ (mz_fe (e := (20, .ireturn, 1, (0, 0, 0), [])) (by decide +kernel)) (by decide +kernel) (by decide)
    · refine q_ic (v := 1) (mz_fe (e := (15, .iconst 1, 1, (0, 0, 0), [])) (by decide +kernel)) (by decide) ?_
      refine q_o (mz_fe (e := (16, .goto 4, 3, (0, 0, 0), [])) (by decide +kernel)) (pc2 := 20) rfl ?_
      exact q_retZ (mz_fe (e := (20, .ireturn, 1, (0, 0, 0), [])) (by decide +kernel)) (by decide +kernel) (by decide)
set_option maxRecDepth 10000 in
theorem R_X11_areTwo_eq (d : Nat) (x0 : Int32) (x1 : Int32) (m : MzM)  : R_X11_areTwo d x0 x1 m = (R_X11_isPerson d x0 m).bind (fun u3 => if u3.1 = 0 then (some (0, u3.2)) else ((R_X11_isPerson d x1 u3.2).bind (fun u7 => if u7.1 = 0 then (some (0, u7.2)) else (if x0 = x1 then (some (0, u7.2)) else (some (1, u7.2)))))) := by
  show mz_cI (mz_T d 166 0 (mz_en (mz_xl 166) [.ref 1, .int x0, .int x1]) [] m) = _
  rw [show mz_en (mz_xl 166) [.ref 1, .int x0, .int x1] = [some (.ref 1), some (.int x0), some (.int x1)] from by rw [show mz_xl 166 = 3 from by decide +kernel]; rfl]
  refine q_o (mz_fe (e := (0, .aload_n 0, 1, (0, 0, 0), [])) (by decide +kernel)) (pc2 := 1) rfl ?_
  refine q_o (mz_fe (e := (1, .iload_n 1, 1, (0, 0, 0), [])) (by decide +kernel)) (pc2 := 2) rfl ?_
  refine q_callI (N := 165) (vs := [.ref 1, .int x0]) (rest := []) (L' := [some (.ref 1), some (.int x0), some (.int x1)]) (f := fun v2 m1 => if v2 = 0 then (some (0, m1)) else ((R_X11_isPerson d x1 m1).bind (fun u7 => if u7.1 = 0 then (some (0, u7.2)) else (if x0 = x1 then (some (0, u7.2)) else (some (1, u7.2)))))) rfl (mz_fe (e := (2, .invokevirtual 129, 115, (165, 2, 17), [])) (by decide +kernel)) rfl (mz_inv_virt (N := 165) (k := 2) (t := 17) (st := [.int x0, .ref 1]) (rest := []) (b := 1) (vs := [.int x0]) (h := (mz_S0, m)) rfl rfl (Nat.le_of_ble_eq_true rfl) (Nat.le_of_ble_eq_true rfl) tg_1 (by decide)) (mz_dc_lt (n := 2) rfl (by decide +kernel) (by decide +kernel)) (by decide +kernel) (Or.inr (by decide +kernel)) (fun v2 m1 => ?_)
  refine q_if (c := .eq) (off := 20) (t := 25) (x := v2) (y := 0) (st := []) (mz_fe (e := (5, .ifCond .eq 20, 3, (0, 0, 0), [])) (by decide +kernel)) (fun _ => rfl) rfl rfl rfl (fun c4 => ?_) (fun c4 => ?_)
  · refine q_ic (v := 0) (mz_fe (e := (25, .iconst 0, 1, (0, 0, 0), [])) (by decide +kernel)) (by decide) ?_
    exact q_retZ (mz_fe (e := (26, .ireturn, 1, (0, 0, 0), [])) (by decide +kernel)) (by decide +kernel) (by decide)
  · refine q_o (mz_fe (e := (8, .aload_n 0, 1, (0, 0, 0), [])) (by decide +kernel)) (pc2 := 9) rfl ?_
    refine q_o (mz_fe (e := (9, .iload_n 2, 1, (0, 0, 0), [])) (by decide +kernel)) (pc2 := 10) rfl ?_
    refine q_callI (N := 165) (vs := [.ref 1, .int x1]) (rest := []) (L' := [some (.ref 1), some (.int x0), some (.int x1)]) (f := fun v6 m5 => if v6 = 0 then (some (0, m5)) else (if x0 = x1 then (some (0, m5)) else (some (1, m5)))) rfl (mz_fe (e := (10, .invokevirtual 129, 115, (165, 2, 17), [])) (by decide +kernel)) rfl (mz_inv_virt (N := 165) (k := 2) (t := 17) (st := [.int x1, .ref 1]) (rest := []) (b := 1) (vs := [.int x1]) (h := (mz_S0, m1)) rfl rfl (Nat.le_of_ble_eq_true rfl) (Nat.le_of_ble_eq_true rfl) tg_1 (by decide)) (mz_dc_lt (n := 2) rfl (by decide +kernel) (by decide +kernel)) (by decide +kernel) (Or.inr (by decide +kernel)) (fun v6 m5 => ?_)
    refine q_if (c := .eq) (off := 12) (t := 25) (x := v6) (y := 0) (st := []) (mz_fe (e := (13, .ifCond .eq 12, 3, (0, 0, 0), [])) (by decide +kernel)) (fun _ => rfl) rfl rfl rfl (fun c8 => ?_) (fun c8 => ?_)
    · refine q_ic (v := 0) (mz_fe (e := (25, .iconst 0, 1, (0, 0, 0), [])) (by decide +kernel)) (by decide) ?_
      exact q_retZ (mz_fe (e := (26, .ireturn, 1, (0, 0, 0), [])) (by decide +kernel)) (by decide +kernel) (by decide)
    · refine q_o (mz_fe (e := (16, .iload_n 1, 1, (0, 0, 0), [])) (by decide +kernel)) (pc2 := 17) rfl ?_
      refine q_o (mz_fe (e := (17, .iload_n 2, 1, (0, 0, 0), [])) (by decide +kernel)) (pc2 := 18) rfl ?_
      refine q_if (c := .eq) (off := 7) (t := 25) (x := x0) (y := x1) (st := []) (mz_fe (e := (18, .if_icmp .eq 7, 3, (0, 0, 0), [])) (by decide +kernel)) (fun _ => rfl) rfl rfl rfl (fun c9 => ?_) (fun c9 => ?_)
      · refine q_ic (v := 0) (mz_fe (e := (25, .iconst 0, 1, (0, 0, 0), [])) (by decide +kernel)) (by decide) ?_
        exact q_retZ (mz_fe (e := (26, .ireturn, 1, (0, 0, 0), [])) (by decide +kernel)) (by decide +kernel) (by decide)
      · refine q_ic (v := 1) (mz_fe (e := (21, .iconst 1, 1, (0, 0, 0), [])) (by decide +kernel)) (by decide) ?_
        refine q_o (mz_fe (e := (22, .goto 4, 3, (0, 0, 0), [])) (by decide +kernel)) (pc2 := 26) rfl ?_
        exact q_retZ (mz_fe (e := (26, .ireturn, 1, (0, 0, 0), [])) (by decide +kernel)) (by decide +kernel) (by decide)
set_option maxRecDepth 10000 in
theorem R_X11_isStuff_eq (d : Nat) (x0 : Int32) (m : MzM)  : R_X11_isStuff d x0 m = if x0 < 0 then (some (0, m)) else (if (4 : Int32) ≤ x0 then (some (0, m)) else (some (1, m))) := by
  show mz_cI (mz_T d 167 0 (mz_en (mz_xl 167) [.int x0]) [] m) = _
  rw [show mz_en (mz_xl 167) [.int x0] = [some (.int x0)] from by rw [show mz_xl 167 = 1 from by decide +kernel]; rfl]
  refine q_o (mz_fe (e := (0, .iload_n 0, 1, (0, 0, 0), [])) (by decide +kernel)) (pc2 := 1) rfl ?_
  refine q_if (c := .lt) (off := 12) (t := 13) (x := x0) (y := 0) (st := []) (mz_fe (e := (1, .ifCond .lt 12, 3, (0, 0, 0), [])) (by decide +kernel)) (fun _ => rfl) rfl rfl rfl (fun c1 => ?_) (fun c1 => ?_)
  · refine q_ic (v := 0) (mz_fe (e := (13, .iconst 0, 1, (0, 0, 0), [])) (by decide +kernel)) (by decide) ?_
    exact q_retZ (mz_fe (e := (14, .ireturn, 1, (0, 0, 0), [])) (by decide +kernel)) (by decide +kernel) (by decide)
  · refine q_o (mz_fe (e := (4, .iload_n 0, 1, (0, 0, 0), [])) (by decide +kernel)) (pc2 := 5) rfl ?_
    refine q_ic (v := 4) (mz_fe (e := (5, .iconst 4, 1, (0, 0, 0), [])) (by decide +kernel)) (by decide) ?_
    refine q_if (c := .ge) (off := 7) (t := 13) (x := x0) (y := 4) (st := []) (mz_fe (e := (6, .if_icmp .ge 7, 3, (0, 0, 0), [])) (by decide +kernel)) (fun _ => rfl) rfl rfl rfl (fun c2 => ?_) (fun c2 => ?_)
    · refine q_ic (v := 0) (mz_fe (e := (13, .iconst 0, 1, (0, 0, 0), [])) (by decide +kernel)) (by decide) ?_
      exact q_retZ (mz_fe (e := (14, .ireturn, 1, (0, 0, 0), [])) (by decide +kernel)) (by decide +kernel) (by decide)
    · refine q_ic (v := 1) (mz_fe (e := (9, .iconst 1, 1, (0, 0, 0), [])) (by decide +kernel)) (by decide) ?_
      refine q_o (mz_fe (e := (10, .goto 4, 3, (0, 0, 0), [])) (by decide +kernel)) (pc2 := 14) rfl ?_
      exact q_retZ (mz_fe (e := (14, .ireturn, 1, (0, 0, 0), [])) (by decide +kernel)) (by decide +kernel) (by decide)
set_option maxRecDepth 10000 in
theorem R_X11_isAmount_eq (d : Nat) (x0 : Int32) (m : MzM)  : R_X11_isAmount d x0 m = if x0 < 0 then (some (0, m)) else (if (999 : Int32) < x0 then (some (0, m)) else (some (1, m))) := by
  show mz_cI (mz_T d 168 0 (mz_en (mz_xl 168) [.int x0]) [] m) = _
  rw [show mz_en (mz_xl 168) [.int x0] = [some (.int x0)] from by rw [show mz_xl 168 = 1 from by decide +kernel]; rfl]
  refine q_o (mz_fe (e := (0, .iload_n 0, 1, (0, 0, 0), [])) (by decide +kernel)) (pc2 := 1) rfl ?_
  refine q_if (c := .lt) (off := 14) (t := 15) (x := x0) (y := 0) (st := []) (mz_fe (e := (1, .ifCond .lt 14, 3, (0, 0, 0), [])) (by decide +kernel)) (fun _ => rfl) rfl rfl rfl (fun c1 => ?_) (fun c1 => ?_)
  · refine q_ic (v := 0) (mz_fe (e := (15, .iconst 0, 1, (0, 0, 0), [])) (by decide +kernel)) (by decide) ?_
    exact q_retZ (mz_fe (e := (16, .ireturn, 1, (0, 0, 0), [])) (by decide +kernel)) (by decide +kernel) (by decide)
  · refine q_o (mz_fe (e := (4, .iload_n 0, 1, (0, 0, 0), [])) (by decide +kernel)) (pc2 := 5) rfl ?_
    refine q_si (v := 999) (mz_fe (e := (5, .sipush 999, 3, (0, 0, 0), [])) (by decide +kernel)) (by decide) ?_
    refine q_if (c := .gt) (off := 7) (t := 15) (x := x0) (y := 999) (st := []) (mz_fe (e := (8, .if_icmp .gt 7, 3, (0, 0, 0), [])) (by decide +kernel)) (fun _ => rfl) rfl rfl rfl (fun c2 => ?_) (fun c2 => ?_)
    · refine q_ic (v := 0) (mz_fe (e := (15, .iconst 0, 1, (0, 0, 0), [])) (by decide +kernel)) (by decide) ?_
      exact q_retZ (mz_fe (e := (16, .ireturn, 1, (0, 0, 0), [])) (by decide +kernel)) (by decide +kernel) (by decide)
    · refine q_ic (v := 1) (mz_fe (e := (11, .iconst 1, 1, (0, 0, 0), [])) (by decide +kernel)) (by decide) ?_
      refine q_o (mz_fe (e := (12, .goto 4, 3, (0, 0, 0), [])) (by decide +kernel)) (pc2 := 16) rfl ?_
      exact q_retZ (mz_fe (e := (16, .ireturn, 1, (0, 0, 0), [])) (by decide +kernel)) (by decide +kernel) (by decide)
set_option maxRecDepth 10000 in
theorem R_X11_areDays_eq (d : Nat) (x0 : Int32) (m : MzM)  : R_X11_areDays d x0 m = if x0 < 0 then (some (0, m)) else (if (60 : Int32) < x0 then (some (0, m)) else (some (1, m))) := by
  show mz_cI (mz_T d 169 0 (mz_en (mz_xl 169) [.int x0]) [] m) = _
  rw [show mz_en (mz_xl 169) [.int x0] = [some (.int x0)] from by rw [show mz_xl 169 = 1 from by decide +kernel]; rfl]
  refine q_o (mz_fe (e := (0, .iload_n 0, 1, (0, 0, 0), [])) (by decide +kernel)) (pc2 := 1) rfl ?_
  refine q_if (c := .lt) (off := 13) (t := 14) (x := x0) (y := 0) (st := []) (mz_fe (e := (1, .ifCond .lt 13, 3, (0, 0, 0), [])) (by decide +kernel)) (fun _ => rfl) rfl rfl rfl (fun c1 => ?_) (fun c1 => ?_)
  · refine q_ic (v := 0) (mz_fe (e := (14, .iconst 0, 1, (0, 0, 0), [])) (by decide +kernel)) (by decide) ?_
    exact q_retZ (mz_fe (e := (15, .ireturn, 1, (0, 0, 0), [])) (by decide +kernel)) (by decide +kernel) (by decide)
  · refine q_o (mz_fe (e := (4, .iload_n 0, 1, (0, 0, 0), [])) (by decide +kernel)) (pc2 := 5) rfl ?_
    refine q_bi (v := 60) (mz_fe (e := (5, .bipush 60, 2, (0, 0, 0), [])) (by decide +kernel)) (by decide) ?_
    refine q_if (c := .gt) (off := 7) (t := 14) (x := x0) (y := 60) (st := []) (mz_fe (e := (7, .if_icmp .gt 7, 3, (0, 0, 0), [])) (by decide +kernel)) (fun _ => rfl) rfl rfl rfl (fun c2 => ?_) (fun c2 => ?_)
    · refine q_ic (v := 0) (mz_fe (e := (14, .iconst 0, 1, (0, 0, 0), [])) (by decide +kernel)) (by decide) ?_
      exact q_retZ (mz_fe (e := (15, .ireturn, 1, (0, 0, 0), [])) (by decide +kernel)) (by decide +kernel) (by decide)
    · refine q_ic (v := 1) (mz_fe (e := (10, .iconst 1, 1, (0, 0, 0), [])) (by decide +kernel)) (by decide) ?_
      refine q_o (mz_fe (e := (11, .goto 4, 3, (0, 0, 0), [])) (by decide +kernel)) (pc2 := 15) rfl ?_
      exact q_retZ (mz_fe (e := (15, .ireturn, 1, (0, 0, 0), [])) (by decide +kernel)) (by decide +kernel) (by decide)
set_option maxRecDepth 10000 in
theorem R_X11_isSlot_eq (d : Nat) (x0 : Int32) (m : MzM)  : R_X11_isSlot d x0 m = if x0 < 0 then (some (0, m)) else (if (3 : Int32) ≤ x0 then (some (0, m)) else (some (1, m))) := by
  show mz_cI (mz_T d 170 0 (mz_en (mz_xl 170) [.int x0]) [] m) = _
  rw [show mz_en (mz_xl 170) [.int x0] = [some (.int x0)] from by rw [show mz_xl 170 = 1 from by decide +kernel]; rfl]
  refine q_o (mz_fe (e := (0, .iload_n 0, 1, (0, 0, 0), [])) (by decide +kernel)) (pc2 := 1) rfl ?_
  refine q_if (c := .lt) (off := 12) (t := 13) (x := x0) (y := 0) (st := []) (mz_fe (e := (1, .ifCond .lt 12, 3, (0, 0, 0), [])) (by decide +kernel)) (fun _ => rfl) rfl rfl rfl (fun c1 => ?_) (fun c1 => ?_)
  · refine q_ic (v := 0) (mz_fe (e := (13, .iconst 0, 1, (0, 0, 0), [])) (by decide +kernel)) (by decide) ?_
    exact q_retZ (mz_fe (e := (14, .ireturn, 1, (0, 0, 0), [])) (by decide +kernel)) (by decide +kernel) (by decide)
  · refine q_o (mz_fe (e := (4, .iload_n 0, 1, (0, 0, 0), [])) (by decide +kernel)) (pc2 := 5) rfl ?_
    refine q_ic (v := 3) (mz_fe (e := (5, .iconst 3, 1, (0, 0, 0), [])) (by decide +kernel)) (by decide) ?_
    refine q_if (c := .ge) (off := 7) (t := 13) (x := x0) (y := 3) (st := []) (mz_fe (e := (6, .if_icmp .ge 7, 3, (0, 0, 0), [])) (by decide +kernel)) (fun _ => rfl) rfl rfl rfl (fun c2 => ?_) (fun c2 => ?_)
    · refine q_ic (v := 0) (mz_fe (e := (13, .iconst 0, 1, (0, 0, 0), [])) (by decide +kernel)) (by decide) ?_
      exact q_retZ (mz_fe (e := (14, .ireturn, 1, (0, 0, 0), [])) (by decide +kernel)) (by decide +kernel) (by decide)
    · refine q_ic (v := 1) (mz_fe (e := (9, .iconst 1, 1, (0, 0, 0), [])) (by decide +kernel)) (by decide) ?_
      refine q_o (mz_fe (e := (10, .goto 4, 3, (0, 0, 0), [])) (by decide +kernel)) (pc2 := 14) rfl ?_
      exact q_retZ (mz_fe (e := (14, .ireturn, 1, (0, 0, 0), [])) (by decide +kernel)) (by decide +kernel) (by decide)
set_option maxRecDepth 10000 in
theorem R_X11_isZeroOrOne_eq (d : Nat) (x0 : Int32) (m : MzM)  : R_X11_isZeroOrOne d x0 m = if x0 = 0 then (some (1, m)) else (if ¬ x0 = 1 then (some (0, m)) else (some (1, m))) := by
  show mz_cI (mz_T d 171 0 (mz_en (mz_xl 171) [.int x0]) [] m) = _
  rw [show mz_en (mz_xl 171) [.int x0] = [some (.int x0)] from by rw [show mz_xl 171 = 1 from by decide +kernel]; rfl]
  refine q_o (mz_fe (e := (0, .iload_n 0, 1, (0, 0, 0), [])) (by decide +kernel)) (pc2 := 1) rfl ?_
  refine q_if (c := .eq) (off := 8) (t := 9) (x := x0) (y := 0) (st := []) (mz_fe (e := (1, .ifCond .eq 8, 3, (0, 0, 0), [])) (by decide +kernel)) (fun _ => rfl) rfl rfl rfl (fun c1 => ?_) (fun c1 => ?_)
  · refine q_ic (v := 1) (mz_fe (e := (9, .iconst 1, 1, (0, 0, 0), [])) (by decide +kernel)) (by decide) ?_
    refine q_o (mz_fe (e := (10, .goto 4, 3, (0, 0, 0), [])) (by decide +kernel)) (pc2 := 14) rfl ?_
    exact q_retZ (mz_fe (e := (14, .ireturn, 1, (0, 0, 0), [])) (by decide +kernel)) (by decide +kernel) (by decide)
  · refine q_o (mz_fe (e := (4, .iload_n 0, 1, (0, 0, 0), [])) (by decide +kernel)) (pc2 := 5) rfl ?_
    refine q_ic (v := 1) (mz_fe (e := (5, .iconst 1, 1, (0, 0, 0), [])) (by decide +kernel)) (by decide) ?_
    refine q_if (c := .ne) (off := 7) (t := 13) (x := x0) (y := 1) (st := []) (mz_fe (e := (6, .if_icmp .ne 7, 3, (0, 0, 0), [])) (by decide +kernel)) (fun _ => rfl) rfl rfl rfl (fun c2 => ?_) (fun c2 => ?_)
    · refine q_ic (v := 0) (mz_fe (e := (13, .iconst 0, 1, (0, 0, 0), [])) (by decide +kernel)) (by decide) ?_
      exact q_retZ (mz_fe (e := (14, .ireturn, 1, (0, 0, 0), [])) (by decide +kernel)) (by decide +kernel) (by decide)
    · refine q_ic (v := 1) (mz_fe (e := (9, .iconst 1, 1, (0, 0, 0), [])) (by decide +kernel)) (by decide) ?_
      refine q_o (mz_fe (e := (10, .goto 4, 3, (0, 0, 0), [])) (by decide +kernel)) (pc2 := 14) rfl ?_
      exact q_retZ (mz_fe (e := (14, .ireturn, 1, (0, 0, 0), [])) (by decide +kernel)) (by decide +kernel) (by decide)
set_option maxRecDepth 10000 in
theorem R_X11_isTurnNumber_eq (d : Nat) (x0 : Int32) (m : MzM)  : R_X11_isTurnNumber d x0 m = if x0 < (-1) then (some (0, m)) else (if (3 : Int32) ≤ x0 then (some (0, m)) else (some (1, m))) := by
  show mz_cI (mz_T d 172 0 (mz_en (mz_xl 172) [.int x0]) [] m) = _
  rw [show mz_en (mz_xl 172) [.int x0] = [some (.int x0)] from by rw [show mz_xl 172 = 1 from by decide +kernel]; rfl]
  refine q_o (mz_fe (e := (0, .iload_n 0, 1, (0, 0, 0), [])) (by decide +kernel)) (pc2 := 1) rfl ?_
  refine q_ic (v := (-1)) (mz_fe (e := (1, .iconst (-1), 1, (0, 0, 0), [])) (by decide +kernel)) (by decide) ?_
  refine q_if (c := .lt) (off := 12) (t := 14) (x := x0) (y := (-1)) (st := []) (mz_fe (e := (2, .if_icmp .lt 12, 3, (0, 0, 0), [])) (by decide +kernel)) (fun _ => rfl) rfl rfl rfl (fun c1 => ?_) (fun c1 => ?_)
  · refine q_ic (v := 0) (mz_fe (e := (14, .iconst 0, 1, (0, 0, 0), [])) (by decide +kernel)) (by decide) ?_
    exact q_retZ (mz_fe (e := (15, .ireturn, 1, (0, 0, 0), [])) (by decide +kernel)) (by decide +kernel) (by decide)
  · refine q_o (mz_fe (e := (5, .iload_n 0, 1, (0, 0, 0), [])) (by decide +kernel)) (pc2 := 6) rfl ?_
    refine q_ic (v := 3) (mz_fe (e := (6, .iconst 3, 1, (0, 0, 0), [])) (by decide +kernel)) (by decide) ?_
    refine q_if (c := .ge) (off := 7) (t := 14) (x := x0) (y := 3) (st := []) (mz_fe (e := (7, .if_icmp .ge 7, 3, (0, 0, 0), [])) (by decide +kernel)) (fun _ => rfl) rfl rfl rfl (fun c2 => ?_) (fun c2 => ?_)
    · refine q_ic (v := 0) (mz_fe (e := (14, .iconst 0, 1, (0, 0, 0), [])) (by decide +kernel)) (by decide) ?_
      exact q_retZ (mz_fe (e := (15, .ireturn, 1, (0, 0, 0), [])) (by decide +kernel)) (by decide +kernel) (by decide)
    · refine q_ic (v := 1) (mz_fe (e := (10, .iconst 1, 1, (0, 0, 0), [])) (by decide +kernel)) (by decide) ?_
      refine q_o (mz_fe (e := (11, .goto 4, 3, (0, 0, 0), [])) (by decide +kernel)) (pc2 := 15) rfl ?_
      exact q_retZ (mz_fe (e := (15, .ireturn, 1, (0, 0, 0), [])) (by decide +kernel)) (by decide +kernel) (by decide)
