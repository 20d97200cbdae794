set_option maxRecDepth 10000 in
theorem R_X4_readTape_eq (d : Nat)  (m : MzM)  : R_X4_readTape d  m = (R_X9_cut d  m).bind (fun m1 => (R_X8_clear d 13 m1).bind (fun m4 => (R_X9_kind d 0 (mz_wr (mz_wr (mz_wr m4 22 4 0) 22 6 0) 22 2 0)).bind (fun u9 => H_X4_readTape_43 d 0 (mz_wr u9.2 22 3 u9.1)))) := by
  show mz_cI (mz_T d 45 0 (mz_en (mz_xl 45) [.ref 22]) [] m) = _
  rw [show mz_en (mz_xl 45) [.ref 22] = [some (.ref 22), none] from by rw [show mz_xl 45 = 2 from by decide +kernel]; rfl]
  refine q_o (mz_fe (e := (0, .aload_n 0, 1, (0, 0, 0), [])) (by decide +kernel)) (pc2 := 1) rfl ?_
  refine q_getR (b := 23) (mz_fe (e := (1, .getfield 14, 25, (4, 0, 2), [])) (by decide +kernel)) rfl tg_22 (by rw [ln_22]; decide) (mz_rfS (by decide +kernel)) ?_
  refine q_callV (N := 93) (vs := [.ref 23]) (rest := []) (L' := [some (.ref 22), none]) rfl (mz_fe (e := (4, .invokevirtual 24, 35, (93, 1, 15), [])) (by decide +kernel)) rfl (mz_inv_virt (N := 93) (k := 1) (t := 15) (st := [.ref 23]) (rest := []) (b := 23) (vs := []) (h := (mz_S0, m)) rfl rfl (Nat.le_of_ble_eq_true rfl) (Nat.le_of_ble_eq_true rfl) tg_23 (by decide)) (mz_dc_lt (n := 1) rfl (by decide +kernel) (by decide +kernel)) (by decide +kernel) (by decide +kernel) (fun m1 => ?_)
  refine q_o (mz_fe (e := (7, .aload_n 0, 1, (0, 0, 0), [])) (by decide +kernel)) (pc2 := 8) rfl ?_
  refine q_getR (b := 13) (mz_fe (e := (8, .getfield 20, 26, (4, 1, 2), [])) (by decide +kernel)) rfl tg_22 (by rw [ln_22]; decide) (mz_rfS (by decide +kernel)) ?_
  refine q_callV (N := 82) (vs := [.ref 13]) (rest := []) (L' := [some (.ref 22), none]) rfl (mz_fe (e := (11, .invokevirtual 27, 36, (82, 1, 14), [])) (by decide +kernel)) rfl (mz_inv_virt (N := 82) (k := 1) (t := 14) (st := [.ref 13]) (rest := []) (b := 13) (vs := []) (h := (mz_S0, m1)) rfl rfl (Nat.le_of_ble_eq_true rfl) (Nat.le_of_ble_eq_true rfl) tg_13 (by decide)) (mz_dc_lt (n := 1) rfl (by decide +kernel) (by decide +kernel)) (by decide +kernel) (by decide +kernel) (fun m4 => ?_)
  refine q_o (mz_fe (e := (14, .aload_n 0, 1, (0, 0, 0), [])) (by decide +kernel)) (pc2 := 15) rfl ?_
  refine q_ic (v := 0) (mz_fe (e := (15, .iconst 0, 1, (0, 0, 0), [])) (by decide +kernel)) (by decide) ?_
  refine q_putI (mz_fe (e := (16, .putfield 32, 27, (4, 4, 0), [])) (by decide +kernel)) rfl tg_22 (by rw [ln_22]; decide) ?_
  refine q_o (mz_fe (e := (19, .aload_n 0, 1, (0, 0, 0), [])) (by decide +kernel)) (pc2 := 20) rfl ?_
  refine q_ic (v := 0) (mz_fe (e := (20, .iconst 0, 1, (0, 0, 0), [])) (by decide +kernel)) (by decide) ?_
  refine q_putI (mz_fe (e := (21, .putfield 36, 28, (4, 6, 0), [])) (by decide +kernel)) rfl tg_22 (by rw [ln_22]; decide) ?_
  refine q_o (mz_fe (e := (24, .aload_n 0, 1, (0, 0, 0), [])) (by decide +kernel)) (pc2 := 25) rfl ?_
  refine q_ic (v := 0) (mz_fe (e := (25, .iconst 0, 1, (0, 0, 0), [])) (by decide +kernel)) (by decide) ?_
  refine q_putI (mz_fe (e := (26, .putfield 39, 29, (4, 2, 0), [])) (by decide +kernel)) rfl tg_22 (by rw [ln_22]; decide) ?_
  refine q_o (mz_fe (e := (29, .aload_n 0, 1, (0, 0, 0), [])) (by decide +kernel)) (pc2 := 30) rfl ?_
  refine q_o (mz_fe (e := (30, .aload_n 0, 1, (0, 0, 0), [])) (by decide +kernel)) (pc2 := 31) rfl ?_
  refine q_getR (b := 23) (mz_fe (e := (31, .getfield 14, 25, (4, 0, 2), [])) (by decide +kernel)) rfl tg_22 (by rw [ln_22]; decide) (mz_rfS (by decide +kernel)) ?_
  refine q_ic (v := 0) (mz_fe (e := (34, .iconst 0, 1, (0, 0, 0), [])) (by decide +kernel)) (by decide) ?_
  refine q_callI (N := 94) (vs := [.ref 23, .int 0]) (rest := [.ref 22]) (L' := [some (.ref 22), none]) (f := fun v8 m7 => H_X4_readTape_43 d 0 (mz_wr m7 22 3 v8)) rfl (mz_fe (e := (35, .invokevirtual 42, 37, (94, 2, 15), [])) (by decide +kernel)) rfl (mz_inv_virt (N := 94) (k := 2) (t := 15) (st := [.int 0, .ref 23, .ref 22]) (rest := [.ref 22]) (b := 23) (vs := [.int 0]) (h := (mz_S0, (mz_wr (mz_wr (mz_wr m4 22 4 0) 22 6 0) 22 2 0))) rfl rfl (Nat.le_of_ble_eq_true rfl) (Nat.le_of_ble_eq_true rfl) tg_23 (by decide)) (mz_dc_lt (n := 2) rfl (by decide +kernel) (by decide +kernel)) (by decide +kernel) (Or.inl (by decide +kernel)) (fun v8 m7 => ?_)
  refine q_putI (mz_fe (e := (38, .putfield 46, 30, (4, 3, 0), [])) (by decide +kernel)) rfl tg_22 (by rw [ln_22]; decide) ?_
  refine q_ic (v := 0) (mz_fe (e := (41, .iconst 0, 1, (0, 0, 0), [])) (by decide +kernel)) (by decide) ?_
  refine q_s (mz_fe (e := (42, .istore_n 1, 1, (0, 0, 0), [])) (by decide +kernel)) (pc' := 43) (L' := [some (.ref 22), some (.int 0)]) (st' := []) rfl ?_
  exact congrArg mz_cI (mz_At_msk (L := [some (.ref 22), some (.int 0)]) (L2 := [some (.ref 22), some (.int 0)]) (mz_fe (e := (43, .iload_n 1, 1, (0, 0, 0), [true, true])) (by decide +kernel)) rfl rfl)
set_option maxRecDepth 10000 in
theorem H_X4_readTape_43_eq (d : Nat) (y1 : Int32) (m : MzM)  : H_X4_readTape_43 d y1 m = if (400 : Int32) < y1 then ((R_X4_checkRoomForTokens d  m).bind (fun m11 => if ¬ (mz_rd m11 22 4) = 0 then (some ((mz_rd m11 22 4), m11)) else (some ((mz_rd m11 22 6), m11)))) else (if (mz_rd m 22 3) = 0 then ((R_X4_checkRoomForTokens d  m).bind (fun m16 => if ¬ (mz_rd m16 22 4) = 0 then (some ((mz_rd m16 22 4), m16)) else (some ((mz_rd m16 22 6), m16)))) else ((R_X4_readTell d  m).bind (fun m20 => H_X4_readTape_43 d (y1 + 1) m20))) := by
  show mz_cI (mz_T d 45 43 [some (.ref 22), some (.int y1)] [] m) = _
  refine q_s (mz_fe (e := (43, .iload_n 1, 1, (0, 0, 0), [true, true])) (by decide +kernel)) (pc' := 44) (L' := [some (.ref 22), some (.int y1)]) (st' := [.int y1]) rfl ?_
  refine q_si (v := 400) (mz_fe (e := (44, .sipush 400, 3, (0, 0, 0), [])) (by decide +kernel)) (by decide) ?_
  refine q_if (c := .gt) (off := 20) (t := 67) (x := y1) (y := 400) (st := []) (mz_fe (e := (47, .if_icmp .gt 20, 3, (0, 0, 0), [])) (by decide +kernel)) (fun _ => rfl) rfl rfl rfl (fun c10 => ?_) (fun c10 => ?_)
  · refine q_o (mz_fe (e := (67, .aload_n 0, 1, (0, 0, 0), [])) (by decide +kernel)) (pc2 := 68) rfl ?_
    refine q_callV (N := 46) (vs := [.ref 22]) (rest := []) (L' := [some (.ref 22), some (.int y1)]) rfl (mz_fe (e := (68, .invokevirtual 51, 39, (46, 1, 10), [])) (by decide +kernel)) rfl (mz_inv_virt (N := 46) (k := 1) (t := 10) (st := [.ref 22]) (rest := []) (b := 22) (vs := []) (h := (mz_S0, m)) rfl rfl (Nat.le_of_ble_eq_true rfl) (Nat.le_of_ble_eq_true rfl) tg_22 (by decide)) (mz_dc_lt (n := 1) rfl (by decide +kernel) (by decide +kernel)) (by decide +kernel) (by decide +kernel) (fun m11 => ?_)
    refine q_o (mz_fe (e := (71, .aload_n 0, 1, (0, 0, 0), [])) (by decide +kernel)) (pc2 := 72) rfl ?_
    refine q_getI (mz_fe (e := (72, .getfield 32, 27, (4, 4, 0), [])) (by decide +kernel)) rfl (by decide) tg_22 (by rw [ln_22]; decide) ?_
    refine q_if (c := .ne) (off := 10) (t := 85) (x := (mz_rd m11 22 4)) (y := 0) (st := []) (mz_fe (e := (75, .ifCond .ne 10, 3, (0, 0, 0), [])) (by decide +kernel)) (fun _ => rfl) rfl rfl rfl (fun c14 => ?_) (fun c14 => ?_)
    · refine q_o (mz_fe (e := (85, .aload_n 0, 1, (0, 0, 0), [])) (by decide +kernel)) (pc2 := 86) rfl ?_
      refine q_getI (mz_fe (e := (86, .getfield 32, 27, (4, 4, 0), [])) (by decide +kernel)) rfl (by decide) tg_22 (by rw [ln_22]; decide) ?_
      exact q_retI (mz_fe (e := (89, .ireturn, 1, (0, 0, 0), [])) (by decide +kernel)) (by decide +kernel)
    · refine q_o (mz_fe (e := (78, .aload_n 0, 1, (0, 0, 0), [])) (by decide +kernel)) (pc2 := 79) rfl ?_
      refine q_getI (mz_fe (e := (79, .getfield 36, 28, (4, 6, 0), [])) (by decide +kernel)) rfl (by decide) tg_22 (by rw [ln_22]; decide) ?_
      refine q_o (mz_fe (e := (82, .goto 7, 3, (0, 0, 0), [])) (by decide +kernel)) (pc2 := 89) rfl ?_
      exact q_retI (mz_fe (e := (89, .ireturn, 1, (0, 0, 0), [])) (by decide +kernel)) (by decide +kernel)
  · refine q_o (mz_fe (e := (50, .aload_n 0, 1, (0, 0, 0), [])) (by decide +kernel)) (pc2 := 51) rfl ?_
    refine q_getI (mz_fe (e := (51, .getfield 46, 30, (4, 3, 0), [])) (by decide +kernel)) rfl (by decide) tg_22 (by rw [ln_22]; decide) ?_
    refine q_if (c := .eq) (off := 13) (t := 67) (x := (mz_rd m 22 3)) (y := 0) (st := []) (mz_fe (e := (54, .ifCond .eq 13, 3, (0, 0, 0), [])) (by decide +kernel)) (fun _ => rfl) rfl rfl rfl (fun c15 => ?_) (fun c15 => ?_)
    · refine q_o (mz_fe (e := (67, .aload_n 0, 1, (0, 0, 0), [])) (by decide +kernel)) (pc2 := 68) rfl ?_
      refine q_callV (N := 46) (vs := [.ref 22]) (rest := []) (L' := [some (.ref 22), some (.int y1)]) rfl (mz_fe (e := (68, .invokevirtual 51, 39, (46, 1, 10), [])) (by decide +kernel)) rfl (mz_inv_virt (N := 46) (k := 1) (t := 10) (st := [.ref 22]) (rest := []) (b := 22) (vs := []) (h := (mz_S0, m)) rfl rfl (Nat.le_of_ble_eq_true rfl) (Nat.le_of_ble_eq_true rfl) tg_22 (by decide)) (mz_dc_lt (n := 1) rfl (by decide +kernel) (by decide +kernel)) (by decide +kernel) (by decide +kernel) (fun m16 => ?_)
      refine q_o (mz_fe (e := (71, .aload_n 0, 1, (0, 0, 0), [])) (by decide +kernel)) (pc2 := 72) rfl ?_
      refine q_getI (mz_fe (e := (72, .getfield 32, 27, (4, 4, 0), [])) (by decide +kernel)) rfl (by decide) tg_22 (by rw [ln_22]; decide) ?_
      refine q_if (c := .ne) (off := 10) (t := 85) (x := (mz_rd m16 22 4)) (y := 0) (st := []) (mz_fe (e := (75, .ifCond .ne 10, 3, (0, 0, 0), [])) (by decide +kernel)) (fun _ => rfl) rfl rfl rfl (fun c19 => ?_) (fun c19 => ?_)
      · refine q_o (mz_fe (e := (85, .aload_n 0, 1, (0, 0, 0), [])) (by decide +kernel)) (pc2 := 86) rfl ?_
        refine q_getI (mz_fe (e := (86, .getfield 32, 27, (4, 4, 0), [])) (by decide +kernel)) rfl (by decide) tg_22 (by rw [ln_22]; decide) ?_
        exact q_retI (mz_fe (e := (89, .ireturn, 1, (0, 0, 0), [])) (by decide +kernel)) (by decide +kernel)
      · refine q_o (mz_fe (e := (78, .aload_n 0, 1, (0, 0, 0), [])) (by decide +kernel)) (pc2 := 79) rfl ?_
        refine q_getI (mz_fe (e := (79, .getfield 36, 28, (4, 6, 0), [])) (by decide +kernel)) rfl (by decide) tg_22 (by rw [ln_22]; decide) ?_
        refine q_o (mz_fe (e := (82, .goto 7, 3, (0, 0, 0), [])) (by decide +kernel)) (pc2 := 89) rfl ?_
        exact q_retI (mz_fe (e := (89, .ireturn, 1, (0, 0, 0), [])) (by decide +kernel)) (by decide +kernel)
    · refine q_o (mz_fe (e := (57, .aload_n 0, 1, (0, 0, 0), [])) (by decide +kernel)) (pc2 := 58) rfl ?_
      refine q_callV (N := 52) (vs := [.ref 22]) (rest := []) (L' := [some (.ref 22), some (.int y1)]) rfl (mz_fe (e := (58, .invokevirtual 48, 38, (52, 1, 10), [])) (by decide +kernel)) rfl (mz_inv_virt (N := 52) (k := 1) (t := 10) (st := [.ref 22]) (rest := []) (b := 22) (vs := []) (h := (mz_S0, m)) rfl rfl (Nat.le_of_ble_eq_true rfl) (Nat.le_of_ble_eq_true rfl) tg_22 (by decide)) (mz_dc_lt (n := 1) rfl (by decide +kernel) (by decide +kernel)) (by decide +kernel) (by decide +kernel) (fun m20 => ?_)
      refine q_iinc (v := y1) (c := 1) (L3 := [some (.ref 22), some (.int (y1 + 1))]) (mz_fe (e := (61, .iinc 1 1, 3, (0, 0, 0), [])) (by decide +kernel)) rfl rfl (by decide) rfl ?_
      refine q_o (mz_fe (e := (64, .goto (-21), 3, (0, 0, 0), [])) (by decide +kernel)) (pc2 := 43) rfl ?_
      exact congrArg mz_cI (mz_At_msk (L := [some (.ref 22), some (.int (y1 + 1))]) (L2 := [some (.ref 22), some (.int (y1 + 1))]) (mz_fe (e := (43, .iload_n 1, 1, (0, 0, 0), [true, true])) (by decide +kernel)) rfl rfl)
set_option maxRecDepth 10000 in
theorem R_X4_checkRoomForTokens_eq (d : Nat)  (m : MzM)  : R_X4_checkRoomForTokens d  m = (R_X9_kind d 400 m).bind (fun u3 => if u3.1 = 0 then some u3.2 else (if (mz_rd u3.2 22 4) = 0 then (some (mz_wr (mz_wr u3.2 22 4 2) 22 5 400)) else (if (mz_rd u3.2 22 5) ≤ 400 then some u3.2 else (some (mz_wr (mz_wr u3.2 22 4 2) 22 5 400))))) := by
  show mz_cV (mz_T d 46 0 (mz_en (mz_xl 46) [.ref 22]) [] m) = _
  rw [show mz_en (mz_xl 46) [.ref 22] = [some (.ref 22), none] from by rw [show mz_xl 46 = 2 from by decide +kernel]; rfl]
  refine q_o (mz_fe (e := (0, .aload_n 0, 1, (0, 0, 0), [])) (by decide +kernel)) (pc2 := 1) rfl ?_
  refine q_getR (b := 23) (mz_fe (e := (1, .getfield 14, 25, (4, 0, 2), [])) (by decide +kernel)) rfl tg_22 (by rw [ln_22]; decide) (mz_rfS (by decide +kernel)) ?_
  refine q_si (v := 400) (mz_fe (e := (4, .sipush 400, 3, (0, 0, 0), [])) (by decide +kernel)) (by decide) ?_
  refine q_callI (N := 94) (vs := [.ref 23, .int 400]) (rest := []) (L' := [some (.ref 22), none]) (f := fun v2 m1 => if v2 = 0 then some m1 else (if (mz_rd m1 22 4) = 0 then (some (mz_wr (mz_wr m1 22 4 2) 22 5 400)) else (if (mz_rd m1 22 5) ≤ 400 then some m1 else (some (mz_wr (mz_wr m1 22 4 2) 22 5 400))))) rfl (mz_fe (e := (7, .invokevirtual 42, 37, (94, 2, 15), [])) (by decide +kernel)) rfl (mz_inv_virt (N := 94) (k := 2) (t := 15) (st := [.int 400, .ref 23]) (rest := []) (b := 23) (vs := [.int 400]) (h := (mz_S0, m)) rfl rfl (Nat.le_of_ble_eq_true rfl) (Nat.le_of_ble_eq_true rfl) tg_23 (by decide)) (mz_dc_lt (n := 2) rfl (by decide +kernel) (by decide +kernel)) (by decide +kernel) (Or.inl (by decide +kernel)) (fun v2 m1 => ?_)
  refine q_if (c := .eq) (off := 7) (t := 17) (x := v2) (y := 0) (st := []) (mz_fe (e := (10, .ifCond .eq 7, 3, (0, 0, 0), [])) (by decide +kernel)) (fun _ => rfl) rfl rfl rfl (fun c4 => ?_) (fun c4 => ?_)
  · refine q_ic (v := 0) (mz_fe (e := (17, .iconst 0, 1, (0, 0, 0), [])) (by decide +kernel)) (by decide) ?_
    refine q_s (mz_fe (e := (18, .istore_n 1, 1, (0, 0, 0), [])) (by decide +kernel)) (pc' := 19) (L' := [some (.ref 22), some (.int 0)]) (st' := []) rfl ?_
    refine q_o (mz_fe (e := (19, .iload_n 1, 1, (0, 0, 0), [])) (by decide +kernel)) (pc2 := 20) rfl ?_
    refine q_o (mz_fe (e := (20, .ifCond .eq 32, 3, (0, 0, 0), [])) (by decide +kernel)) (pc2 := 52) rfl ?_
    exact q_retV (mz_fe (e := (52, .return_, 1, (0, 0, 0), [])) (by decide +kernel)) (by decide +kernel)
  · refine q_ic (v := 1) (mz_fe (e := (13, .iconst 1, 1, (0, 0, 0), [])) (by decide +kernel)) (by decide) ?_
    refine q_o (mz_fe (e := (14, .goto 4, 3, (0, 0, 0), [])) (by decide +kernel)) (pc2 := 18) rfl ?_
    refine q_s (mz_fe (e := (18, .istore_n 1, 1, (0, 0, 0), [])) (by decide +kernel)) (pc' := 19) (L' := [some (.ref 22), some (.int 1)]) (st' := []) rfl ?_
    refine q_o (mz_fe (e := (19, .iload_n 1, 1, (0, 0, 0), [])) (by decide +kernel)) (pc2 := 20) rfl ?_
    refine q_o (mz_fe (e := (20, .ifCond .eq 32, 3, (0, 0, 0), [])) (by decide +kernel)) (pc2 := 23) rfl ?_
    refine q_o (mz_fe (e := (23, .aload_n 0, 1, (0, 0, 0), [])) (by decide +kernel)) (pc2 := 24) rfl ?_
    refine q_getI (mz_fe (e := (24, .getfield 32, 27, (4, 4, 0), [])) (by decide +kernel)) rfl (by decide) tg_22 (by rw [ln_22]; decide) ?_
    refine q_if (c := .eq) (off := 13) (t := 40) (x := (mz_rd m1 22 4)) (y := 0) (st := []) (mz_fe (e := (27, .ifCond .eq 13, 3, (0, 0, 0), [])) (by decide +kernel)) (fun _ => rfl) rfl rfl rfl (fun c5 => ?_) (fun c5 => ?_)
    · refine q_o (mz_fe (e := (40, .aload_n 0, 1, (0, 0, 0), [])) (by decide +kernel)) (pc2 := 41) rfl ?_
      refine q_ic (v := 2) (mz_fe (e := (41, .iconst 2, 1, (0, 0, 0), [])) (by decide +kernel)) (by decide) ?_
      refine q_putI (mz_fe (e := (42, .putfield 32, 27, (4, 4, 0), [])) (by decide +kernel)) rfl tg_22 (by rw [ln_22]; decide) ?_
      refine q_o (mz_fe (e := (45, .aload_n 0, 1, (0, 0, 0), [])) (by decide +kernel)) (pc2 := 46) rfl ?_
      refine q_si (v := 400) (mz_fe (e := (46, .sipush 400, 3, (0, 0, 0), [])) (by decide +kernel)) (by decide) ?_
      refine q_putI (mz_fe (e := (49, .putfield 54, 31, (4, 5, 0), [])) (by decide +kernel)) rfl tg_22 (by rw [ln_22]; decide) ?_
      exact q_retV (mz_fe (e := (52, .return_, 1, (0, 0, 0), [])) (by decide +kernel)) (by decide +kernel)
    · refine q_o (mz_fe (e := (30, .aload_n 0, 1, (0, 0, 0), [])) (by decide +kernel)) (pc2 := 31) rfl ?_
      refine q_getI (mz_fe (e := (31, .getfield 54, 31, (4, 5, 0), [])) (by decide +kernel)) rfl (by decide) tg_22 (by rw [ln_22]; decide) ?_
      refine q_si (v := 400) (mz_fe (e := (34, .sipush 400, 3, (0, 0, 0), [])) (by decide +kernel)) (by decide) ?_
      refine q_if (c := .le) (off := 15) (t := 52) (x := (mz_rd m1 22 5)) (y := 400) (st := []) (mz_fe (e := (37, .if_icmp .le 15, 3, (0, 0, 0), [])) (by decide +kernel)) (fun _ => rfl) rfl rfl rfl (fun c6 => ?_) (fun c6 => ?_)
      · exact q_retV (mz_fe (e := (52, .return_, 1, (0, 0, 0), [])) (by decide +kernel)) (by decide +kernel)
      · refine q_o (mz_fe (e := (40, .aload_n 0, 1, (0, 0, 0), [])) (by decide +kernel)) (pc2 := 41) rfl ?_
        refine q_ic (v := 2) (mz_fe (e := (41, .iconst 2, 1, (0, 0, 0), [])) (by decide +kernel)) (by decide) ?_
        refine q_putI (mz_fe (e := (42, .putfield 32, 27, (4, 4, 0), [])) (by decide +kernel)) rfl tg_22 (by rw [ln_22]; decide) ?_
        refine q_o (mz_fe (e := (45, .aload_n 0, 1, (0, 0, 0), [])) (by decide +kernel)) (pc2 := 46) rfl ?_
        refine q_si (v := 400) (mz_fe (e := (46, .sipush 400, 3, (0, 0, 0), [])) (by decide +kernel)) (by decide) ?_
        refine q_putI (mz_fe (e := (49, .putfield 54, 31, (4, 5, 0), [])) (by decide +kernel)) rfl tg_22 (by rw [ln_22]; decide) ?_
        exact q_retV (mz_fe (e := (52, .return_, 1, (0, 0, 0), [])) (by decide +kernel)) (by decide +kernel)
set_option maxRecDepth 10000 in
theorem R_X4_faultPlace_eq (d : Nat)  (m : MzM)  : R_X4_faultPlace d  m = if (mz_rd m 22 4) = 0 then (if (mz_rd m 22 6) = 0 then (some ((-1), m)) else ((R_X9_placeOf d (mz_rd m 22 7) m).bind (fun u5 => some (u5.1, u5.2)))) else ((R_X9_placeOf d (mz_rd m 22 5) m).bind (fun u8 => some (u8.1, u8.2))) := by
  show mz_cI (mz_T d 47 0 (mz_en (mz_xl 47) [.ref 22]) [] m) = _
  rw [show mz_en (mz_xl 47) [.ref 22] = [some (.ref 22)] from by rw [show mz_xl 47 = 1 from by decide +kernel]; rfl]
  refine q_o (mz_fe (e := (0, .aload_n 0, 1, (0, 0, 0), [])) (by decide +kernel)) (pc2 := 1) rfl ?_
  refine q_getI (mz_fe (e := (1, .getfield 32, 27, (4, 4, 0), [])) (by decide +kernel)) rfl (by decide) tg_22 (by rw [ln_22]; decide) ?_
  refine q_if (c := .eq) (off := 15) (t := 19) (x := (mz_rd m 22 4)) (y := 0) (st := []) (mz_fe (e := (4, .ifCond .eq 15, 3, (0, 0, 0), [])) (by decide +kernel)) (fun _ => rfl) rfl rfl rfl (fun c1 => ?_) (fun c1 => ?_)
  · refine q_o (mz_fe (e := (19, .aload_n 0, 1, (0, 0, 0), [])) (by decide +kernel)) (pc2 := 20) rfl ?_
    refine q_getI (mz_fe (e := (20, .getfield 36, 28, (4, 6, 0), [])) (by decide +kernel)) rfl (by decide) tg_22 (by rw [ln_22]; decide) ?_
    refine q_if (c := .eq) (off := 17) (t := 40) (x := (mz_rd m 22 6)) (y := 0) (st := []) (mz_fe (e := (23, .ifCond .eq 17, 3, (0, 0, 0), [])) (by decide +kernel)) (fun _ => rfl) rfl rfl rfl (fun c2 => ?_) (fun c2 => ?_)
    · refine q_ic (v := (-1)) (mz_fe (e := (40, .iconst (-1), 1, (0, 0, 0), [])) (by decide +kernel)) (by decide) ?_
      exact q_retI (mz_fe (e := (41, .ireturn, 1, (0, 0, 0), [])) (by decide +kernel)) (by decide +kernel)
    · refine q_o (mz_fe (e := (26, .aload_n 0, 1, (0, 0, 0), [])) (by decide +kernel)) (pc2 := 27) rfl ?_
      refine q_getR (b := 23) (mz_fe (e := (27, .getfield 14, 25, (4, 0, 2), [])) (by decide +kernel)) rfl tg_22 (by rw [ln_22]; decide) (mz_rfS (by decide +kernel)) ?_
      refine q_o (mz_fe (e := (30, .aload_n 0, 1, (0, 0, 0), [])) (by decide +kernel)) (pc2 := 31) rfl ?_
      refine q_getI (mz_fe (e := (31, .getfield 60, 32, (4, 7, 0), [])) (by decide +kernel)) rfl (by decide) tg_22 (by rw [ln_22]; decide) ?_
      refine q_callI (N := 95) (vs := [.ref 23, .int (mz_rd m 22 7)]) (rest := []) (L' := [some (.ref 22)]) (f := fun v4 m3 => some (v4, m3)) rfl (mz_fe (e := (34, .invokevirtual 57, 40, (95, 2, 15), [])) (by decide +kernel)) rfl (mz_inv_virt (N := 95) (k := 2) (t := 15) (st := [.int (mz_rd m 22 7), .ref 23]) (rest := []) (b := 23) (vs := [.int (mz_rd m 22 7)]) (h := (mz_S0, m)) rfl rfl (Nat.le_of_ble_eq_true rfl) (Nat.le_of_ble_eq_true rfl) tg_23 (by decide)) (mz_dc_lt (n := 2) rfl (by decide +kernel) (by decide +kernel)) (by decide +kernel) (Or.inl (by decide +kernel)) (fun v4 m3 => ?_)
      refine q_o (mz_fe (e := (37, .goto 4, 3, (0, 0, 0), [])) (by decide +kernel)) (pc2 := 41) rfl ?_
      exact q_retI (mz_fe (e := (41, .ireturn, 1, (0, 0, 0), [])) (by decide +kernel)) (by decide +kernel)
  · refine q_o (mz_fe (e := (7, .aload_n 0, 1, (0, 0, 0), [])) (by decide +kernel)) (pc2 := 8) rfl ?_
    refine q_getR (b := 23) (mz_fe (e := (8, .getfield 14, 25, (4, 0, 2), [])) (by decide +kernel)) rfl tg_22 (by rw [ln_22]; decide) (mz_rfS (by decide +kernel)) ?_
    refine q_o (mz_fe (e := (11, .aload_n 0, 1, (0, 0, 0), [])) (by decide +kernel)) (pc2 := 12) rfl ?_
    refine q_getI (mz_fe (e := (12, .getfield 54, 31, (4, 5, 0), [])) (by decide +kernel)) rfl (by decide) tg_22 (by rw [ln_22]; decide) ?_
    refine q_callI (N := 95) (vs := [.ref 23, .int (mz_rd m 22 5)]) (rest := []) (L' := [some (.ref 22)]) (f := fun v7 m6 => some (v7, m6)) rfl (mz_fe (e := (15, .invokevirtual 57, 40, (95, 2, 15), [])) (by decide +kernel)) rfl (mz_inv_virt (N := 95) (k := 2) (t := 15) (st := [.int (mz_rd m 22 5), .ref 23]) (rest := []) (b := 23) (vs := [.int (mz_rd m 22 5)]) (h := (mz_S0, m)) rfl rfl (Nat.le_of_ble_eq_true rfl) (Nat.le_of_ble_eq_true rfl) tg_23 (by decide)) (mz_dc_lt (n := 2) rfl (by decide +kernel) (by decide +kernel)) (by decide +kernel) (Or.inl (by decide +kernel)) (fun v7 m6 => ?_)
    exact q_retI (mz_fe (e := (18, .ireturn, 1, (0, 0, 0), [])) (by decide +kernel)) (by decide +kernel)
set_option maxRecDepth 10000 in
theorem R_X4_take_eq (d : Nat)  (m : MzM)  : R_X4_take d  m = if ¬ (mz_rd m 22 4) = 0 then some m else (if (mz_rd (mz_wr m 22 2 ((mz_rd m 22 2) + 1)) 23 4) ≤ (mz_rd (mz_wr m 22 2 ((mz_rd m 22 2) + 1)) 22 2) then (some (mz_wr (mz_wr m 22 2 ((mz_rd m 22 2) + 1)) 22 3 0)) else (mz_g (mz_ok (mz_rd (mz_wr m 22 2 ((mz_rd m 22 2) + 1)) 22 2) 402) (some (mz_wr (mz_wr m 22 2 ((mz_rd m 22 2) + 1)) 22 3 (mz_rd (mz_wr m 22 2 ((mz_rd m 22 2) + 1)) 24 ((mz_rd (mz_wr m 22 2 ((mz_rd m 22 2) + 1)) 22 2) : Int32).toNatClampNeg))))) := by
  show mz_cV (mz_T d 48 0 (mz_en (mz_xl 48) [.ref 22]) [] m) = _
  rw [show mz_en (mz_xl 48) [.ref 22] = [some (.ref 22)] from by rw [show mz_xl 48 = 1 from by decide +kernel]; rfl]
  refine q_o (mz_fe (e := (0, .aload_n 0, 1, (0, 0, 0), [])) (by decide +kernel)) (pc2 := 1) rfl ?_
  refine q_getI (mz_fe (e := (1, .getfield 32, 27, (4, 4, 0), [])) (by decide +kernel)) rfl (by decide) tg_22 (by rw [ln_22]; decide) ?_
  refine q_if (c := .ne) (off := 47) (t := 51) (x := (mz_rd m 22 4)) (y := 0) (st := []) (mz_fe (e := (4, .ifCond .ne 47, 3, (0, 0, 0), [])) (by decide +kernel)) (fun _ => rfl) rfl rfl rfl (fun c1 => ?_) (fun c1 => ?_)
  · exact q_retV (mz_fe (e := (51, .return_, 1, (0, 0, 0), [])) (by decide +kernel)) (by decide +kernel)
  · refine q_o (mz_fe (e := (7, .aload_n 0, 1, (0, 0, 0), [])) (by decide +kernel)) (pc2 := 8) rfl ?_
    refine q_o (mz_fe (e := (8, .dup, 1, (0, 0, 0), [])) (by decide +kernel)) (pc2 := 9) rfl ?_
    refine q_getI (mz_fe (e := (9, .getfield 39, 29, (4, 2, 0), [])) (by decide +kernel)) rfl (by decide) tg_22 (by rw [ln_22]; decide) ?_
    refine q_ic (v := 1) (mz_fe (e := (12, .iconst 1, 1, (0, 0, 0), [])) (by decide +kernel)) (by decide) ?_
    refine q_o (mz_fe (e := (13, .iadd, 1, (0, 0, 0), [])) (by decide +kernel)) (pc2 := 14) rfl ?_
    refine q_putI (mz_fe (e := (14, .putfield 39, 29, (4, 2, 0), [])) (by decide +kernel)) rfl tg_22 (by rw [ln_22]; decide) ?_
    refine q_o (mz_fe (e := (17, .aload_n 0, 1, (0, 0, 0), [])) (by decide +kernel)) (pc2 := 18) rfl ?_
    refine q_o (mz_fe (e := (18, .aload_n 0, 1, (0, 0, 0), [])) (by decide +kernel)) (pc2 := 19) rfl ?_
    refine q_getI (mz_fe (e := (19, .getfield 39, 29, (4, 2, 0), [])) (by decide +kernel)) rfl (by decide) tg_22 (by rw [ln_22]; decide) ?_
    refine q_o (mz_fe (e := (22, .aload_n 0, 1, (0, 0, 0), [])) (by decide +kernel)) (pc2 := 23) rfl ?_
    refine q_getR (b := 23) (mz_fe (e := (23, .getfield 14, 25, (4, 0, 2), [])) (by decide +kernel)) rfl tg_22 (by rw [ln_22]; decide) (mz_rfS (by decide +kernel)) ?_
    refine q_getI (mz_fe (e := (26, .getfield 63, 33, (9, 4, 0), [])) (by decide +kernel)) rfl (by decide) tg_23 (by rw [ln_23]; decide) ?_
    refine q_if (c := .ge) (off := 18) (t := 47) (x := (mz_rd (mz_wr m 22 2 ((mz_rd m 22 2) + 1)) 22 2)) (y := (mz_rd (mz_wr m 22 2 ((mz_rd m 22 2) + 1)) 23 4)) (st := [.ref 22]) (mz_fe (e := (29, .if_icmp .ge 18, 3, (0, 0, 0), [])) (by decide +kernel)) (fun _ => rfl) rfl rfl rfl (fun c2 => ?_) (fun c2 => ?_)
    · refine q_ic (v := 0) (mz_fe (e := (47, .iconst 0, 1, (0, 0, 0), [])) (by decide +kernel)) (by decide) ?_
      refine q_putI (mz_fe (e := (48, .putfield 46, 30, (4, 3, 0), [])) (by decide +kernel)) rfl tg_22 (by rw [ln_22]; decide) ?_
      exact q_retV (mz_fe (e := (51, .return_, 1, (0, 0, 0), [])) (by decide +kernel)) (by decide +kernel)
    · refine q_o (mz_fe (e := (32, .aload_n 0, 1, (0, 0, 0), [])) (by decide +kernel)) (pc2 := 33) rfl ?_
      refine q_getR (b := 23) (mz_fe (e := (33, .getfield 14, 25, (4, 0, 2), [])) (by decide +kernel)) rfl tg_22 (by rw [ln_22]; decide) (mz_rfS (by decide +kernel)) ?_
      refine q_getR (b := 24) (mz_fe (e := (36, .getfield 66, 34, (9, 1, 2), [])) (by decide +kernel)) rfl tg_23 (by rw [ln_23]; decide) (mz_rfS (by decide +kernel)) ?_
      refine q_o (mz_fe (e := (39, .aload_n 0, 1, (0, 0, 0), [])) (by decide +kernel)) (pc2 := 40) rfl ?_
      refine q_getI (mz_fe (e := (40, .getfield 39, 29, (4, 2, 0), [])) (by decide +kernel)) rfl (by decide) tg_22 (by rw [ln_22]; decide) ?_
      refine q_baldg rfl (mz_fe (e := (43, .baload, 1, (0, 0, 0), [])) (by decide +kernel)) rfl (Or.inr tg_24) ln_24 (fun g3 => ?_)
      refine q_o (mz_fe (e := (44, .goto 4, 3, (0, 0, 0), [])) (by decide +kernel)) (pc2 := 48) rfl ?_
      refine q_putI (mz_fe (e := (48, .putfield 46, 30, (4, 3, 0), [])) (by decide +kernel)) rfl tg_22 (by rw [ln_22]; decide) ?_
      exact q_retV (mz_fe (e := (51, .return_, 1, (0, 0, 0), [])) (by decide +kernel)) (by decide +kernel)
set_option maxRecDepth 10000 in
theorem R_X4_expect_eq (d : Nat) (x0 : Int32) (m : MzM)  : R_X4_expect d x0 m = if ¬ (mz_rd m 22 3) = x0 then ((R_X4_fail d 1 m).bind (fun m2 => some m2)) else ((R_X4_take d  m).bind (fun m5 => some m5)) := by
  show mz_cV (mz_T d 49 0 (mz_en (mz_xl 49) [.ref 22, .int x0]) [] m) = _
  rw [show mz_en (mz_xl 49) [.ref 22, .int x0] = [some (.ref 22), some (.int x0)] from by rw [show mz_xl 49 = 2 from by decide +kernel]; rfl]
  refine q_o (mz_fe (e := (0, .aload_n 0, 1, (0, 0, 0), [])) (by decide +kernel)) (pc2 := 1) rfl ?_
  refine q_getI (mz_fe (e := (1, .getfield 46, 30, (4, 3, 0), [])) (by decide +kernel)) rfl (by decide) tg_22 (by rw [ln_22]; decide) ?_
  refine q_o (mz_fe (e := (4, .iload_n 1, 1, (0, 0, 0), [])) (by decide +kernel)) (pc2 := 5) rfl ?_
  refine q_if (c := .ne) (off := 10) (t := 15) (x := (mz_rd m 22 3)) (y := x0) (st := []) (mz_fe (e := (5, .if_icmp .ne 10, 3, (0, 0, 0), [])) (by decide +kernel)) (fun _ => rfl) rfl rfl rfl (fun c1 => ?_) (fun c1 => ?_)
  · refine q_o (mz_fe (e := (15, .aload_n 0, 1, (0, 0, 0), [])) (by decide +kernel)) (pc2 := 16) rfl ?_
    refine q_ic (v := 1) (mz_fe (e := (16, .iconst 1, 1, (0, 0, 0), [])) (by decide +kernel)) (by decide) ?_
    refine q_callV (N := 50) (vs := [.ref 22, .int 1]) (rest := []) (L' := [some (.ref 22), some (.int x0)]) rfl (mz_fe (e := (17, .invokevirtual 73, 42, (50, 2, 10), [])) (by decide +kernel)) rfl (mz_inv_virt (N := 50) (k := 2) (t := 10) (st := [.int 1, .ref 22]) (rest := []) (b := 22) (vs := [.int 1]) (h := (mz_S0, m)) rfl rfl (Nat.le_of_ble_eq_true rfl) (Nat.le_of_ble_eq_true rfl) tg_22 (by decide)) (mz_dc_lt (n := 2) rfl (by decide +kernel) (by decide +kernel)) (by decide +kernel) (by decide +kernel) (fun m2 => ?_)
    exact q_retV (mz_fe (e := (20, .return_, 1, (0, 0, 0), [])) (by decide +kernel)) (by decide +kernel)
  · refine q_o (mz_fe (e := (8, .aload_n 0, 1, (0, 0, 0), [])) (by decide +kernel)) (pc2 := 9) rfl ?_
    refine q_callV (N := 48) (vs := [.ref 22]) (rest := []) (L' := [some (.ref 22), some (.int x0)]) rfl (mz_fe (e := (9, .invokevirtual 70, 41, (48, 1, 10), [])) (by decide +kernel)) rfl (mz_inv_virt (N := 48) (k := 1) (t := 10) (st := [.ref 22]) (rest := []) (b := 22) (vs := []) (h := (mz_S0, m)) rfl rfl (Nat.le_of_ble_eq_true rfl) (Nat.le_of_ble_eq_true rfl) tg_22 (by decide)) (mz_dc_lt (n := 1) rfl (by decide +kernel) (by decide +kernel)) (by decide +kernel) (by decide +kernel) (fun m5 => ?_)
    refine q_o (mz_fe (e := (12, .goto 8, 3, (0, 0, 0), [])) (by decide +kernel)) (pc2 := 20) rfl ?_
    exact q_retV (mz_fe (e := (20, .return_, 1, (0, 0, 0), [])) (by decide +kernel)) (by decide +kernel)
set_option maxRecDepth 10000 in
theorem R_X4_fail_eq (d : Nat) (x0 : Int32) (m : MzM)  : R_X4_fail d x0 m = if ¬ (mz_rd m 22 4) = 0 then (some (mz_wr m 22 3 0)) else (some (mz_wr (mz_wr (mz_wr m 22 4 x0) 22 5 (mz_rd (mz_wr m 22 4 x0) 22 2)) 22 3 0)) := by
  show mz_cV (mz_T d 50 0 (mz_en (mz_xl 50) [.ref 22, .int x0]) [] m) = _
  rw [show mz_en (mz_xl 50) [.ref 22, .int x0] = [some (.ref 22), some (.int x0)] from by rw [show mz_xl 50 = 2 from by decide +kernel]; rfl]
  refine q_o (mz_fe (e := (0, .aload_n 0, 1, (0, 0, 0), [])) (by decide +kernel)) (pc2 := 1) rfl ?_
  refine q_getI (mz_fe (e := (1, .getfield 32, 27, (4, 4, 0), [])) (by decide +kernel)) rfl (by decide) tg_22 (by rw [ln_22]; decide) ?_
  refine q_if (c := .ne) (off := 16) (t := 20) (x := (mz_rd m 22 4)) (y := 0) (st := []) (mz_fe (e := (4, .ifCond .ne 16, 3, (0, 0, 0), [])) (by decide +kernel)) (fun _ => rfl) rfl rfl rfl (fun c1 => ?_) (fun c1 => ?_)
  · refine q_o (mz_fe (e := (20, .aload_n 0, 1, (0, 0, 0), [])) (by decide +kernel)) (pc2 := 21) rfl ?_
    refine q_ic (v := 0) (mz_fe (e := (21, .iconst 0, 1, (0, 0, 0), [])) (by decide +kernel)) (by decide) ?_
    refine q_putI (mz_fe (e := (22, .putfield 46, 30, (4, 3, 0), [])) (by decide +kernel)) rfl tg_22 (by rw [ln_22]; decide) ?_
    exact q_retV (mz_fe (e := (25, .return_, 1, (0, 0, 0), [])) (by decide +kernel)) (by decide +kernel)
  · refine q_o (mz_fe (e := (7, .aload_n 0, 1, (0, 0, 0), [])) (by decide +kernel)) (pc2 := 8) rfl ?_
    refine q_o (mz_fe (e := (8, .iload_n 1, 1, (0, 0, 0), [])) (by decide +kernel)) (pc2 := 9) rfl ?_
    refine q_putI (mz_fe (e := (9, .putfield 32, 27, (4, 4, 0), [])) (by decide +kernel)) rfl tg_22 (by rw [ln_22]; decide) ?_
    refine q_o (mz_fe (e := (12, .aload_n 0, 1, (0, 0, 0), [])) (by decide +kernel)) (pc2 := 13) rfl ?_
    refine q_o (mz_fe (e := (13, .aload_n 0, 1, (0, 0, 0), [])) (by decide +kernel)) (pc2 := 14) rfl ?_
    refine q_getI (mz_fe (e := (14, .getfield 39, 29, (4, 2, 0), [])) (by decide +kernel)) rfl (by decide) tg_22 (by rw [ln_22]; decide) ?_
    refine q_putI (mz_fe (e := (17, .putfield 54, 31, (4, 5, 0), [])) (by decide +kernel)) rfl tg_22 (by rw [ln_22]; decide) ?_
    refine q_o (mz_fe (e := (20, .aload_n 0, 1, (0, 0, 0), [])) (by decide +kernel)) (pc2 := 21) rfl ?_
    refine q_ic (v := 0) (mz_fe (e := (21, .iconst 0, 1, (0, 0, 0), [])) (by decide +kernel)) (by decide) ?_
    refine q_putI (mz_fe (e := (22, .putfield 46, 30, (4, 3, 0), [])) (by decide +kernel)) rfl tg_22 (by rw [ln_22]; decide) ?_
    exact q_retV (mz_fe (e := (25, .return_, 1, (0, 0, 0), [])) (by decide +kernel)) (by decide +kernel)
set_option maxRecDepth 10000 in
theorem R_X4_failLater_eq (d : Nat) (x0 : Int32) (m : MzM)  : R_X4_failLater d x0 m = if ¬ (mz_rd m 22 6) = 0 then some m else (some (mz_wr (mz_wr m 22 6 x0) 22 7 (mz_rd (mz_wr m 22 6 x0) 22 2))) := by
  show mz_cV (mz_T d 51 0 (mz_en (mz_xl 51) [.ref 22, .int x0]) [] m) = _
  rw [show mz_en (mz_xl 51) [.ref 22, .int x0] = [some (.ref 22), some (.int x0)] from by rw [show mz_xl 51 = 2 from by decide +kernel]; rfl]
  refine q_o (mz_fe (e := (0, .aload_n 0, 1, (0, 0, 0), [])) (by decide +kernel)) (pc2 := 1) rfl ?_
  refine q_getI (mz_fe (e := (1, .getfield 36, 28, (4, 6, 0), [])) (by decide +kernel)) rfl (by decide) tg_22 (by rw [ln_22]; decide) ?_
  refine q_if (c := .ne) (off := 16) (t := 20) (x := (mz_rd m 22 6)) (y := 0) (st := []) (mz_fe (e := (4, .ifCond .ne 16, 3, (0, 0, 0), [])) (by decide +kernel)) (fun _ => rfl) rfl rfl rfl (fun c1 => ?_) (fun c1 => ?_)
  · exact q_retV (mz_fe (e := (20, .return_, 1, (0, 0, 0), [])) (by decide +kernel)) (by decide +kernel)
  · refine q_o (mz_fe (e := (7, .aload_n 0, 1, (0, 0, 0), [])) (by decide +kernel)) (pc2 := 8) rfl ?_
    refine q_o (mz_fe (e := (8, .iload_n 1, 1, (0, 0, 0), [])) (by decide +kernel)) (pc2 := 9) rfl ?_
    refine q_putI (mz_fe (e := (9, .putfield 36, 28, (4, 6, 0), [])) (by decide +kernel)) rfl tg_22 (by rw [ln_22]; decide) ?_
    refine q_o (mz_fe (e := (12, .aload_n 0, 1, (0, 0, 0), [])) (by decide +kernel)) (pc2 := 13) rfl ?_
    refine q_o (mz_fe (e := (13, .aload_n 0, 1, (0, 0, 0), [])) (by decide +kernel)) (pc2 := 14) rfl ?_
    refine q_getI (mz_fe (e := (14, .getfield 39, 29, (4, 2, 0), [])) (by decide +kernel)) rfl (by decide) tg_22 (by rw [ln_22]; decide) ?_
    refine q_putI (mz_fe (e := (17, .putfield 60, 32, (4, 7, 0), [])) (by decide +kernel)) rfl tg_22 (by rw [ln_22]; decide) ?_
    exact q_retV (mz_fe (e := (20, .return_, 1, (0, 0, 0), [])) (by decide +kernel)) (by decide +kernel)
set_option maxRecDepth 10000 in
theorem R_X4_readTell_eq (d : Nat)  (m : MzM)  : R_X4_readTell d  m = if (mz_rd m 22 3) < 15 then (if (mz_rd m 22 3) = 13 then ((R_X4_readPerson d  m).bind (fun m3 => (R_X4_expect d 4 m3).bind (fun m6 => some m6))) else if (mz_rd m 22 3) = 14 then ((R_X4_readSuit d  m).bind (fun m10 => (R_X4_expect d 4 m10).bind (fun m13 => some m13))) else if (mz_rd m 22 3) = 19 then ((R_X4_take d  m).bind (fun m17 => (R_X4_readInt d 1 9 m17).bind (fun u22 => (R_X4_expect d 4 (mz_wr u22.2 13 6 u22.1)).bind (fun m23 => some m23)))) else if (mz_rd m 22 3) = 20 then ((R_X4_take d  m).bind (fun m27 => (R_X4_readInt d 0 100 m27).bind (fun u32 => (R_X4_expect d 4 (mz_wr u32.2 13 7 u32.1)).bind (fun m33 => some m33)))) else if (mz_rd m 22 3) = 21 then ((R_X4_take d  m).bind (fun m37 => (R_X4_readInt d 0 9999 m37).bind (fun u42 => (R_X4_expect d 4 (mz_wr u42.2 13 8 u42.1)).bind (fun m43 => some m43)))) else ((R_X4_fail d 1 m).bind (fun m46 => (R_X4_expect d 4 m46).bind (fun m49 => some m49)))) else (if (18 : Int32) < (mz_rd m 22 3) then (if (mz_rd m 22 3) = 13 then ((R_X4_readPerson d  m).bind (fun m54 => (R_X4_expect d 4 m54).bind (fun m57 => some m57))) else if (mz_rd m 22 3) = 14 then ((R_X4_readSuit d  m).bind (fun m61 => (R_X4_expect d 4 m61).bind (fun m64 => some m64))) else if (mz_rd m 22 3) = 19 then ((R_X4_take d  m).bind (fun m68 => (R_X4_readInt d 1 9 m68).bind (fun u73 => (R_X4_expect d 4 (mz_wr u73.2 13 6 u73.1)).bind (fun m74 => some m74)))) else if (mz_rd m 22 3) = 20 then ((R_X4_take d  m).bind (fun m78 => (R_X4_readInt d 0 100 m78).bind (fun u83 => (R_X4_expect d 4 (mz_wr u83.2 13 7 u83.1)).bind (fun m84 => some m84)))) else if (mz_rd m 22 3) = 21 then ((R_X4_take d  m).bind (fun m88 => (R_X4_readInt d 0 9999 m88).bind (fun u93 => (R_X4_expect d 4 (mz_wr u93.2 13 8 u93.1)).bind (fun m94 => some m94)))) else ((R_X4_fail d 1 m).bind (fun m97 => (R_X4_expect d 4 m97).bind (fun m100 => some m100)))) else ((R_X4_readLaw d ((mz_rd m 22 3) - 15) m).bind (fun m103 => some m103))) := by
  show mz_cV (mz_T d 52 0 (mz_en (mz_xl 52) [.ref 22]) [] m) = _
  rw [show mz_en (mz_xl 52) [.ref 22] = [some (.ref 22)] from by rw [show mz_xl 52 = 1 from by decide +kernel]; rfl]
  refine q_o (mz_fe (e := (0, .aload_n 0, 1, (0, 0, 0), [])) (by decide +kernel)) (pc2 := 1) rfl ?_
  refine q_getI (mz_fe (e := (1, .getfield 46, 30, (4, 3, 0), [])) (by decide +kernel)) rfl (by decide) tg_22 (by rw [ln_22]; decide) ?_
  refine q_bi (v := 15) (mz_fe (e := (4, .bipush 15, 2, (0, 0, 0), [])) (by decide +kernel)) (by decide) ?_
  refine q_if (c := .lt) (off := 24) (t := 30) (x := (mz_rd m 22 3)) (y := 15) (st := []) (mz_fe (e := (6, .if_icmp .lt 24, 3, (0, 0, 0), [])) (by decide +kernel)) (fun _ => rfl) rfl rfl rfl (fun c1 => ?_) (fun c1 => ?_)
  · refine q_o (mz_fe (e := (30, .aload_n 0, 1, (0, 0, 0), [])) (by decide +kernel)) (pc2 := 31) rfl ?_
    refine q_getI (mz_fe (e := (31, .getfield 46, 30, (4, 3, 0), [])) (by decide +kernel)) rfl (by decide) tg_22 (by rw [ln_22]; decide) ?_
    refine mz_ite (P := (mz_rd m 22 3) = 13) (fun c2 => ?_) (fun c2 => ?_)
    · refine q_sw (t := 84) (st := []) (mz_fe (e := (34, .tableswitch 128 13 21 #[50, 57, 128, 128, 128, 128, 64, 85, 106], 50, (0, 0, 0), [])) (by decide +kernel)) rfl (by rw [c2]; decide +kernel) ?_
      refine q_o (mz_fe (e := (84, .aload_n 0, 1, (0, 0, 0), [])) (by decide +kernel)) (pc2 := 85) rfl ?_
      refine q_callV (N := 53) (vs := [.ref 22]) (rest := []) (L' := [some (.ref 22)]) rfl (mz_fe (e := (85, .invokevirtual 80, 44, (53, 1, 10), [])) (by decide +kernel)) rfl (mz_inv_virt (N := 53) (k := 1) (t := 10) (st := [.ref 22]) (rest := []) (b := 22) (vs := []) (h := (mz_S0, m)) rfl rfl (Nat.le_of_ble_eq_true rfl) (Nat.le_of_ble_eq_true rfl) tg_22 (by decide)) (mz_dc_lt (n := 1) rfl (by decide +kernel) (by decide +kernel)) (by decide +kernel) (by decide +kernel) (fun m3 => ?_)
      refine q_o (mz_fe (e := (88, .goto 79, 3, (0, 0, 0), [])) (by decide +kernel)) (pc2 := 167) rfl ?_
      refine q_o (mz_fe (e := (167, .aload_n 0, 1, (0, 0, 0), [])) (by decide +kernel)) (pc2 := 168) rfl ?_
      refine q_ic (v := 4) (mz_fe (e := (168, .iconst 4, 1, (0, 0, 0), [])) (by decide +kernel)) (by decide) ?_
      refine q_callV (N := 49) (vs := [.ref 22, .int 4]) (rest := []) (L' := [some (.ref 22)]) rfl (mz_fe (e := (169, .invokevirtual 99, 47, (49, 2, 10), [])) (by decide +kernel)) rfl (mz_inv_virt (N := 49) (k := 2) (t := 10) (st := [.int 4, .ref 22]) (rest := []) (b := 22) (vs := [.int 4]) (h := (mz_S0, m3)) rfl rfl (Nat.le_of_ble_eq_true rfl) (Nat.le_of_ble_eq_true rfl) tg_22 (by decide)) (mz_dc_lt (n := 2) rfl (by decide +kernel) (by decide +kernel)) (by decide +kernel) (by decide +kernel) (fun m6 => ?_)
      exact q_retV (mz_fe (e := (172, .return_, 1, (0, 0, 0), [])) (by decide +kernel)) (by decide +kernel)
    refine mz_ite (P := (mz_rd m 22 3) = 14) (fun c9 => ?_) (fun c9 => ?_)
    · refine q_sw (t := 91) (st := []) (mz_fe (e := (34, .tableswitch 128 13 21 #[50, 57, 128, 128, 128, 128, 64, 85, 106], 50, (0, 0, 0), [])) (by decide +kernel)) rfl (by rw [c9]; decide +kernel) ?_
      refine q_o (mz_fe (e := (91, .aload_n 0, 1, (0, 0, 0), [])) (by decide +kernel)) (pc2 := 92) rfl ?_
      refine q_callV (N := 54) (vs := [.ref 22]) (rest := []) (L' := [some (.ref 22)]) rfl (mz_fe (e := (92, .invokevirtual 83, 45, (54, 1, 10), [])) (by decide +kernel)) rfl (mz_inv_virt (N := 54) (k := 1) (t := 10) (st := [.ref 22]) (rest := []) (b := 22) (vs := []) (h := (mz_S0, m)) rfl rfl (Nat.le_of_ble_eq_true rfl) (Nat.le_of_ble_eq_true rfl) tg_22 (by decide)) (mz_dc_lt (n := 1) rfl (by decide +kernel) (by decide +kernel)) (by decide +kernel) (by decide +kernel) (fun m10 => ?_)
      refine q_o (mz_fe (e := (95, .goto 72, 3, (0, 0, 0), [])) (by decide +kernel)) (pc2 := 167) rfl ?_
      refine q_o (mz_fe (e := (167, .aload_n 0, 1, (0, 0, 0), [])) (by decide +kernel)) (pc2 := 168) rfl ?_
      refine q_ic (v := 4) (mz_fe (e := (168, .iconst 4, 1, (0, 0, 0), [])) (by decide +kernel)) (by decide) ?_
      refine q_callV (N := 49) (vs := [.ref 22, .int 4]) (rest := []) (L' := [some (.ref 22)]) rfl (mz_fe (e := (169, .invokevirtual 99, 47, (49, 2, 10), [])) (by decide +kernel)) rfl (mz_inv_virt (N := 49) (k := 2) (t := 10) (st := [.int 4, .ref 22]) (rest := []) (b := 22) (vs := [.int 4]) (h := (mz_S0, m10)) rfl rfl (Nat.le_of_ble_eq_true rfl) (Nat.le_of_ble_eq_true rfl) tg_22 (by decide)) (mz_dc_lt (n := 2) rfl (by decide +kernel) (by decide +kernel)) (by decide +kernel) (by decide +kernel) (fun m13 => ?_)
      exact q_retV (mz_fe (e := (172, .return_, 1, (0, 0, 0), [])) (by decide +kernel)) (by decide +kernel)
    refine mz_ite (P := (mz_rd m 22 3) = 19) (fun c16 => ?_) (fun c16 => ?_)
    · refine q_sw (t := 98) (st := []) (mz_fe (e := (34, .tableswitch 128 13 21 #[50, 57, 128, 128, 128, 128, 64, 85, 106], 50, (0, 0, 0), [])) (by decide +kernel)) rfl (by rw [c16]; decide +kernel) ?_
      refine q_o (mz_fe (e := (98, .aload_n 0, 1, (0, 0, 0), [])) (by decide +kernel)) (pc2 := 99) rfl ?_
      refine q_callV (N := 48) (vs := [.ref 22]) (rest := []) (L' := [some (.ref 22)]) rfl (mz_fe (e := (99, .invokevirtual 70, 41, (48, 1, 10), [])) (by decide +kernel)) rfl (mz_inv_virt (N := 48) (k := 1) (t := 10) (st := [.ref 22]) (rest := []) (b := 22) (vs := []) (h := (mz_S0, m)) rfl rfl (Nat.le_of_ble_eq_true rfl) (Nat.le_of_ble_eq_true rfl) tg_22 (by decide)) (mz_dc_lt (n := 1) rfl (by decide +kernel) (by decide +kernel)) (by decide +kernel) (by decide +kernel) (fun m17 => ?_)
      refine q_o (mz_fe (e := (102, .aload_n 0, 1, (0, 0, 0), [])) (by decide +kernel)) (pc2 := 103) rfl ?_
      refine q_getR (b := 13) (mz_fe (e := (103, .getfield 20, 26, (4, 1, 2), [])) (by decide +kernel)) rfl tg_22 (by rw [ln_22]; decide) (mz_rfS (by decide +kernel)) ?_
      refine q_o (mz_fe (e := (106, .aload_n 0, 1, (0, 0, 0), [])) (by decide +kernel)) (pc2 := 107) rfl ?_
      refine q_ic (v := 1) (mz_fe (e := (107, .iconst 1, 1, (0, 0, 0), [])) (by decide +kernel)) (by decide) ?_
      refine q_bi (v := 9) (mz_fe (e := (108, .bipush 9, 2, (0, 0, 0), [])) (by decide +kernel)) (by decide) ?_
      refine q_callI (N := 56) (vs := [.ref 22, .int 1, .int 9]) (rest := [.ref 13]) (L' := [some (.ref 22)]) (f := fun v21 m20 => (R_X4_expect d 4 (mz_wr m20 13 6 v21)).bind (fun m23 => some m23)) rfl (mz_fe (e := (110, .invokevirtual 86, 46, (56, 3, 10), [])) (by decide +kernel)) rfl (mz_inv_virt (N := 56) (k := 3) (t := 10) (st := [.int 9, .int 1, .ref 22, .ref 13]) (rest := [.ref 13]) (b := 22) (vs := [.int 1, .int 9]) (h := (mz_S0, m17)) rfl rfl (Nat.le_of_ble_eq_true rfl) (Nat.le_of_ble_eq_true rfl) tg_22 (by decide)) (mz_dc_lt (n := 3) rfl (by decide +kernel) (by decide +kernel)) (by decide +kernel) (Or.inl (by decide +kernel)) (fun v21 m20 => ?_)
      refine q_putI (mz_fe (e := (113, .putfield 90, 35, (8, 6, 0), [])) (by decide +kernel)) rfl tg_13 (by rw [ln_13]; decide) ?_
      refine q_o (mz_fe (e := (116, .goto 51, 3, (0, 0, 0), [])) (by decide +kernel)) (pc2 := 167) rfl ?_
      refine q_o (mz_fe (e := (167, .aload_n 0, 1, (0, 0, 0), [])) (by decide +kernel)) (pc2 := 168) rfl ?_
      refine q_ic (v := 4) (mz_fe (e := (168, .iconst 4, 1, (0, 0, 0), [])) (by decide +kernel)) (by decide) ?_
      refine q_callV (N := 49) (vs := [.ref 22, .int 4]) (rest := []) (L' := [some (.ref 22)]) rfl (mz_fe (e := (169, .invokevirtual 99, 47, (49, 2, 10), [])) (by decide +kernel)) rfl (mz_inv_virt (N := 49) (k := 2) (t := 10) (st := [.int 4, .ref 22]) (rest := []) (b := 22) (vs := [.int 4]) (h := (mz_S0, (mz_wr m20 13 6 v21))) rfl rfl (Nat.le_of_ble_eq_true rfl) (Nat.le_of_ble_eq_true rfl) tg_22 (by decide)) (mz_dc_lt (n := 2) rfl (by decide +kernel) (by decide +kernel)) (by decide +kernel) (by decide +kernel) (fun m23 => ?_)
      exact q_retV (mz_fe (e := (172, .return_, 1, (0, 0, 0), [])) (by decide +kernel)) (by decide +kernel)
    refine mz_ite (P := (mz_rd m 22 3) = 20) (fun c26 => ?_) (fun c26 => ?_)
    · refine q_sw (t := 119) (st := []) (mz_fe (e := (34, .tableswitch 128 13 21 #[50, 57, 128, 128, 128, 128, 64, 85, 106], 50, (0, 0, 0), [])) (by decide +kernel)) rfl (by rw [c26]; decide +kernel) ?_
      refine q_o (mz_fe (e := (119, .aload_n 0, 1, (0, 0, 0), [])) (by decide +kernel)) (pc2 := 120) rfl ?_
      refine q_callV (N := 48) (vs := [.ref 22]) (rest := []) (L' := [some (.ref 22)]) rfl (mz_fe (e := (120, .invokevirtual 70, 41, (48, 1, 10), [])) (by decide +kernel)) rfl (mz_inv_virt (N := 48) (k := 1) (t := 10) (st := [.ref 22]) (rest := []) (b := 22) (vs := []) (h := (mz_S0, m)) rfl rfl (Nat.le_of_ble_eq_true rfl) (Nat.le_of_ble_eq_true rfl) tg_22 (by decide)) (mz_dc_lt (n := 1) rfl (by decide +kernel) (by decide +kernel)) (by decide +kernel) (by decide +kernel) (fun m27 => ?_)
      refine q_o (mz_fe (e := (123, .aload_n 0, 1, (0, 0, 0), [])) (by decide +kernel)) (pc2 := 124) rfl ?_
      refine q_getR (b := 13) (mz_fe (e := (124, .getfield 20, 26, (4, 1, 2), [])) (by decide +kernel)) rfl tg_22 (by rw [ln_22]; decide) (mz_rfS (by decide +kernel)) ?_
      refine q_o (mz_fe (e := (127, .aload_n 0, 1, (0, 0, 0), [])) (by decide +kernel)) (pc2 := 128) rfl ?_
      refine q_ic (v := 0) (mz_fe (e := (128, .iconst 0, 1, (0, 0, 0), [])) (by decide +kernel)) (by decide) ?_
      refine q_bi (v := 100) (mz_fe (e := (129, .bipush 100, 2, (0, 0, 0), [])) (by decide +kernel)) (by decide) ?_
      refine q_callI (N := 56) (vs := [.ref 22, .int 0, .int 100]) (rest := [.ref 13]) (L' := [some (.ref 22)]) (f := fun v31 m30 => (R_X4_expect d 4 (mz_wr m30 13 7 v31)).bind (fun m33 => some m33)) rfl (mz_fe (e := (131, .invokevirtual 86, 46, (56, 3, 10), [])) (by decide +kernel)) rfl (mz_inv_virt (N := 56) (k := 3) (t := 10) (st := [.int 100, .int 0, .ref 22, .ref 13]) (rest := [.ref 13]) (b := 22) (vs := [.int 0, .int 100]) (h := (mz_S0, m27)) rfl rfl (Nat.le_of_ble_eq_true rfl) (Nat.le_of_ble_eq_true rfl) tg_22 (by decide)) (mz_dc_lt (n := 3) rfl (by decide +kernel) (by decide +kernel)) (by decide +kernel) (Or.inl (by decide +kernel)) (fun v31 m30 => ?_)
      refine q_putI (mz_fe (e := (134, .putfield 93, 36, (8, 7, 0), [])) (by decide +kernel)) rfl tg_13 (by rw [ln_13]; decide) ?_
      refine q_o (mz_fe (e := (137, .goto 30, 3, (0, 0, 0), [])) (by decide +kernel)) (pc2 := 167) rfl ?_
      refine q_o (mz_fe (e := (167, .aload_n 0, 1, (0, 0, 0), [])) (by decide +kernel)) (pc2 := 168) rfl ?_
      refine q_ic (v := 4) (mz_fe (e := (168, .iconst 4, 1, (0, 0, 0), [])) (by decide +kernel)) (by decide) ?_
      refine q_callV (N := 49) (vs := [.ref 22, .int 4]) (rest := []) (L' := [some (.ref 22)]) rfl (mz_fe (e := (169, .invokevirtual 99, 47, (49, 2, 10), [])) (by decide +kernel)) rfl (mz_inv_virt (N := 49) (k := 2) (t := 10) (st := [.int 4, .ref 22]) (rest := []) (b := 22) (vs := [.int 4]) (h := (mz_S0, (mz_wr m30 13 7 v31))) rfl rfl (Nat.le_of_ble_eq_true rfl) (Nat.le_of_ble_eq_true rfl) tg_22 (by decide)) (mz_dc_lt (n := 2) rfl (by decide +kernel) (by decide +kernel)) (by decide +kernel) (by decide +kernel) (fun m33 => ?_)
      exact q_retV (mz_fe (e := (172, .return_, 1, (0, 0, 0), [])) (by decide +kernel)) (by decide +kernel)
    refine mz_ite (P := (mz_rd m 22 3) = 21) (fun c36 => ?_) (fun c36 => ?_)
    · refine q_sw (t := 140) (st := []) (mz_fe (e := (34, .tableswitch 128 13 21 #[50, 57, 128, 128, 128, 128, 64, 85, 106], 50, (0, 0, 0), [])) (by decide +kernel)) rfl (by rw [c36]; decide +kernel) ?_
      refine q_o (mz_fe (e := (140, .aload_n 0, 1, (0, 0, 0), [])) (by decide +kernel)) (pc2 := 141) rfl ?_
      refine q_callV (N := 48) (vs := [.ref 22]) (rest := []) (L' := [some (.ref 22)]) rfl (mz_fe (e := (141, .invokevirtual 70, 41, (48, 1, 10), [])) (by decide +kernel)) rfl (mz_inv_virt (N := 48) (k := 1) (t := 10) (st := [.ref 22]) (rest := []) (b := 22) (vs := []) (h := (mz_S0, m)) rfl rfl (Nat.le_of_ble_eq_true rfl) (Nat.le_of_ble_eq_true rfl) tg_22 (by decide)) (mz_dc_lt (n := 1) rfl (by decide +kernel) (by decide +kernel)) (by decide +kernel) (by decide +kernel) (fun m37 => ?_)
      refine q_o (mz_fe (e := (144, .aload_n 0, 1, (0, 0, 0), [])) (by decide +kernel)) (pc2 := 145) rfl ?_
      refine q_getR (b := 13) (mz_fe (e := (145, .getfield 20, 26, (4, 1, 2), [])) (by decide +kernel)) rfl tg_22 (by rw [ln_22]; decide) (mz_rfS (by decide +kernel)) ?_
      refine q_o (mz_fe (e := (148, .aload_n 0, 1, (0, 0, 0), [])) (by decide +kernel)) (pc2 := 149) rfl ?_
      refine q_ic (v := 0) (mz_fe (e := (149, .iconst 0, 1, (0, 0, 0), [])) (by decide +kernel)) (by decide) ?_
      refine q_si (v := 9999) (mz_fe (e := (150, .sipush 9999, 3, (0, 0, 0), [])) (by decide +kernel)) (by decide) ?_
      refine q_callI (N := 56) (vs := [.ref 22, .int 0, .int 9999]) (rest := [.ref 13]) (L' := [some (.ref 22)]) (f := fun v41 m40 => (R_X4_expect d 4 (mz_wr m40 13 8 v41)).bind (fun m43 => some m43)) rfl (mz_fe (e := (153, .invokevirtual 86, 46, (56, 3, 10), [])) (by decide +kernel)) rfl (mz_inv_virt (N := 56) (k := 3) (t := 10) (st := [.int 9999, .int 0, .ref 22, .ref 13]) (rest := [.ref 13]) (b := 22) (vs := [.int 0, .int 9999]) (h := (mz_S0, m37)) rfl rfl (Nat.le_of_ble_eq_true rfl) (Nat.le_of_ble_eq_true rfl) tg_22 (by decide)) (mz_dc_lt (n := 3) rfl (by decide +kernel) (by decide +kernel)) (by decide +kernel) (Or.inl (by decide +kernel)) (fun v41 m40 => ?_)
      refine q_putI (mz_fe (e := (156, .putfield 96, 37, (8, 8, 0), [])) (by decide +kernel)) rfl tg_13 (by rw [ln_13]; decide) ?_
      refine q_o (mz_fe (e := (159, .goto 8, 3, (0, 0, 0), [])) (by decide +kernel)) (pc2 := 167) rfl ?_
      refine q_o (mz_fe (e := (167, .aload_n 0, 1, (0, 0, 0), [])) (by decide +kernel)) (pc2 := 168) rfl ?_
      refine q_ic (v := 4) (mz_fe (e := (168, .iconst 4, 1, (0, 0, 0), [])) (by decide +kernel)) (by decide) ?_
      refine q_callV (N := 49) (vs := [.ref 22, .int 4]) (rest := []) (L' := [some (.ref 22)]) rfl (mz_fe (e := (169, .invokevirtual 99, 47, (49, 2, 10), [])) (by decide +kernel)) rfl (mz_inv_virt (N := 49) (k := 2) (t := 10) (st := [.int 4, .ref 22]) (rest := []) (b := 22) (vs := [.int 4]) (h := (mz_S0, (mz_wr m40 13 8 v41))) rfl rfl (Nat.le_of_ble_eq_true rfl) (Nat.le_of_ble_eq_true rfl) tg_22 (by decide)) (mz_dc_lt (n := 2) rfl (by decide +kernel) (by decide +kernel)) (by decide +kernel) (by decide +kernel) (fun m43 => ?_)
      exact q_retV (mz_fe (e := (172, .return_, 1, (0, 0, 0), [])) (by decide +kernel)) (by decide +kernel)
    refine q_sw (t := 162) (st := []) (mz_fe (e := (34, .tableswitch 128 13 21 #[50, 57, 128, 128, 128, 128, 64, 85, 106], 50, (0, 0, 0), [])) (by decide +kernel)) rfl (mz_swd [13, 14, 19, 20, 21] (by decide +kernel) (List.forall_mem_cons.mpr ⟨c2, (List.forall_mem_cons.mpr ⟨c9, (List.forall_mem_cons.mpr ⟨c16, (List.forall_mem_cons.mpr ⟨c26, (List.forall_mem_cons.mpr ⟨c36, (fun _ z => absurd z List.not_mem_nil)⟩)⟩)⟩)⟩)⟩)) ?_
    refine q_o (mz_fe (e := (162, .aload_n 0, 1, (0, 0, 0), [])) (by decide +kernel)) (pc2 := 163) rfl ?_
    refine q_ic (v := 1) (mz_fe (e := (163, .iconst 1, 1, (0, 0, 0), [])) (by decide +kernel)) (by decide) ?_
    refine q_callV (N := 50) (vs := [.ref 22, .int 1]) (rest := []) (L' := [some (.ref 22)]) rfl (mz_fe (e := (164, .invokevirtual 73, 42, (50, 2, 10), [])) (by decide +kernel)) rfl (mz_inv_virt (N := 50) (k := 2) (t := 10) (st := [.int 1, .ref 22]) (rest := []) (b := 22) (vs := [.int 1]) (h := (mz_S0, m)) rfl rfl (Nat.le_of_ble_eq_true rfl) (Nat.le_of_ble_eq_true rfl) tg_22 (by decide)) (mz_dc_lt (n := 2) rfl (by decide +kernel) (by decide +kernel)) (by decide +kernel) (by decide +kernel) (fun m46 => ?_)
    refine q_o (mz_fe (e := (167, .aload_n 0, 1, (0, 0, 0), [])) (by decide +kernel)) (pc2 := 168) rfl ?_
    refine q_ic (v := 4) (mz_fe (e := (168, .iconst 4, 1, (0, 0, 0), [])) (by decide +kernel)) (by decide) ?_
    refine q_callV (N := 49) (vs := [.ref 22, .int 4]) (rest := []) (L' := [some (.ref 22)]) rfl (mz_fe (e := (169, .invokevirtual 99, 47, (49, 2, 10), [])) (by decide +kernel)) rfl (mz_inv_virt (N := 49) (k := 2) (t := 10) (st := [.int 4, .ref 22]) (rest := []) (b := 22) (vs := [.int 4]) (h := (mz_S0, m46)) rfl rfl (Nat.le_of_ble_eq_true rfl) (Nat.le_of_ble_eq_true rfl) tg_22 (by decide)) (mz_dc_lt (n := 2) rfl (by decide +kernel) (by decide +kernel)) (by decide +kernel) (by decide +kernel) (fun m49 => ?_)
    exact q_retV (mz_fe (e := (172, .return_, 1, (0, 0, 0), [])) (by decide +kernel)) (by decide +kernel)
  · refine q_o (mz_fe (e := (9, .aload_n 0, 1, (0, 0, 0), [])) (by decide +kernel)) (pc2 := 10) rfl ?_
    refine q_getI (mz_fe (e := (10, .getfield 46, 30, (4, 3, 0), [])) (by decide +kernel)) rfl (by decide) tg_22 (by rw [ln_22]; decide) ?_
    refine q_bi (v := 18) (mz_fe (e := (13, .bipush 18, 2, (0, 0, 0), [])) (by decide +kernel)) (by decide) ?_
    refine q_if (c := .gt) (off := 15) (t := 30) (x := (mz_rd m 22 3)) (y := 18) (st := []) (mz_fe (e := (15, .if_icmp .gt 15, 3, (0, 0, 0), [])) (by decide +kernel)) (fun _ => rfl) rfl rfl rfl (fun c52 => ?_) (fun c52 => ?_)
    · refine q_o (mz_fe (e := (30, .aload_n 0, 1, (0, 0, 0), [])) (by decide +kernel)) (pc2 := 31) rfl ?_
      refine q_getI (mz_fe (e := (31, .getfield 46, 30, (4, 3, 0), [])) (by decide +kernel)) rfl (by decide) tg_22 (by rw [ln_22]; decide) ?_
      refine mz_ite (P := (mz_rd m 22 3) = 13) (fun c53 => ?_) (fun c53 => ?_)
      · refine q_sw (t := 84) (st := []) (mz_fe (e := (34, .tableswitch 128 13 21 #[50, 57, 128, 128, 128, 128, 64, 85, 106], 50, (0, 0, 0), [])) (by decide +kernel)) rfl (by rw [c53]; decide +kernel) ?_
        refine q_o (mz_fe (e := (84, .aload_n 0, 1, (0, 0, 0), [])) (by decide +kernel)) (pc2 := 85) rfl ?_
        refine q_callV (N := 53) (vs := [.ref 22]) (rest := []) (L' := [some (.ref 22)]) rfl (mz_fe (e := (85, .invokevirtual 80, 44, (53, 1, 10), [])) (by decide +kernel)) rfl (mz_inv_virt (N := 53) (k := 1) (t := 10) (st := [.ref 22]) (rest := []) (b := 22) (vs := []) (h := (mz_S0, m)) rfl rfl (Nat.le_of_ble_eq_true rfl) (Nat.le_of_ble_eq_true rfl) tg_22 (by decide)) (mz_dc_lt (n := 1) rfl (by decide +kernel) (by decide +kernel)) (by decide +kernel) (by decide +kernel) (fun m54 => ?_)
        refine q_o (mz_fe (e := (88, .goto 79, 3, (0, 0, 0), [])) (by decide +kernel)) (pc2 := 167) rfl ?_
        refine q_o (mz_fe (e := (167, .aload_n 0, 1, (0, 0, 0), [])) (by decide +kernel)) (pc2 := 168) rfl ?_
        refine q_ic (v := 4) (mz_fe (e := (168, .iconst 4, 1, (0, 0, 0), [])) (by decide +kernel)) (by decide) ?_
        refine q_callV (N := 49) (vs := [.ref 22, .int 4]) (rest := []) (L' := [some (.ref 22)]) rfl (mz_fe (e := (169, .invokevirtual 99, 47, (49, 2, 10), [])) (by decide +kernel)) rfl (mz_inv_virt (N := 49) (k := 2) (t := 10) (st := [.int 4, .ref 22]) (rest := []) (b := 22) (vs := [.int 4]) (h := (mz_S0, m54)) rfl rfl (Nat.le_of_ble_eq_true rfl) (Nat.le_of_ble_eq_true rfl) tg_22 (by decide)) (mz_dc_lt (n := 2) rfl (by decide +kernel) (by decide +kernel)) (by decide +kernel) (by decide +kernel) (fun m57 => ?_)
        exact q_retV (mz_fe (e := (172, .return_, 1, (0, 0, 0), [])) (by decide +kernel)) (by decide +kernel)
      refine mz_ite (P := (mz_rd m 22 3) = 14) (fun c60 => ?_) (fun c60 => ?_)
      · refine q_sw (t := 91) (st := []) (mz_fe (e := (34, .tableswitch 128 13 21 #[50, 57, 128, 128, 128, 128, 64, 85, 106], 50, (0, 0, 0), [])) (by decide +kernel)) rfl (by rw [c60]; decide +kernel) ?_
        refine q_o (mz_fe (e := (91, .aload_n 0, 1, (0, 0, 0), [])) (by decide +kernel)) (pc2 := 92) rfl ?_
        refine q_callV (N := 54) (vs := [.ref 22]) (rest := []) (L' := [some (.ref 22)]) rfl (mz_fe (e := (92, .invokevirtual 83, 45, (54, 1, 10), [])) (by decide +kernel)) rfl (mz_inv_virt (N := 54) (k := 1) (t := 10) (st := [.ref 22]) (rest := []) (b := 22) (vs := []) (h := (mz_S0, m)) rfl rfl (Nat.le_of_ble_eq_true rfl) (Nat.le_of_ble_eq_true rfl) tg_22 (by decide)) (mz_dc_lt (n := 1) rfl (by decide +kernel) (by decide +kernel)) (by decide +kernel) (by decide +kernel) (fun m61 => ?_)
        refine q_o (mz_fe (e := (95, .goto 72, 3, (0, 0, 0), [])) (by decide +kernel)) (pc2 := 167) rfl ?_
        refine q_o (mz_fe (e := (167, .aload_n 0, 1, (0, 0, 0), [])) (by decide +kernel)) (pc2 := 168) rfl ?_
        refine q_ic (v := 4) (mz_fe (e := (168, .iconst 4, 1, (0, 0, 0), [])) (by decide +kernel)) (by decide) ?_
        refine q_callV (N := 49) (vs := [.ref 22, .int 4]) (rest := []) (L' := [some (.ref 22)]) rfl (mz_fe (e := (169, .invokevirtual 99, 47, (49, 2, 10), [])) (by decide +kernel)) rfl (mz_inv_virt (N := 49) (k := 2) (t := 10) (st := [.int 4, .ref 22]) (rest := []) (b := 22) (vs := [.int 4]) (h := (mz_S0, m61)) rfl rfl (Nat.le_of_ble_eq_true rfl) (Nat.le_of_ble_eq_true rfl) tg_22 (by decide)) (mz_dc_lt (n := 2) rfl (by decide +kernel) (by decide +kernel)) (by decide +kernel) (by decide +kernel) (fun m64 => ?_)
        exact q_retV (mz_fe (e := (172, .return_, 1, (0, 0, 0), [])) (by decide +kernel)) (by decide +kernel)
      refine mz_ite (P := (mz_rd m 22 3) = 19) (fun c67 => ?_) (fun c67 => ?_)
      · refine q_sw (t := 98) (st := []) (mz_fe (e := (34, .tableswitch 128 13 21 #[50, 57, 128, 128, 128, 128, 64, 85, 106], 50, (0, 0, 0), [])) (by decide +kernel)) rfl (by rw [c67]; decide +kernel) ?_
        refine q_o (mz_fe (e := (98, .aload_n 0, 1, (0, 0, 0), [])) (by decide +kernel)) (pc2 := 99) rfl ?_
        refine q_callV (N := 48) (vs := [.ref 22]) (rest := []) (L' := [some (.ref 22)]) rfl (mz_fe (e := (99, .invokevirtual 70, 41, (48, 1, 10), [])) (by decide +kernel)) rfl (mz_inv_virt (N := 48) (k := 1) (t := 10) (st := [.ref 22]) (rest := []) (b := 22) (vs := []) (h := (mz_S0, m)) rfl rfl (Nat.le_of_ble_eq_true rfl) (Nat.le_of_ble_eq_true rfl) tg_22 (by decide)) (mz_dc_lt (n := 1) rfl (by decide +kernel) (by decide +kernel)) (by decide +kernel) (by decide +kernel) (fun m68 => ?_)
        refine q_o (mz_fe (e := (102, .aload_n 0, 1, (0, 0, 0), [])) (by decide +kernel)) (pc2 := 103) rfl ?_
        refine q_getR (b := 13) (mz_fe (e := (103, .getfield 20, 26, (4, 1, 2), [])) (by decide +kernel)) rfl tg_22 (by rw [ln_22]; decide) (mz_rfS (by decide +kernel)) ?_
        refine q_o (mz_fe (e := (106, .aload_n 0, 1, (0, 0, 0), [])) (by decide +kernel)) (pc2 := 107) rfl ?_
        refine q_ic (v := 1) (mz_fe (e := (107, .iconst 1, 1, (0, 0, 0), [])) (by decide +kernel)) (by decide) ?_
        refine q_bi (v := 9) (mz_fe (e := (108, .bipush 9, 2, (0, 0, 0), [])) (by decide +kernel)) (by decide) ?_
        refine q_callI (N := 56) (vs := [.ref 22, .int 1, .int 9]) (rest := [.ref 13]) (L' := [some (.ref 22)]) (f := fun v72 m71 => (R_X4_expect d 4 (mz_wr m71 13 6 v72)).bind (fun m74 => some m74)) rfl (mz_fe (e := (110, .invokevirtual 86, 46, (56, 3, 10), [])) (by decide +kernel)) rfl (mz_inv_virt (N := 56) (k := 3) (t := 10) (st := [.int 9, .int 1, .ref 22, .ref 13]) (rest := [.ref 13]) (b := 22) (vs := [.int 1, .int 9]) (h := (mz_S0, m68)) rfl rfl (Nat.le_of_ble_eq_true rfl) (Nat.le_of_ble_eq_true rfl) tg_22 (by decide)) (mz_dc_lt (n := 3) rfl (by decide +kernel) (by decide +kernel)) (by decide +kernel) (Or.inl (by decide +kernel)) (fun v72 m71 => ?_)
        refine q_putI (mz_fe (e := (113, .putfield 90, 35, (8, 6, 0), [])) (by decide +kernel)) rfl tg_13 (by rw [ln_13]; decide) ?_
        refine q_o (mz_fe (e := (116, .goto 51, 3, (0, 0, 0), [])) (by decide +kernel)) (pc2 := 167) rfl ?_
        refine q_o (mz_fe (e := (167, .aload_n 0, 1, (0, 0, 0), [])) (by decide +kernel)) (pc2 := 168) rfl ?_
        refine q_ic (v := 4) (mz_fe (e := (168, .iconst 4, 1, (0, 0, 0), [])) (by decide +kernel)) (by decide) ?_
        refine q_callV (N := 49) (vs := [.ref 22, .int 4]) (rest := []) (L' := [some (.ref 22)]) rfl (mz_fe (e := (169, .invokevirtual 99, 47, (49, 2, 10), [])) (by decide +kernel)) rfl (mz_inv_virt (N := 49) (k := 2) (t := 10) (st := [.int 4, .ref 22]) (rest := []) (b := 22) (vs := [.int 4]) (h := (mz_S0, (mz_wr m71 13 6 v72))) rfl rfl (Nat.le_of_ble_eq_true rfl) (Nat.le_of_ble_eq_true rfl) tg_22 (by decide)) (mz_dc_lt (n := 2) rfl (by decide +kernel) (by decide +kernel)) (by decide +kernel) (by decide +kernel) (fun m74 => ?_)
        exact q_retV (mz_fe (e := (172, .return_, 1, (0, 0, 0), [])) (by decide +kernel)) (by decide +kernel)
      refine mz_ite (P := (mz_rd m 22 3) = 20) (fun c77 => ?_) (fun c77 => ?_)
      · refine q_sw (t := 119) (st := []) (mz_fe (e := (34, .tableswitch 128 13 21 #[50, 57, 128, 128, 128, 128, 64, 85, 106], 50, (0, 0, 0), [])) (by decide +kernel)) rfl (by rw [c77]; decide +kernel) ?_
        refine q_o (mz_fe (e := (119, .aload_n 0, 1, (0, 0, 0), [])) (by decide +kernel)) (pc2 := 120) rfl ?_
        refine q_callV (N := 48) (vs := [.ref 22]) (rest := []) (L' := [some (.ref 22)]) rfl (mz_fe (e := (120, .invokevirtual 70, 41, (48, 1, 10), [])) (by decide +kernel)) rfl (mz_inv_virt (N := 48) (k := 1) (t := 10) (st := [.ref 22]) (rest := []) (b := 22) (vs := []) (h := (mz_S0, m)) rfl rfl (Nat.le_of_ble_eq_true rfl) (Nat.le_of_ble_eq_true rfl) tg_22 (by decide)) (mz_dc_lt (n := 1) rfl (by decide +kernel) (by decide +kernel)) (by decide +kernel) (by decide +kernel) (fun m78 => ?_)
        refine q_o (mz_fe (e := (123, .aload_n 0, 1, (0, 0, 0), [])) (by decide +kernel)) (pc2 := 124) rfl ?_
        refine q_getR (b := 13) (mz_fe (e := (124, .getfield 20, 26, (4, 1, 2), [])) (by decide +kernel)) rfl tg_22 (by rw [ln_22]; decide) (mz_rfS (by decide +kernel)) ?_
        refine q_o (mz_fe (e := (127, .aload_n 0, 1, (0, 0, 0), [])) (by decide +kernel)) (pc2 := 128) rfl ?_
        refine q_ic (v := 0) (mz_fe (e := (128, .iconst 0, 1, (0, 0, 0), [])) (by decide +kernel)) (by decide) ?_
        refine q_bi (v := 100) (mz_fe (e := (129, .bipush 100, 2, (0, 0, 0), [])) (by decide +kernel)) (by decide) ?_
        refine q_callI (N := 56) (vs := [.ref 22, .int 0, .int 100]) (rest := [.ref 13]) (L' := [some (.ref 22)]) (f := fun v82 m81 => (R_X4_expect d 4 (mz_wr m81 13 7 v82)).bind (fun m84 => some m84)) rfl (mz_fe (e := (131, .invokevirtual 86, 46, (56, 3, 10), [])) (by decide +kernel)) rfl (mz_inv_virt (N := 56) (k := 3) (t := 10) (st := [.int 100, .int 0, .ref 22, .ref 13]) (rest := [.ref 13]) (b := 22) (vs := [.int 0, .int 100]) (h := (mz_S0, m78)) rfl rfl (Nat.le_of_ble_eq_true rfl) (Nat.le_of_ble_eq_true rfl) tg_22 (by decide)) (mz_dc_lt (n := 3) rfl (by decide +kernel) (by decide +kernel)) (by decide +kernel) (Or.inl (by decide +kernel)) (fun v82 m81 => ?_)
        refine q_putI (mz_fe (e := (134, .putfield 93, 36, (8, 7, 0), [])) (by decide +kernel)) rfl tg_13 (by rw [ln_13]; decide) ?_
        refine q_o (mz_fe (e := (137, .goto 30, 3, (0, 0, 0), [])) (by decide +kernel)) (pc2 := 167) rfl ?_
        refine q_o (mz_fe (e := (167, .aload_n 0, 1, (0, 0, 0), [])) (by decide +kernel)) (pc2 := 168) rfl ?_
        refine q_ic (v := 4) (mz_fe (e := (168, .iconst 4, 1, (0, 0, 0), [])) (by decide +kernel)) (by decide) ?_
        refine q_callV (N := 49) (vs := [.ref 22, .int 4]) (rest := []) (L' := [some (.ref 22)]) rfl (mz_fe (e := (169, .invokevirtual 99, 47, (49, 2, 10), [])) (by decide +kernel)) rfl (mz_inv_virt (N := 49) (k := 2) (t := 10) (st := [.int 4, .ref 22]) (rest := []) (b := 22) (vs := [.int 4]) (h := (mz_S0, (mz_wr m81 13 7 v82))) rfl rfl (Nat.le_of_ble_eq_true rfl) (Nat.le_of_ble_eq_true rfl) tg_22 (by decide)) (mz_dc_lt (n := 2) rfl (by decide +kernel) (by decide +kernel)) (by decide +kernel) (by decide +kernel) (fun m84 => ?_)
        exact q_retV (mz_fe (e := (172, .return_, 1, (0, 0, 0), [])) (by decide +kernel)) (by decide +kernel)
      refine mz_ite (P := (mz_rd m 22 3) = 21) (fun c87 => ?_) (fun c87 => ?_)
      · refine q_sw (t := 140) (st := []) (mz_fe (e := (34, .tableswitch 128 13 21 #[50, 57, 128, 128, 128, 128, 64, 85, 106], 50, (0, 0, 0), [])) (by decide +kernel)) rfl (by rw [c87]; decide +kernel) ?_
        refine q_o (mz_fe (e := (140, .aload_n 0, 1, (0, 0, 0), [])) (by decide +kernel)) (pc2 := 141) rfl ?_
        refine q_callV (N := 48) (vs := [.ref 22]) (rest := []) (L' := [some (.ref 22)]) rfl (mz_fe (e := (141, .invokevirtual 70, 41, (48, 1, 10), [])) (by decide +kernel)) rfl (mz_inv_virt (N := 48) (k := 1) (t := 10) (st := [.ref 22]) (rest := []) (b := 22) (vs := []) (h := (mz_S0, m)) rfl rfl (Nat.le_of_ble_eq_true rfl) (Nat.le_of_ble_eq_true rfl) tg_22 (by decide)) (mz_dc_lt (n := 1) rfl (by decide +kernel) (by decide +kernel)) (by decide +kernel) (by decide +kernel) (fun m88 => ?_)
        refine q_o (mz_fe (e := (144, .aload_n 0, 1, (0, 0, 0), [])) (by decide +kernel)) (pc2 := 145) rfl ?_
        refine q_getR (b := 13) (mz_fe (e := (145, .getfield 20, 26, (4, 1, 2), [])) (by decide +kernel)) rfl tg_22 (by rw [ln_22]; decide) (mz_rfS (by decide +kernel)) ?_
        refine q_o (mz_fe (e := (148, .aload_n 0, 1, (0, 0, 0), [])) (by decide +kernel)) (pc2 := 149) rfl ?_
        refine q_ic (v := 0) (mz_fe (e := (149, .iconst 0, 1, (0, 0, 0), [])) (by decide +kernel)) (by decide) ?_
        refine q_si (v := 9999) (mz_fe (e := (150, .sipush 9999, 3, (0, 0, 0), [])) (by decide +kernel)) (by decide) ?_
        refine q_callI (N := 56) (vs := [.ref 22, .int 0, .int 9999]) (rest := [.ref 13]) (L' := [some (.ref 22)]) (f := fun v92 m91 => (R_X4_expect d 4 (mz_wr m91 13 8 v92)).bind (fun m94 => some m94)) rfl (mz_fe (e := (153, .invokevirtual 86, 46, (56, 3, 10), [])) (by decide +kernel)) rfl (mz_inv_virt (N := 56) (k := 3) (t := 10) (st := [.int 9999, .int 0, .ref 22, .ref 13]) (rest := [.ref 13]) (b := 22) (vs := [.int 0, .int 9999]) (h := (mz_S0, m88)) rfl rfl (Nat.le_of_ble_eq_true rfl) (Nat.le_of_ble_eq_true rfl) tg_22 (by decide)) (mz_dc_lt (n := 3) rfl (by decide +kernel) (by decide +kernel)) (by decide +kernel) (Or.inl (by decide +kernel)) (fun v92 m91 => ?_)
        refine q_putI (mz_fe (e := (156, .putfield 96, 37, (8, 8, 0), [])) (by decide +kernel)) rfl tg_13 (by rw [ln_13]; decide) ?_
        refine q_o (mz_fe (e := (159, .goto 8, 3, (0, 0, 0), [])) (by decide +kernel)) (pc2 := 167) rfl ?_
        refine q_o (mz_fe (e := (167, .aload_n 0, 1, (0, 0, 0), [])) (by decide +kernel)) (pc2 := 168) rfl ?_
        refine q_ic (v := 4) (mz_fe (e := (168, .iconst 4, 1, (0, 0, 0), [])) (by decide +kernel)) (by decide) ?_
        refine q_callV (N := 49) (vs := [.ref 22, .int 4]) (rest := []) (L' := [some (.ref 22)]) rfl (mz_fe (e := (169, .invokevirtual 99, 47, (49, 2, 10), [])) (by decide +kernel)) rfl (mz_inv_virt (N := 49) (k := 2) (t := 10) (st := [.int 4, .ref 22]) (rest := []) (b := 22) (vs := [.int 4]) (h := (mz_S0, (mz_wr m91 13 8 v92))) rfl rfl (Nat.le_of_ble_eq_true rfl) (Nat.le_of_ble_eq_true rfl) tg_22 (by decide)) (mz_dc_lt (n := 2) rfl (by decide +kernel) (by decide +kernel)) (by decide +kernel) (by decide +kernel) (fun m94 => ?_)
        exact q_retV (mz_fe (e := (172, .return_, 1, (0, 0, 0), [])) (by decide +kernel)) (by decide +kernel)
      refine q_sw (t := 162) (st := []) (mz_fe (e := (34, .tableswitch 128 13 21 #[50, 57, 128, 128, 128, 128, 64, 85, 106], 50, (0, 0, 0), [])) (by decide +kernel)) rfl (mz_swd [13, 14, 19, 20, 21] (by decide +kernel) (List.forall_mem_cons.mpr ⟨c53, (List.forall_mem_cons.mpr ⟨c60, (List.forall_mem_cons.mpr ⟨c67, (List.forall_mem_cons.mpr ⟨c77, (List.forall_mem_cons.mpr ⟨c87, (fun _ z => absurd z List.not_mem_nil)⟩)⟩)⟩)⟩)⟩)) ?_
      refine q_o (mz_fe (e := (162, .aload_n 0, 1, (0, 0, 0), [])) (by decide +kernel)) (pc2 := 163) rfl ?_
      refine q_ic (v := 1) (mz_fe (e := (163, .iconst 1, 1, (0, 0, 0), [])) (by decide +kernel)) (by decide) ?_
      refine q_callV (N := 50) (vs := [.ref 22, .int 1]) (rest := []) (L' := [some (.ref 22)]) rfl (mz_fe (e := (164, .invokevirtual 73, 42, (50, 2, 10), [])) (by decide +kernel)) rfl (mz_inv_virt (N := 50) (k := 2) (t := 10) (st := [.int 1, .ref 22]) (rest := []) (b := 22) (vs := [.int 1]) (h := (mz_S0, m)) rfl rfl (Nat.le_of_ble_eq_true rfl) (Nat.le_of_ble_eq_true rfl) tg_22 (by decide)) (mz_dc_lt (n := 2) rfl (by decide +kernel) (by decide +kernel)) (by decide +kernel) (by decide +kernel) (fun m97 => ?_)
      refine q_o (mz_fe (e := (167, .aload_n 0, 1, (0, 0, 0), [])) (by decide +kernel)) (pc2 := 168) rfl ?_
      refine q_ic (v := 4) (mz_fe (e := (168, .iconst 4, 1, (0, 0, 0), [])) (by decide +kernel)) (by decide) ?_
      refine q_callV (N := 49) (vs := [.ref 22, .int 4]) (rest := []) (L' := [some (.ref 22)]) rfl (mz_fe (e := (169, .invokevirtual 99, 47, (49, 2, 10), [])) (by decide +kernel)) rfl (mz_inv_virt (N := 49) (k := 2) (t := 10) (st := [.int 4, .ref 22]) (rest := []) (b := 22) (vs := [.int 4]) (h := (mz_S0, m97)) rfl rfl (Nat.le_of_ble_eq_true rfl) (Nat.le_of_ble_eq_true rfl) tg_22 (by decide)) (mz_dc_lt (n := 2) rfl (by decide +kernel) (by decide +kernel)) (by decide +kernel) (by decide +kernel) (fun m100 => ?_)
      exact q_retV (mz_fe (e := (172, .return_, 1, (0, 0, 0), [])) (by decide +kernel)) (by decide +kernel)
    · refine q_o (mz_fe (e := (18, .aload_n 0, 1, (0, 0, 0), [])) (by decide +kernel)) (pc2 := 19) rfl ?_
      refine q_o (mz_fe (e := (19, .aload_n 0, 1, (0, 0, 0), [])) (by decide +kernel)) (pc2 := 20) rfl ?_
      refine q_getI (mz_fe (e := (20, .getfield 46, 30, (4, 3, 0), [])) (by decide +kernel)) rfl (by decide) tg_22 (by rw [ln_22]; decide) ?_
      refine q_bi (v := 15) (mz_fe (e := (23, .bipush 15, 2, (0, 0, 0), [])) (by decide +kernel)) (by decide) ?_
      refine q_o (mz_fe (e := (25, .isub, 1, (0, 0, 0), [])) (by decide +kernel)) (pc2 := 26) rfl ?_
      refine q_callV (N := 57) (vs := [.ref 22, .int ((mz_rd m 22 3) - 15)]) (rest := []) (L' := [some (.ref 22)]) rfl (mz_fe (e := (26, .invokevirtual 77, 43, (57, 2, 10), [])) (by decide +kernel)) rfl (mz_inv_virt (N := 57) (k := 2) (t := 10) (st := [.int ((mz_rd m 22 3) - 15), .ref 22]) (rest := []) (b := 22) (vs := [.int ((mz_rd m 22 3) - 15)]) (h := (mz_S0, m)) rfl rfl (Nat.le_of_ble_eq_true rfl) (Nat.le_of_ble_eq_true rfl) tg_22 (by decide)) (mz_dc_lt (n := 2) rfl (by decide +kernel) (by decide +kernel)) (by decide +kernel) (by decide +kernel) (fun m103 => ?_)
      exact q_retV (mz_fe (e := (29, .return_, 1, (0, 0, 0), [])) (by decide +kernel)) (by decide +kernel)
set_option maxRecDepth 10000 in
theorem R_X4_readPerson_eq (d : Nat)  (m : MzM)  : R_X4_readPerson d  m = if (mz_rd m 13 4) < 6 then ((R_X4_take d  m).bind (fun m2 => if ¬ (mz_rd m2 22 3) = 2 then ((R_X4_expect d 2 m2).bind (fun m6 => H_X4_readPerson_97 d (mz_rd m2 13 4) 0 m6)) else ((R_X9_value d (mz_rd m2 22 2) m2).bind (fun u11 => (R_X8_personNamed d 13 u11.1 u11.2).bind (fun u14 => if u14.1 = (-1) then (mz_g (mz_ok (mz_rd m2 13 4) 6) ((R_X4_expect d 2 (mz_wr (mz_wl u14.2 14 ((mz_rd m2 13 4) : Int32).toNatClampNeg u11.1) 13 4 ((mz_rd (mz_wl u14.2 14 ((mz_rd m2 13 4) : Int32).toNatClampNeg u11.1) 13 4) + 1))).bind (fun m17 => H_X4_readPerson_97 d (mz_rd m2 13 4) 0 m17))) else ((R_X4_failLater d 3 u14.2).bind (fun m20 => mz_g (mz_ok (mz_rd m2 13 4) 6) ((R_X4_expect d 2 (mz_wr (mz_wl m20 14 ((mz_rd m2 13 4) : Int32).toNatClampNeg u11.1) 13 4 ((mz_rd (mz_wl m20 14 ((mz_rd m2 13 4) : Int32).toNatClampNeg u11.1) 13 4) + 1))).bind (fun m24 => H_X4_readPerson_97 d (mz_rd m2 13 4) 0 m24))))))))) else ((R_X4_fail d 2 m).bind (fun m27 => some m27)) := by
  show mz_cV (mz_T d 53 0 (mz_en (mz_xl 53) [.ref 22]) [] m) = _
  rw [show mz_en (mz_xl 53) [.ref 22] = [some (.ref 22), none, none, none] from by rw [show mz_xl 53 = 4 from by decide +kernel]; rfl]
  refine q_o (mz_fe (e := (0, .aload_n 0, 1, (0, 0, 0), [])) (by decide +kernel)) (pc2 := 1) rfl ?_
  refine q_getR (b := 13) (mz_fe (e := (1, .getfield 20, 26, (4, 1, 2), [])) (by decide +kernel)) rfl tg_22 (by rw [ln_22]; decide) (mz_rfS (by decide +kernel)) ?_
  refine q_getI (mz_fe (e := (4, .getfield 102, 38, (8, 4, 0), [])) (by decide +kernel)) rfl (by decide) tg_13 (by rw [ln_13]; decide) ?_
  refine q_bi (v := 6) (mz_fe (e := (7, .bipush 6, 2, (0, 0, 0), [])) (by decide +kernel)) (by decide) ?_
  refine q_if (c := .lt) (off := 9) (t := 18) (x := (mz_rd m 13 4)) (y := 6) (st := []) (mz_fe (e := (9, .if_icmp .lt 9, 3, (0, 0, 0), [])) (by decide +kernel)) (fun _ => rfl) rfl rfl rfl (fun c1 => ?_) (fun c1 => ?_)
  · refine q_o (mz_fe (e := (18, .aload_n 0, 1, (0, 0, 0), [])) (by decide +kernel)) (pc2 := 19) rfl ?_
    refine q_callV (N := 48) (vs := [.ref 22]) (rest := []) (L' := [some (.ref 22), none, none, none]) rfl (mz_fe (e := (19, .invokevirtual 70, 41, (48, 1, 10), [])) (by decide +kernel)) rfl (mz_inv_virt (N := 48) (k := 1) (t := 10) (st := [.ref 22]) (rest := []) (b := 22) (vs := []) (h := (mz_S0, m)) rfl rfl (Nat.le_of_ble_eq_true rfl) (Nat.le_of_ble_eq_true rfl) tg_22 (by decide)) (mz_dc_lt (n := 1) rfl (by decide +kernel) (by decide +kernel)) (by decide +kernel) (by decide +kernel) (fun m2 => ?_)
    refine q_o (mz_fe (e := (22, .aload_n 0, 1, (0, 0, 0), [])) (by decide +kernel)) (pc2 := 23) rfl ?_
    refine q_getR (b := 13) (mz_fe (e := (23, .getfield 20, 26, (4, 1, 2), [])) (by decide +kernel)) rfl tg_22 (by rw [ln_22]; decide) (mz_rfS (by decide +kernel)) ?_
    refine q_getI (mz_fe (e := (26, .getfield 102, 38, (8, 4, 0), [])) (by decide +kernel)) rfl (by decide) tg_13 (by rw [ln_13]; decide) ?_
    refine q_s (mz_fe (e := (29, .istore_n 1, 1, (0, 0, 0), [])) (by decide +kernel)) (pc' := 30) (L' := [some (.ref 22), some (.int (mz_rd m2 13 4)), none, none]) (st' := []) rfl ?_
    refine q_o (mz_fe (e := (30, .aload_n 0, 1, (0, 0, 0), [])) (by decide +kernel)) (pc2 := 31) rfl ?_
    refine q_getI (mz_fe (e := (31, .getfield 46, 30, (4, 3, 0), [])) (by decide +kernel)) rfl (by decide) tg_22 (by rw [ln_22]; decide) ?_
    refine q_ic (v := 2) (mz_fe (e := (34, .iconst 2, 1, (0, 0, 0), [])) (by decide +kernel)) (by decide) ?_
    refine q_if (c := .ne) (off := 55) (t := 90) (x := (mz_rd m2 22 3)) (y := 2) (st := []) (mz_fe (e := (35, .if_icmp .ne 55, 3, (0, 0, 0), [])) (by decide +kernel)) (fun _ => rfl) rfl rfl rfl (fun c5 => ?_) (fun c5 => ?_)
    · refine q_o (mz_fe (e := (90, .aload_n 0, 1, (0, 0, 0), [])) (by decide +kernel)) (pc2 := 91) rfl ?_
      refine q_ic (v := 2) (mz_fe (e := (91, .iconst 2, 1, (0, 0, 0), [])) (by decide +kernel)) (by decide) ?_
      refine q_callV (N := 49) (vs := [.ref 22, .int 2]) (rest := []) (L' := [some (.ref 22), some (.int (mz_rd m2 13 4)), none, none]) rfl (mz_fe (e := (92, .invokevirtual 99, 47, (49, 2, 10), [])) (by decide +kernel)) rfl (mz_inv_virt (N := 49) (k := 2) (t := 10) (st := [.int 2, .ref 22]) (rest := []) (b := 22) (vs := [.int 2]) (h := (mz_S0, m2)) rfl rfl (Nat.le_of_ble_eq_true rfl) (Nat.le_of_ble_eq_true rfl) tg_22 (by decide)) (mz_dc_lt (n := 2) rfl (by decide +kernel) (by decide +kernel)) (by decide +kernel) (by decide +kernel) (fun m6 => ?_)
      refine q_ic (v := 0) (mz_fe (e := (95, .iconst 0, 1, (0, 0, 0), [])) (by decide +kernel)) (by decide) ?_
      refine q_s (mz_fe (e := (96, .istore_n 2, 1, (0, 0, 0), [])) (by decide +kernel)) (pc' := 97) (L' := [some (.ref 22), some (.int (mz_rd m2 13 4)), some (.int 0), none]) (st' := []) rfl ?_
      exact congrArg mz_cV (mz_At_msk (L := [some (.ref 22), some (.int (mz_rd m2 13 4)), some (.int 0), none]) (L2 := [some (.ref 22), some (.int (mz_rd m2 13 4)), some (.int 0), none]) (mz_fe (e := (97, .iload_n 2, 1, (0, 0, 0), [true, true, true, false])) (by decide +kernel)) rfl rfl)
    · refine q_o (mz_fe (e := (38, .aload_n 0, 1, (0, 0, 0), [])) (by decide +kernel)) (pc2 := 39) rfl ?_
      refine q_getR (b := 23) (mz_fe (e := (39, .getfield 14, 25, (4, 0, 2), [])) (by decide +kernel)) rfl tg_22 (by rw [ln_22]; decide) (mz_rfS (by decide +kernel)) ?_
      refine q_o (mz_fe (e := (42, .aload_n 0, 1, (0, 0, 0), [])) (by decide +kernel)) (pc2 := 43) rfl ?_
      refine q_getI (mz_fe (e := (43, .getfield 39, 29, (4, 2, 0), [])) (by decide +kernel)) rfl (by decide) tg_22 (by rw [ln_22]; decide) ?_
      refine q_callJ (N := 96) (vs := [.ref 23, .int (mz_rd m2 22 2)]) (rest := []) (L' := [some (.ref 22), some (.int (mz_rd m2 13 4)), none, none]) (f := fun v10 m9 => (R_X8_personNamed d 13 v10 m9).bind (fun u14 => if u14.1 = (-1) then (mz_g (mz_ok (mz_rd m2 13 4) 6) ((R_X4_expect d 2 (mz_wr (mz_wl u14.2 14 ((mz_rd m2 13 4) : Int32).toNatClampNeg v10) 13 4 ((mz_rd (mz_wl u14.2 14 ((mz_rd m2 13 4) : Int32).toNatClampNeg v10) 13 4) + 1))).bind (fun m17 => H_X4_readPerson_97 d (mz_rd m2 13 4) 0 m17))) else ((R_X4_failLater d 3 u14.2).bind (fun m20 => mz_g (mz_ok (mz_rd m2 13 4) 6) ((R_X4_expect d 2 (mz_wr (mz_wl m20 14 ((mz_rd m2 13 4) : Int32).toNatClampNeg v10) 13 4 ((mz_rd (mz_wl m20 14 ((mz_rd m2 13 4) : Int32).toNatClampNeg v10) 13 4) + 1))).bind (fun m24 => H_X4_readPerson_97 d (mz_rd m2 13 4) 0 m24)))))) rfl (mz_fe (e := (46, .invokevirtual 105, 48, (96, 2, 15), [])) (by decide +kernel)) rfl (mz_inv_virt (N := 96) (k := 2) (t := 15) (st := [.int (mz_rd m2 22 2), .ref 23]) (rest := []) (b := 23) (vs := [.int (mz_rd m2 22 2)]) (h := (mz_S0, m2)) rfl rfl (Nat.le_of_ble_eq_true rfl) (Nat.le_of_ble_eq_true rfl) tg_23 (by decide)) (mz_dc_lt (n := 2) rfl (by decide +kernel) (by decide +kernel)) (by decide +kernel) (by decide +kernel) (fun v10 m9 => ?_)
      refine q_s (mz_fe (e := (49, .lstore_n 2, 1, (0, 0, 0), [])) (by decide +kernel)) (pc' := 50) (L' := [some (.ref 22), some (.int (mz_rd m2 13 4)), some (.long v10), none]) (st' := []) rfl ?_
      refine q_o (mz_fe (e := (50, .aload_n 0, 1, (0, 0, 0), [])) (by decide +kernel)) (pc2 := 51) rfl ?_
      refine q_getR (b := 13) (mz_fe (e := (51, .getfield 20, 26, (4, 1, 2), [])) (by decide +kernel)) rfl tg_22 (by rw [ln_22]; decide) (mz_rfS (by decide +kernel)) ?_
      refine q_o (mz_fe (e := (54, .lload_n 2, 1, (0, 0, 0), [])) (by decide +kernel)) (pc2 := 55) rfl ?_
      refine q_callI (N := 84) (vs := [.ref 13, .long v10]) (rest := []) (L' := [some (.ref 22), some (.int (mz_rd m2 13 4)), some (.long v10), none]) (f := fun v13 m12 => if v13 = (-1) then (mz_g (mz_ok (mz_rd m2 13 4) 6) ((R_X4_expect d 2 (mz_wr (mz_wl m12 14 ((mz_rd m2 13 4) : Int32).toNatClampNeg v10) 13 4 ((mz_rd (mz_wl m12 14 ((mz_rd m2 13 4) : Int32).toNatClampNeg v10) 13 4) + 1))).bind (fun m17 => H_X4_readPerson_97 d (mz_rd m2 13 4) 0 m17))) else ((R_X4_failLater d 3 m12).bind (fun m20 => mz_g (mz_ok (mz_rd m2 13 4) 6) ((R_X4_expect d 2 (mz_wr (mz_wl m20 14 ((mz_rd m2 13 4) : Int32).toNatClampNeg v10) 13 4 ((mz_rd (mz_wl m20 14 ((mz_rd m2 13 4) : Int32).toNatClampNeg v10) 13 4) + 1))).bind (fun m24 => H_X4_readPerson_97 d (mz_rd m2 13 4) 0 m24))))) rfl (mz_fe (e := (55, .invokevirtual 109, 49, (84, 2, 14), [])) (by decide +kernel)) rfl (mz_inv_virt (N := 84) (k := 2) (t := 14) (st := [.long v10, .ref 13]) (rest := []) (b := 13) (vs := [.long v10]) (h := (mz_S0, m9)) rfl rfl (Nat.le_of_ble_eq_true rfl) (Nat.le_of_ble_eq_true rfl) tg_13 (by decide)) (mz_dc_lt (n := 3) rfl (by decide +kernel) (by decide +kernel)) (by decide +kernel) (Or.inl (by decide +kernel)) (fun v13 m12 => ?_)
      refine q_ic (v := (-1)) (mz_fe (e := (58, .iconst (-1), 1, (0, 0, 0), [])) (by decide +kernel)) (by decide) ?_
      refine q_if (c := .eq) (off := 8) (t := 67) (x := v13) (y := (-1)) (st := []) (mz_fe (e := (59, .if_icmp .eq 8, 3, (0, 0, 0), [])) (by decide +kernel)) (fun _ => rfl) rfl rfl rfl (fun c15 => ?_) (fun c15 => ?_)
      · refine q_o (mz_fe (e := (67, .aload_n 0, 1, (0, 0, 0), [])) (by decide +kernel)) (pc2 := 68) rfl ?_
        refine q_getR (b := 13) (mz_fe (e := (68, .getfield 20, 26, (4, 1, 2), [])) (by decide +kernel)) rfl tg_22 (by rw [ln_22]; decide) (mz_rfS (by decide +kernel)) ?_
        refine q_getR (b := 14) (mz_fe (e := (71, .getfield 116, 39, (8, 0, 2), [])) (by decide +kernel)) rfl tg_13 (by rw [ln_13]; decide) (mz_rfS (by decide +kernel)) ?_
        refine q_o (mz_fe (e := (74, .iload_n 1, 1, (0, 0, 0), [])) (by decide +kernel)) (pc2 := 75) rfl ?_
        refine q_o (mz_fe (e := (75, .lload_n 2, 1, (0, 0, 0), [])) (by decide +kernel)) (pc2 := 76) rfl ?_
        refine q_lastg rfl (mz_fe (e := (76, .lastore, 1, (0, 0, 0), [])) (by decide +kernel)) rfl tg_14 ln_14 (fun g16 => ?_)
        refine q_o (mz_fe (e := (77, .aload_n 0, 1, (0, 0, 0), [])) (by decide +kernel)) (pc2 := 78) rfl ?_
        refine q_getR (b := 13) (mz_fe (e := (78, .getfield 20, 26, (4, 1, 2), [])) (by decide +kernel)) rfl tg_22 (by rw [ln_22]; decide) (mz_rfS (by decide +kernel)) ?_
        refine q_o (mz_fe (e := (81, .dup, 1, (0, 0, 0), [])) (by decide +kernel)) (pc2 := 82) rfl ?_
        refine q_getI (mz_fe (e := (82, .getfield 102, 38, (8, 4, 0), [])) (by decide +kernel)) rfl (by decide) tg_13 (by rw [ln_13]; decide) ?_
        refine q_ic (v := 1) (mz_fe (e := (85, .iconst 1, 1, (0, 0, 0), [])) (by decide +kernel)) (by decide) ?_
        refine q_o (mz_fe (e := (86, .iadd, 1, (0, 0, 0), [])) (by decide +kernel)) (pc2 := 87) rfl ?_
        refine q_putI (mz_fe (e := (87, .putfield 102, 38, (8, 4, 0), [])) (by decide +kernel)) rfl tg_13 (by rw [ln_13]; decide) ?_
        refine q_o (mz_fe (e := (90, .aload_n 0, 1, (0, 0, 0), [])) (by decide +kernel)) (pc2 := 91) rfl ?_
        refine q_ic (v := 2) (mz_fe (e := (91, .iconst 2, 1, (0, 0, 0), [])) (by decide +kernel)) (by decide) ?_
        refine q_callV (N := 49) (vs := [.ref 22, .int 2]) (rest := []) (L' := [some (.ref 22), some (.int (mz_rd m2 13 4)), some (.long v10), none]) rfl (mz_fe (e := (92, .invokevirtual 99, 47, (49, 2, 10), [])) (by decide +kernel)) rfl (mz_inv_virt (N := 49) (k := 2) (t := 10) (st := [.int 2, .ref 22]) (rest := []) (b := 22) (vs := [.int 2]) (h := (mz_S0, (mz_wr (mz_wl m12 14 ((mz_rd m2 13 4) : Int32).toNatClampNeg v10) 13 4 ((mz_rd (mz_wl m12 14 ((mz_rd m2 13 4) : Int32).toNatClampNeg v10) 13 4) + 1)))) rfl rfl (Nat.le_of_ble_eq_true rfl) (Nat.le_of_ble_eq_true rfl) tg_22 (by decide)) (mz_dc_lt (n := 2) rfl (by decide +kernel) (by decide +kernel)) (by decide +kernel) (by decide +kernel) (fun m17 => ?_)
        refine q_ic (v := 0) (mz_fe (e := (95, .iconst 0, 1, (0, 0, 0), [])) (by decide +kernel)) (by decide) ?_
        refine q_s (mz_fe (e := (96, .istore_n 2, 1, (0, 0, 0), [])) (by decide +kernel)) (pc' := 97) (L' := [some (.ref 22), some (.int (mz_rd m2 13 4)), some (.int 0), none]) (st' := []) rfl ?_
        exact congrArg mz_cV (mz_At_msk (L := [some (.ref 22), some (.int (mz_rd m2 13 4)), some (.int 0), none]) (L2 := [some (.ref 22), some (.int (mz_rd m2 13 4)), some (.int 0), none]) (mz_fe (e := (97, .iload_n 2, 1, (0, 0, 0), [true, true, true, false])) (by decide +kernel)) rfl rfl)
      · refine q_o (mz_fe (e := (62, .aload_n 0, 1, (0, 0, 0), [])) (by decide +kernel)) (pc2 := 63) rfl ?_
        refine q_ic (v := 3) (mz_fe (e := (63, .iconst 3, 1, (0, 0, 0), [])) (by decide +kernel)) (by decide) ?_
        refine q_callV (N := 51) (vs := [.ref 22, .int 3]) (rest := []) (L' := [some (.ref 22), some (.int (mz_rd m2 13 4)), some (.long v10), none]) rfl (mz_fe (e := (64, .invokevirtual 113, 50, (51, 2, 10), [])) (by decide +kernel)) rfl (mz_inv_virt (N := 51) (k := 2) (t := 10) (st := [.int 3, .ref 22]) (rest := []) (b := 22) (vs := [.int 3]) (h := (mz_S0, m12)) rfl rfl (Nat.le_of_ble_eq_true rfl) (Nat.le_of_ble_eq_true rfl) tg_22 (by decide)) (mz_dc_lt (n := 2) rfl (by decide +kernel) (by decide +kernel)) (by decide +kernel) (by decide +kernel) (fun m20 => ?_)
        refine q_o (mz_fe (e := (67, .aload_n 0, 1, (0, 0, 0), [])) (by decide +kernel)) (pc2 := 68) rfl ?_
        refine q_getR (b := 13) (mz_fe (e := (68, .getfield 20, 26, (4, 1, 2), [])) (by decide +kernel)) rfl tg_22 (by rw [ln_22]; decide) (mz_rfS (by decide +kernel)) ?_
        refine q_getR (b := 14) (mz_fe (e := (71, .getfield 116, 39, (8, 0, 2), [])) (by decide +kernel)) rfl tg_13 (by rw [ln_13]; decide) (mz_rfS (by decide +kernel)) ?_
        refine q_o (mz_fe (e := (74, .iload_n 1, 1, (0, 0, 0), [])) (by decide +kernel)) (pc2 := 75) rfl ?_
        refine q_o (mz_fe (e := (75, .lload_n 2, 1, (0, 0, 0), [])) (by decide +kernel)) (pc2 := 76) rfl ?_
        refine q_lastg rfl (mz_fe (e := (76, .lastore, 1, (0, 0, 0), [])) (by decide +kernel)) rfl tg_14 ln_14 (fun g23 => ?_)
        refine q_o (mz_fe (e := (77, .aload_n 0, 1, (0, 0, 0), [])) (by decide +kernel)) (pc2 := 78) rfl ?_
        refine q_getR (b := 13) (mz_fe (e := (78, .getfield 20, 26, (4, 1, 2), [])) (by decide +kernel)) rfl tg_22 (by rw [ln_22]; decide) (mz_rfS (by decide +kernel)) ?_
        refine q_o (mz_fe (e := (81, .dup, 1, (0, 0, 0), [])) (by decide +kernel)) (pc2 := 82) rfl ?_
        refine q_getI (mz_fe (e := (82, .getfield 102, 38, (8, 4, 0), [])) (by decide +kernel)) rfl (by decide) tg_13 (by rw [ln_13]; decide) ?_
        refine q_ic (v := 1) (mz_fe (e := (85, .iconst 1, 1, (0, 0, 0), [])) (by decide +kernel)) (by decide) ?_
        refine q_o (mz_fe (e := (86, .iadd, 1, (0, 0, 0), [])) (by decide +kernel)) (pc2 := 87) rfl ?_
        refine q_putI (mz_fe (e := (87, .putfield 102, 38, (8, 4, 0), [])) (by decide +kernel)) rfl tg_13 (by rw [ln_13]; decide) ?_
        refine q_o (mz_fe (e := (90, .aload_n 0, 1, (0, 0, 0), [])) (by decide +kernel)) (pc2 := 91) rfl ?_
        refine q_ic (v := 2) (mz_fe (e := (91, .iconst 2, 1, (0, 0, 0), [])) (by decide +kernel)) (by decide) ?_
        refine q_callV (N := 49) (vs := [.ref 22, .int 2]) (rest := []) (L' := [some (.ref 22), some (.int (mz_rd m2 13 4)), some (.long v10), none]) rfl (mz_fe (e := (92, .invokevirtual 99, 47, (49, 2, 10), [])) (by decide +kernel)) rfl (mz_inv_virt (N := 49) (k := 2) (t := 10) (st := [.int 2, .ref 22]) (rest := []) (b := 22) (vs := [.int 2]) (h := (mz_S0, (mz_wr (mz_wl m20 14 ((mz_rd m2 13 4) : Int32).toNatClampNeg v10) 13 4 ((mz_rd (mz_wl m20 14 ((mz_rd m2 13 4) : Int32).toNatClampNeg v10) 13 4) + 1)))) rfl rfl (Nat.le_of_ble_eq_true rfl) (Nat.le_of_ble_eq_true rfl) tg_22 (by decide)) (mz_dc_lt (n := 2) rfl (by decide +kernel) (by decide +kernel)) (by decide +kernel) (by decide +kernel) (fun m24 => ?_)
        refine q_ic (v := 0) (mz_fe (e := (95, .iconst 0, 1, (0, 0, 0), [])) (by decide +kernel)) (by decide) ?_
        refine q_s (mz_fe (e := (96, .istore_n 2, 1, (0, 0, 0), [])) (by decide +kernel)) (pc' := 97) (L' := [some (.ref 22), some (.int (mz_rd m2 13 4)), some (.int 0), none]) (st' := []) rfl ?_
        exact congrArg mz_cV (mz_At_msk (L := [some (.ref 22), some (.int (mz_rd m2 13 4)), some (.int 0), none]) (L2 := [some (.ref 22), some (.int (mz_rd m2 13 4)), some (.int 0), none]) (mz_fe (e := (97, .iload_n 2, 1, (0, 0, 0), [true, true, true, false])) (by decide +kernel)) rfl rfl)
  · refine q_o (mz_fe (e := (12, .aload_n 0, 1, (0, 0, 0), [])) (by decide +kernel)) (pc2 := 13) rfl ?_
    refine q_ic (v := 2) (mz_fe (e := (13, .iconst 2, 1, (0, 0, 0), [])) (by decide +kernel)) (by decide) ?_
    refine q_callV (N := 50) (vs := [.ref 22, .int 2]) (rest := []) (L' := [some (.ref 22), none, none, none]) rfl (mz_fe (e := (14, .invokevirtual 73, 42, (50, 2, 10), [])) (by decide +kernel)) rfl (mz_inv_virt (N := 50) (k := 2) (t := 10) (st := [.int 2, .ref 22]) (rest := []) (b := 22) (vs := [.int 2]) (h := (mz_S0, m)) rfl rfl (Nat.le_of_ble_eq_true rfl) (Nat.le_of_ble_eq_true rfl) tg_22 (by decide)) (mz_dc_lt (n := 2) rfl (by decide +kernel) (by decide +kernel)) (by decide +kernel) (by decide +kernel) (fun m27 => ?_)
    exact q_retV (mz_fe (e := (17, .return_, 1, (0, 0, 0), [])) (by decide +kernel)) (by decide +kernel)
set_option maxRecDepth 10000 in
theorem H_X4_readPerson_97_eq (d : Nat) (y1 : Int32) (y2 : Int32) (m : MzM)  : H_X4_readPerson_97 d y1 y2 m = if (4 : Int32) ≤ y2 then some m else ((R_X4_readInt d 0 99 m).bind (fun u33 => mz_g (mz_ok ((y1 * 4) + y2) 24) (H_X4_readPerson_97 d y1 (y2 + 1) (mz_wr u33.2 15 (((y1 * 4) + y2) : Int32).toNatClampNeg u33.1)))) := by
  show mz_cV (mz_T d 53 97 [some (.ref 22), some (.int y1), some (.int y2), none] [] m) = _
  refine q_s (mz_fe (e := (97, .iload_n 2, 1, (0, 0, 0), [true, true, true, false])) (by decide +kernel)) (pc' := 98) (L' := [some (.ref 22), some (.int y1), some (.int y2), none]) (st' := [.int y2]) rfl ?_
  refine q_ic (v := 4) (mz_fe (e := (98, .iconst 4, 1, (0, 0, 0), [])) (by decide +kernel)) (by decide) ?_
  refine q_if (c := .ge) (off := 29) (t := 128) (x := y2) (y := 4) (st := []) (mz_fe (e := (99, .if_icmp .ge 29, 3, (0, 0, 0), [])) (by decide +kernel)) (fun _ => rfl) rfl rfl rfl (fun c30 => ?_) (fun c30 => ?_)
  · exact q_retV (mz_fe (e := (128, .return_, 1, (0, 0, 0), [])) (by decide +kernel)) (by decide +kernel)
  · refine q_o (mz_fe (e := (102, .aload_n 0, 1, (0, 0, 0), [])) (by decide +kernel)) (pc2 := 103) rfl ?_
    refine q_getR (b := 13) (mz_fe (e := (103, .getfield 20, 26, (4, 1, 2), [])) (by decide +kernel)) rfl tg_22 (by rw [ln_22]; decide) (mz_rfS (by decide +kernel)) ?_
    refine q_getR (b := 15) (mz_fe (e := (106, .getfield 120, 40, (8, 1, 2), [])) (by decide +kernel)) rfl tg_13 (by rw [ln_13]; decide) (mz_rfS (by decide +kernel)) ?_
    refine q_o (mz_fe (e := (109, .iload_n 1, 1, (0, 0, 0), [])) (by decide +kernel)) (pc2 := 110) rfl ?_
    refine q_ic (v := 4) (mz_fe (e := (110, .iconst 4, 1, (0, 0, 0), [])) (by decide +kernel)) (by decide) ?_
    refine q_o (mz_fe (e := (111, .imul, 1, (0, 0, 0), [])) (by decide +kernel)) (pc2 := 112) rfl ?_
    refine q_o (mz_fe (e := (112, .iload_n 2, 1, (0, 0, 0), [])) (by decide +kernel)) (pc2 := 113) rfl ?_
    refine q_o (mz_fe (e := (113, .iadd, 1, (0, 0, 0), [])) (by decide +kernel)) (pc2 := 114) rfl ?_
    refine q_o (mz_fe (e := (114, .aload_n 0, 1, (0, 0, 0), [])) (by decide +kernel)) (pc2 := 115) rfl ?_
    refine q_ic (v := 0) (mz_fe (e := (115, .iconst 0, 1, (0, 0, 0), [])) (by decide +kernel)) (by decide) ?_
    refine q_bi (v := 99) (mz_fe (e := (116, .bipush 99, 2, (0, 0, 0), [])) (by decide +kernel)) (by decide) ?_
    refine q_callI (N := 56) (vs := [.ref 22, .int 0, .int 99]) (rest := [.int ((y1 * 4) + y2), .ref 15]) (L' := [some (.ref 22), some (.int y1), some (.int y2), none]) (f := fun v32 m31 => mz_g (mz_ok ((y1 * 4) + y2) 24) (H_X4_readPerson_97 d y1 (y2 + 1) (mz_wr m31 15 (((y1 * 4) + y2) : Int32).toNatClampNeg v32))) rfl (mz_fe (e := (118, .invokevirtual 86, 46, (56, 3, 10), [])) (by decide +kernel)) rfl (mz_inv_virt (N := 56) (k := 3) (t := 10) (st := [.int 99, .int 0, .ref 22, .int ((y1 * 4) + y2), .ref 15]) (rest := [.int ((y1 * 4) + y2), .ref 15]) (b := 22) (vs := [.int 0, .int 99]) (h := (mz_S0, m)) rfl rfl (Nat.le_of_ble_eq_true rfl) (Nat.le_of_ble_eq_true rfl) tg_22 (by decide)) (mz_dc_lt (n := 3) rfl (by decide +kernel) (by decide +kernel)) (by decide +kernel) (Or.inl (by decide +kernel)) (fun v32 m31 => ?_)
    refine q_stAg (f := (fun x => x)) rfl (mz_fe (e := (121, .iastore, 1, (0, 0, 0), [])) (by decide +kernel)) (fun _ => rfl) rfl tg_15 ln_15 (fun g34 => ?_)
    refine q_iinc (v := y2) (c := 1) (L3 := [some (.ref 22), some (.int y1), some (.int (y2 + 1)), none]) (mz_fe (e := (122, .iinc 2 1, 3, (0, 0, 0), [])) (by decide +kernel)) rfl rfl (by decide) rfl ?_
    refine q_o (mz_fe (e := (125, .goto (-28), 3, (0, 0, 0), [])) (by decide +kernel)) (pc2 := 97) rfl ?_
    exact congrArg mz_cV (mz_At_msk (L := [some (.ref 22), some (.int y1), some (.int (y2 + 1)), none]) (L2 := [some (.ref 22), some (.int y1), some (.int (y2 + 1)), none]) (mz_fe (e := (97, .iload_n 2, 1, (0, 0, 0), [true, true, true, false])) (by decide +kernel)) rfl rfl)
set_option maxRecDepth 10000 in
theorem R_X4_readSuit_eq (d : Nat)  (m : MzM)  : R_X4_readSuit d  m = if (mz_rd m 13 5) < 8 then ((R_X4_take d  m).bind (fun m2 => (R_X4_readName d (-1) (mz_wr m2 13 5 ((mz_rd m2 13 5) + 1))).bind (fun u7 => (R_X4_readName d u7.1 u7.2).bind (fun u10 => (R_X4_readInt d 1 30 u10.2).bind (fun u13 => (R_X4_readInt d 0 29 u13.2).bind (fun u16 => (R_X8_setSuit d 13 (mz_rd m2 13 5) u7.1 u10.1 u13.1 u16.1 u16.2).bind (fun m17 => some m17))))))) else ((R_X4_fail d 2 m).bind (fun m20 => some m20)) := by
  show mz_cV (mz_T d 54 0 (mz_en (mz_xl 54) [.ref 22]) [] m) = _
  rw [show mz_en (mz_xl 54) [.ref 22] = [some (.ref 22), none, none, none, none, none] from by rw [show mz_xl 54 = 6 from by decide +kernel]; rfl]
  refine q_o (mz_fe (e := (0, .aload_n 0, 1, (0, 0, 0), [])) (by decide +kernel)) (pc2 := 1) rfl ?_
  refine q_getR (b := 13) (mz_fe (e := (1, .getfield 20, 26, (4, 1, 2), [])) (by decide +kernel)) rfl tg_22 (by rw [ln_22]; decide) (mz_rfS (by decide +kernel)) ?_
  refine q_getI (mz_fe (e := (4, .getfield 124, 41, (8, 5, 0), [])) (by decide +kernel)) rfl (by decide) tg_13 (by rw [ln_13]; decide) ?_
  refine q_bi (v := 8) (mz_fe (e := (7, .bipush 8, 2, (0, 0, 0), [])) (by decide +kernel)) (by decide) ?_
  refine q_if (c := .lt) (off := 9) (t := 18) (x := (mz_rd m 13 5)) (y := 8) (st := []) (mz_fe (e := (9, .if_icmp .lt 9, 3, (0, 0, 0), [])) (by decide +kernel)) (fun _ => rfl) rfl rfl rfl (fun c1 => ?_) (fun c1 => ?_)
  · refine q_o (mz_fe (e := (18, .aload_n 0, 1, (0, 0, 0), [])) (by decide +kernel)) (pc2 := 19) rfl ?_
    refine q_callV (N := 48) (vs := [.ref 22]) (rest := []) (L' := [some (.ref 22), none, none, none, none, none]) rfl (mz_fe (e := (19, .invokevirtual 70, 41, (48, 1, 10), [])) (by decide +kernel)) rfl (mz_inv_virt (N := 48) (k := 1) (t := 10) (st := [.ref 22]) (rest := []) (b := 22) (vs := []) (h := (mz_S0, m)) rfl rfl (Nat.le_of_ble_eq_true rfl) (Nat.le_of_ble_eq_true rfl) tg_22 (by decide)) (mz_dc_lt (n := 1) rfl (by decide +kernel) (by decide +kernel)) (by decide +kernel) (by decide +kernel) (fun m2 => ?_)
    refine q_o (mz_fe (e := (22, .aload_n 0, 1, (0, 0, 0), [])) (by decide +kernel)) (pc2 := 23) rfl ?_
    refine q_getR (b := 13) (mz_fe (e := (23, .getfield 20, 26, (4, 1, 2), [])) (by decide +kernel)) rfl tg_22 (by rw [ln_22]; decide) (mz_rfS (by decide +kernel)) ?_
    refine q_getI (mz_fe (e := (26, .getfield 124, 41, (8, 5, 0), [])) (by decide +kernel)) rfl (by decide) tg_13 (by rw [ln_13]; decide) ?_
    refine q_s (mz_fe (e := (29, .istore_n 1, 1, (0, 0, 0), [])) (by decide +kernel)) (pc' := 30) (L' := [some (.ref 22), some (.int (mz_rd m2 13 5)), none, none, none, none]) (st' := []) rfl ?_
    refine q_o (mz_fe (e := (30, .aload_n 0, 1, (0, 0, 0), [])) (by decide +kernel)) (pc2 := 31) rfl ?_
    refine q_getR (b := 13) (mz_fe (e := (31, .getfield 20, 26, (4, 1, 2), [])) (by decide +kernel)) rfl tg_22 (by rw [ln_22]; decide) (mz_rfS (by decide +kernel)) ?_
    refine q_o (mz_fe (e := (34, .dup, 1, (0, 0, 0), [])) (by decide +kernel)) (pc2 := 35) rfl ?_
    refine q_getI (mz_fe (e := (35, .getfield 124, 41, (8, 5, 0), [])) (by decide +kernel)) rfl (by decide) tg_13 (by rw [ln_13]; decide) ?_
    refine q_ic (v := 1) (mz_fe (e := (38, .iconst 1, 1, (0, 0, 0), [])) (by decide +kernel)) (by decide) ?_
    refine q_o (mz_fe (e := (39, .iadd, 1, (0, 0, 0), [])) (by decide +kernel)) (pc2 := 40) rfl ?_
    refine q_putI (mz_fe (e := (40, .putfield 124, 41, (8, 5, 0), [])) (by decide +kernel)) rfl tg_13 (by rw [ln_13]; decide) ?_
    refine q_o (mz_fe (e := (43, .aload_n 0, 1, (0, 0, 0), [])) (by decide +kernel)) (pc2 := 44) rfl ?_
    refine q_ic (v := (-1)) (mz_fe (e := (44, .iconst (-1), 1, (0, 0, 0), [])) (by decide +kernel)) (by decide) ?_
    refine q_callI (N := 55) (vs := [.ref 22, .int (-1)]) (rest := []) (L' := [some (.ref 22), some (.int (mz_rd m2 13 5)), none, none, none, none]) (f := fun v6 m5 => (R_X4_readName d v6 m5).bind (fun u10 => (R_X4_readInt d 1 30 u10.2).bind (fun u13 => (R_X4_readInt d 0 29 u13.2).bind (fun u16 => (R_X8_setSuit d 13 (mz_rd m2 13 5) v6 u10.1 u13.1 u16.1 u16.2).bind (fun m17 => some m17))))) rfl (mz_fe (e := (45, .invokevirtual 127, 51, (55, 2, 10), [])) (by decide +kernel)) rfl (mz_inv_virt (N := 55) (k := 2) (t := 10) (st := [.int (-1), .ref 22]) (rest := []) (b := 22) (vs := [.int (-1)]) (h := (mz_S0, (mz_wr m2 13 5 ((mz_rd m2 13 5) + 1)))) rfl rfl (Nat.le_of_ble_eq_true rfl) (Nat.le_of_ble_eq_true rfl) tg_22 (by decide)) (mz_dc_lt (n := 2) rfl (by decide +kernel) (by decide +kernel)) (by decide +kernel) (Or.inl (by decide +kernel)) (fun v6 m5 => ?_)
    refine q_s (mz_fe (e := (48, .istore_n 2, 1, (0, 0, 0), [])) (by decide +kernel)) (pc' := 49) (L' := [some (.ref 22), some (.int (mz_rd m2 13 5)), some (.int v6), none, none, none]) (st' := []) rfl ?_
    refine q_o (mz_fe (e := (49, .aload_n 0, 1, (0, 0, 0), [])) (by decide +kernel)) (pc2 := 50) rfl ?_
    refine q_o (mz_fe (e := (50, .iload_n 2, 1, (0, 0, 0), [])) (by decide +kernel)) (pc2 := 51) rfl ?_
    refine q_callI (N := 55) (vs := [.ref 22, .int v6]) (rest := []) (L' := [some (.ref 22), some (.int (mz_rd m2 13 5)), some (.int v6), none, none, none]) (f := fun v9 m8 => (R_X4_readInt d 1 30 m8).bind (fun u13 => (R_X4_readInt d 0 29 u13.2).bind (fun u16 => (R_X8_setSuit d 13 (mz_rd m2 13 5) v6 v9 u13.1 u16.1 u16.2).bind (fun m17 => some m17)))) rfl (mz_fe (e := (51, .invokevirtual 127, 51, (55, 2, 10), [])) (by decide +kernel)) rfl (mz_inv_virt (N := 55) (k := 2) (t := 10) (st := [.int v6, .ref 22]) (rest := []) (b := 22) (vs := [.int v6]) (h := (mz_S0, m5)) rfl rfl (Nat.le_of_ble_eq_true rfl) (Nat.le_of_ble_eq_true rfl) tg_22 (by decide)) (mz_dc_lt (n := 2) rfl (by decide +kernel) (by decide +kernel)) (by decide +kernel) (Or.inl (by decide +kernel)) (fun v9 m8 => ?_)
    refine q_s (mz_fe (e := (54, .istore_n 3, 1, (0, 0, 0), [])) (by decide +kernel)) (pc' := 55) (L' := [some (.ref 22), some (.int (mz_rd m2 13 5)), some (.int v6), some (.int v9), none, none]) (st' := []) rfl ?_
    refine q_o (mz_fe (e := (55, .aload_n 0, 1, (0, 0, 0), [])) (by decide +kernel)) (pc2 := 56) rfl ?_
    refine q_ic (v := 1) (mz_fe (e := (56, .iconst 1, 1, (0, 0, 0), [])) (by decide +kernel)) (by decide) ?_
    refine q_bi (v := 30) (mz_fe (e := (57, .bipush 30, 2, (0, 0, 0), [])) (by decide +kernel)) (by decide) ?_
    refine q_callI (N := 56) (vs := [.ref 22, .int 1, .int 30]) (rest := []) (L' := [some (.ref 22), some (.int (mz_rd m2 13 5)), some (.int v6), some (.int v9), none, none]) (f := fun v12 m11 => (R_X4_readInt d 0 29 m11).bind (fun u16 => (R_X8_setSuit d 13 (mz_rd m2 13 5) v6 v9 v12 u16.1 u16.2).bind (fun m17 => some m17))) rfl (mz_fe (e := (59, .invokevirtual 86, 46, (56, 3, 10), [])) (by decide +kernel)) rfl (mz_inv_virt (N := 56) (k := 3) (t := 10) (st := [.int 30, .int 1, .ref 22]) (rest := []) (b := 22) (vs := [.int 1, .int 30]) (h := (mz_S0, m8)) rfl rfl (Nat.le_of_ble_eq_true rfl) (Nat.le_of_ble_eq_true rfl) tg_22 (by decide)) (mz_dc_lt (n := 3) rfl (by decide +kernel) (by decide +kernel)) (by decide +kernel) (Or.inl (by decide +kernel)) (fun v12 m11 => ?_)
    refine q_s (mz_fe (e := (62, .istore 4, 2, (0, 0, 0), [])) (by decide +kernel)) (pc' := 64) (L' := [some (.ref 22), some (.int (mz_rd m2 13 5)), some (.int v6), some (.int v9), some (.int v12), none]) (st' := []) rfl ?_
    refine q_o (mz_fe (e := (64, .aload_n 0, 1, (0, 0, 0), [])) (by decide +kernel)) (pc2 := 65) rfl ?_
    refine q_ic (v := 0) (mz_fe (e := (65, .iconst 0, 1, (0, 0, 0), [])) (by decide +kernel)) (by decide) ?_
    refine q_bi (v := 29) (mz_fe (e := (66, .bipush 29, 2, (0, 0, 0), [])) (by decide +kernel)) (by decide) ?_
    refine q_callI (N := 56) (vs := [.ref 22, .int 0, .int 29]) (rest := []) (L' := [some (.ref 22), some (.int (mz_rd m2 13 5)), some (.int v6), some (.int v9), some (.int v12), none]) (f := fun v15 m14 => (R_X8_setSuit d 13 (mz_rd m2 13 5) v6 v9 v12 v15 m14).bind (fun m17 => some m17)) rfl (mz_fe (e := (68, .invokevirtual 86, 46, (56, 3, 10), [])) (by decide +kernel)) rfl (mz_inv_virt (N := 56) (k := 3) (t := 10) (st := [.int 29, .int 0, .ref 22]) (rest := []) (b := 22) (vs := [.int 0, .int 29]) (h := (mz_S0, m11)) rfl rfl (Nat.le_of_ble_eq_true rfl) (Nat.le_of_ble_eq_true rfl) tg_22 (by decide)) (mz_dc_lt (n := 3) rfl (by decide +kernel) (by decide +kernel)) (by decide +kernel) (Or.inl (by decide +kernel)) (fun v15 m14 => ?_)
    refine q_s (mz_fe (e := (71, .istore 5, 2, (0, 0, 0), [])) (by decide +kernel)) (pc' := 73) (L' := [some (.ref 22), some (.int (mz_rd m2 13 5)), some (.int v6), some (.int v9), some (.int v12), some (.int v15)]) (st' := []) rfl ?_
    refine q_o (mz_fe (e := (73, .aload_n 0, 1, (0, 0, 0), [])) (by decide +kernel)) (pc2 := 74) rfl ?_
    refine q_getR (b := 13) (mz_fe (e := (74, .getfield 20, 26, (4, 1, 2), [])) (by decide +kernel)) rfl tg_22 (by rw [ln_22]; decide) (mz_rfS (by decide +kernel)) ?_
    refine q_o (mz_fe (e := (77, .iload_n 1, 1, (0, 0, 0), [])) (by decide +kernel)) (pc2 := 78) rfl ?_
    refine q_o (mz_fe (e := (78, .iload_n 2, 1, (0, 0, 0), [])) (by decide +kernel)) (pc2 := 79) rfl ?_
    refine q_o (mz_fe (e := (79, .iload_n 3, 1, (0, 0, 0), [])) (by decide +kernel)) (pc2 := 80) rfl ?_
    refine q_o (mz_fe (e := (80, .iload 4, 2, (0, 0, 0), [])) (by decide +kernel)) (pc2 := 82) rfl ?_
    refine q_o (mz_fe (e := (82, .iload 5, 2, (0, 0, 0), [])) (by decide +kernel)) (pc2 := 84) rfl ?_
    refine q_callV (N := 85) (vs := [.ref 13, .int (mz_rd m2 13 5), .int v6, .int v9, .int v12, .int v15]) (rest := []) (L' := [some (.ref 22), some (.int (mz_rd m2 13 5)), some (.int v6), some (.int v9), some (.int v12), some (.int v15)]) rfl (mz_fe (e := (84, .invokevirtual 130, 52, (85, 6, 14), [])) (by decide +kernel)) rfl (mz_inv_virt (N := 85) (k := 6) (t := 14) (st := [.int v15, .int v12, .int v9, .int v6, .int (mz_rd m2 13 5), .ref 13]) (rest := []) (b := 13) (vs := [.int (mz_rd m2 13 5), .int v6, .int v9, .int v12, .int v15]) (h := (mz_S0, m14)) rfl rfl (Nat.le_of_ble_eq_true rfl) (Nat.le_of_ble_eq_true rfl) tg_13 (by decide)) (mz_dc_lt (n := 6) rfl (by decide +kernel) (by decide +kernel)) (by decide +kernel) (by decide +kernel) (fun m17 => ?_)
    exact q_retV (mz_fe (e := (87, .return_, 1, (0, 0, 0), [])) (by decide +kernel)) (by decide +kernel)
  · refine q_o (mz_fe (e := (12, .aload_n 0, 1, (0, 0, 0), [])) (by decide +kernel)) (pc2 := 13) rfl ?_
    refine q_ic (v := 2) (mz_fe (e := (13, .iconst 2, 1, (0, 0, 0), [])) (by decide +kernel)) (by decide) ?_
    refine q_callV (N := 50) (vs := [.ref 22, .int 2]) (rest := []) (L' := [some (.ref 22), none, none, none, none, none]) rfl (mz_fe (e := (14, .invokevirtual 73, 42, (50, 2, 10), [])) (by decide +kernel)) rfl (mz_inv_virt (N := 50) (k := 2) (t := 10) (st := [.int 2, .ref 22]) (rest := []) (b := 22) (vs := [.int 2]) (h := (mz_S0, m)) rfl rfl (Nat.le_of_ble_eq_true rfl) (Nat.le_of_ble_eq_true rfl) tg_22 (by decide)) (mz_dc_lt (n := 2) rfl (by decide +kernel) (by decide +kernel)) (by decide +kernel) (by decide +kernel) (fun m20 => ?_)
    exact q_retV (mz_fe (e := (17, .return_, 1, (0, 0, 0), [])) (by decide +kernel)) (by decide +kernel)
set_option maxRecDepth 10000 in
theorem R_X4_readName_eq (d : Nat) (x0 : Int32) (m : MzM)  : R_X4_readName d x0 m = if ¬ (mz_rd m 22 3) = 2 then ((R_X4_expect d 2 m).bind (fun m2 => some ((-1), m2))) else ((R_X9_value d (mz_rd m 22 2) m).bind (fun u7 => (R_X8_personNamed d 13 u7.1 u7.2).bind (fun u10 => if ¬ u10.1 = (-1) then (if ¬ u10.1 = x0 then ((R_X4_expect d 2 u10.2).bind (fun m13 => some (u10.1, m13))) else ((R_X4_failLater d 3 u10.2).bind (fun m16 => (R_X4_expect d 2 m16).bind (fun m19 => some (u10.1, m19))))) else ((R_X4_failLater d 4 u10.2).bind (fun m22 => (R_X4_expect d 2 m22).bind (fun m25 => some (u10.1, m25))))))) := by
  show mz_cI (mz_T d 55 0 (mz_en (mz_xl 55) [.ref 22, .int x0]) [] m) = _
  rw [show mz_en (mz_xl 55) [.ref 22, .int x0] = [some (.ref 22), some (.int x0), none] from by rw [show mz_xl 55 = 3 from by decide +kernel]; rfl]
  refine q_ic (v := (-1)) (mz_fe (e := (0, .iconst (-1), 1, (0, 0, 0), [])) (by decide +kernel)) (by decide) ?_
  refine q_s (mz_fe (e := (1, .istore_n 2, 1, (0, 0, 0), [])) (by decide +kernel)) (pc' := 2) (L' := [some (.ref 22), some (.int x0), some (.int (-1))]) (st' := []) rfl ?_
  refine q_o (mz_fe (e := (2, .aload_n 0, 1, (0, 0, 0), [])) (by decide +kernel)) (pc2 := 3) rfl ?_
  refine q_getI (mz_fe (e := (3, .getfield 46, 30, (4, 3, 0), [])) (by decide +kernel)) rfl (by decide) tg_22 (by rw [ln_22]; decide) ?_
  refine q_ic (v := 2) (mz_fe (e := (6, .iconst 2, 1, (0, 0, 0), [])) (by decide +kernel)) (by decide) ?_
  refine q_if (c := .ne) (off := 45) (t := 52) (x := (mz_rd m 22 3)) (y := 2) (st := []) (mz_fe (e := (7, .if_icmp .ne 45, 3, (0, 0, 0), [])) (by decide +kernel)) (fun _ => rfl) rfl rfl rfl (fun c1 => ?_) (fun c1 => ?_)
  · refine q_o (mz_fe (e := (52, .aload_n 0, 1, (0, 0, 0), [])) (by decide +kernel)) (pc2 := 53) rfl ?_
    refine q_ic (v := 2) (mz_fe (e := (53, .iconst 2, 1, (0, 0, 0), [])) (by decide +kernel)) (by decide) ?_
    refine q_callV (N := 49) (vs := [.ref 22, .int 2]) (rest := []) (L' := [some (.ref 22), some (.int x0), some (.int (-1))]) rfl (mz_fe (e := (54, .invokevirtual 99, 47, (49, 2, 10), [])) (by decide +kernel)) rfl (mz_inv_virt (N := 49) (k := 2) (t := 10) (st := [.int 2, .ref 22]) (rest := []) (b := 22) (vs := [.int 2]) (h := (mz_S0, m)) rfl rfl (Nat.le_of_ble_eq_true rfl) (Nat.le_of_ble_eq_true rfl) tg_22 (by decide)) (mz_dc_lt (n := 2) rfl (by decide +kernel) (by decide +kernel)) (by decide +kernel) (by decide +kernel) (fun m2 => ?_)
    refine q_o (mz_fe (e := (57, .iload_n 2, 1, (0, 0, 0), [])) (by decide +kernel)) (pc2 := 58) rfl ?_
    exact q_retI (mz_fe (e := (58, .ireturn, 1, (0, 0, 0), [])) (by decide +kernel)) (by decide +kernel)
  · refine q_o (mz_fe (e := (10, .aload_n 0, 1, (0, 0, 0), [])) (by decide +kernel)) (pc2 := 11) rfl ?_
    refine q_getR (b := 13) (mz_fe (e := (11, .getfield 20, 26, (4, 1, 2), [])) (by decide +kernel)) rfl tg_22 (by rw [ln_22]; decide) (mz_rfS (by decide +kernel)) ?_
    refine q_o (mz_fe (e := (14, .aload_n 0, 1, (0, 0, 0), [])) (by decide +kernel)) (pc2 := 15) rfl ?_
    refine q_getR (b := 23) (mz_fe (e := (15, .getfield 14, 25, (4, 0, 2), [])) (by decide +kernel)) rfl tg_22 (by rw [ln_22]; decide) (mz_rfS (by decide +kernel)) ?_
    refine q_o (mz_fe (e := (18, .aload_n 0, 1, (0, 0, 0), [])) (by decide +kernel)) (pc2 := 19) rfl ?_
    refine q_getI (mz_fe (e := (19, .getfield 39, 29, (4, 2, 0), [])) (by decide +kernel)) rfl (by decide) tg_22 (by rw [ln_22]; decide) ?_
    refine q_callJ (N := 96) (vs := [.ref 23, .int (mz_rd m 22 2)]) (rest := [.ref 13]) (L' := [some (.ref 22), some (.int x0), some (.int (-1))]) (f := fun v6 m5 => (R_X8_personNamed d 13 v6 m5).bind (fun u10 => if ¬ u10.1 = (-1) then (if ¬ u10.1 = x0 then ((R_X4_expect d 2 u10.2).bind (fun m13 => some (u10.1, m13))) else ((R_X4_failLater d 3 u10.2).bind (fun m16 => (R_X4_expect d 2 m16).bind (fun m19 => some (u10.1, m19))))) else ((R_X4_failLater d 4 u10.2).bind (fun m22 => (R_X4_expect d 2 m22).bind (fun m25 => some (u10.1, m25)))))) rfl (mz_fe (e := (22, .invokevirtual 105, 48, (96, 2, 15), [])) (by decide +kernel)) rfl (mz_inv_virt (N := 96) (k := 2) (t := 15) (st := [.int (mz_rd m 22 2), .ref 23, .ref 13]) (rest := [.ref 13]) (b := 23) (vs := [.int (mz_rd m 22 2)]) (h := (mz_S0, m)) rfl rfl (Nat.le_of_ble_eq_true rfl) (Nat.le_of_ble_eq_true rfl) tg_23 (by decide)) (mz_dc_lt (n := 2) rfl (by decide +kernel) (by decide +kernel)) (by decide +kernel) (by decide +kernel) (fun v6 m5 => ?_)
    refine q_callI (N := 84) (vs := [.ref 13, .long v6]) (rest := []) (L' := [some (.ref 22), some (.int x0), some (.int (-1))]) (f := fun v9 m8 => if ¬ v9 = (-1) then (if ¬ v9 = x0 then ((R_X4_expect d 2 m8).bind (fun m13 => some (v9, m13))) else ((R_X4_failLater d 3 m8).bind (fun m16 => (R_X4_expect d 2 m16).bind (fun m19 => some (v9, m19))))) else ((R_X4_failLater d 4 m8).bind (fun m22 => (R_X4_expect d 2 m22).bind (fun m25 => some (v9, m25))))) rfl (mz_fe (e := (25, .invokevirtual 109, 49, (84, 2, 14), [])) (by decide +kernel)) rfl (mz_inv_virt (N := 84) (k := 2) (t := 14) (st := [.long v6, .ref 13]) (rest := []) (b := 13) (vs := [.long v6]) (h := (mz_S0, m5)) rfl rfl (Nat.le_of_ble_eq_true rfl) (Nat.le_of_ble_eq_true rfl) tg_13 (by decide)) (mz_dc_lt (n := 3) rfl (by decide +kernel) (by decide +kernel)) (by decide +kernel) (Or.inl (by decide +kernel)) (fun v9 m8 => ?_)
    refine q_s (mz_fe (e := (28, .istore_n 2, 1, (0, 0, 0), [])) (by decide +kernel)) (pc' := 29) (L' := [some (.ref 22), some (.int x0), some (.int v9)]) (st' := []) rfl ?_
    refine q_o (mz_fe (e := (29, .iload_n 2, 1, (0, 0, 0), [])) (by decide +kernel)) (pc2 := 30) rfl ?_
    refine q_ic (v := (-1)) (mz_fe (e := (30, .iconst (-1), 1, (0, 0, 0), [])) (by decide +kernel)) (by decide) ?_
    refine q_if (c := .ne) (off := 11) (t := 42) (x := v9) (y := (-1)) (st := []) (mz_fe (e := (31, .if_icmp .ne 11, 3, (0, 0, 0), [])) (by decide +kernel)) (fun _ => rfl) rfl rfl rfl (fun c11 => ?_) (fun c11 => ?_)
    · refine q_o (mz_fe (e := (42, .iload_n 2, 1, (0, 0, 0), [])) (by decide +kernel)) (pc2 := 43) rfl ?_
      refine q_o (mz_fe (e := (43, .iload_n 1, 1, (0, 0, 0), [])) (by decide +kernel)) (pc2 := 44) rfl ?_
      refine q_if (c := .ne) (off := 8) (t := 52) (x := v9) (y := x0) (st := []) (mz_fe (e := (44, .if_icmp .ne 8, 3, (0, 0, 0), [])) (by decide +kernel)) (fun _ => rfl) rfl rfl rfl (fun c12 => ?_) (fun c12 => ?_)
      · refine q_o (mz_fe (e := (52, .aload_n 0, 1, (0, 0, 0), [])) (by decide +kernel)) (pc2 := 53) rfl ?_
        refine q_ic (v := 2) (mz_fe (e := (53, .iconst 2, 1, (0, 0, 0), [])) (by decide +kernel)) (by decide) ?_
        refine q_callV (N := 49) (vs := [.ref 22, .int 2]) (rest := []) (L' := [some (.ref 22), some (.int x0), some (.int v9)]) rfl (mz_fe (e := (54, .invokevirtual 99, 47, (49, 2, 10), [])) (by decide +kernel)) rfl (mz_inv_virt (N := 49) (k := 2) (t := 10) (st := [.int 2, .ref 22]) (rest := []) (b := 22) (vs := [.int 2]) (h := (mz_S0, m8)) rfl rfl (Nat.le_of_ble_eq_true rfl) (Nat.le_of_ble_eq_true rfl) tg_22 (by decide)) (mz_dc_lt (n := 2) rfl (by decide +kernel) (by decide +kernel)) (by decide +kernel) (by decide +kernel) (fun m13 => ?_)
        refine q_o (mz_fe (e := (57, .iload_n 2, 1, (0, 0, 0), [])) (by decide +kernel)) (pc2 := 58) rfl ?_
        exact q_retI (mz_fe (e := (58, .ireturn, 1, (0, 0, 0), [])) (by decide +kernel)) (by decide +kernel)
      · refine q_o (mz_fe (e := (47, .aload_n 0, 1, (0, 0, 0), [])) (by decide +kernel)) (pc2 := 48) rfl ?_
        refine q_ic (v := 3) (mz_fe (e := (48, .iconst 3, 1, (0, 0, 0), [])) (by decide +kernel)) (by decide) ?_
        refine q_callV (N := 51) (vs := [.ref 22, .int 3]) (rest := []) (L' := [some (.ref 22), some (.int x0), some (.int v9)]) rfl (mz_fe (e := (49, .invokevirtual 113, 50, (51, 2, 10), [])) (by decide +kernel)) rfl (mz_inv_virt (N := 51) (k := 2) (t := 10) (st := [.int 3, .ref 22]) (rest := []) (b := 22) (vs := [.int 3]) (h := (mz_S0, m8)) rfl rfl (Nat.le_of_ble_eq_true rfl) (Nat.le_of_ble_eq_true rfl) tg_22 (by decide)) (mz_dc_lt (n := 2) rfl (by decide +kernel) (by decide +kernel)) (by decide +kernel) (by decide +kernel) (fun m16 => ?_)
        refine q_o (mz_fe (e := (52, .aload_n 0, 1, (0, 0, 0), [])) (by decide +kernel)) (pc2 := 53) rfl ?_
        refine q_ic (v := 2) (mz_fe (e := (53, .iconst 2, 1, (0, 0, 0), [])) (by decide +kernel)) (by decide) ?_
        refine q_callV (N := 49) (vs := [.ref 22, .int 2]) (rest := []) (L' := [some (.ref 22), some (.int x0), some (.int v9)]) rfl (mz_fe (e := (54, .invokevirtual 99, 47, (49, 2, 10), [])) (by decide +kernel)) rfl (mz_inv_virt (N := 49) (k := 2) (t := 10) (st := [.int 2, .ref 22]) (rest := []) (b := 22) (vs := [.int 2]) (h := (mz_S0, m16)) rfl rfl (Nat.le_of_ble_eq_true rfl) (Nat.le_of_ble_eq_true rfl) tg_22 (by decide)) (mz_dc_lt (n := 2) rfl (by decide +kernel) (by decide +kernel)) (by decide +kernel) (by decide +kernel) (fun m19 => ?_)
        refine q_o (mz_fe (e := (57, .iload_n 2, 1, (0, 0, 0), [])) (by decide +kernel)) (pc2 := 58) rfl ?_
        exact q_retI (mz_fe (e := (58, .ireturn, 1, (0, 0, 0), [])) (by decide +kernel)) (by decide +kernel)
    · refine q_o (mz_fe (e := (34, .aload_n 0, 1, (0, 0, 0), [])) (by decide +kernel)) (pc2 := 35) rfl ?_
      refine q_ic (v := 4) (mz_fe (e := (35, .iconst 4, 1, (0, 0, 0), [])) (by decide +kernel)) (by decide) ?_
      refine q_callV (N := 51) (vs := [.ref 22, .int 4]) (rest := []) (L' := [some (.ref 22), some (.int x0), some (.int v9)]) rfl (mz_fe (e := (36, .invokevirtual 113, 50, (51, 2, 10), [])) (by decide +kernel)) rfl (mz_inv_virt (N := 51) (k := 2) (t := 10) (st := [.int 4, .ref 22]) (rest := []) (b := 22) (vs := [.int 4]) (h := (mz_S0, m8)) rfl rfl (Nat.le_of_ble_eq_true rfl) (Nat.le_of_ble_eq_true rfl) tg_22 (by decide)) (mz_dc_lt (n := 2) rfl (by decide +kernel) (by decide +kernel)) (by decide +kernel) (by decide +kernel) (fun m22 => ?_)
      refine q_o (mz_fe (e := (39, .goto 13, 3, (0, 0, 0), [])) (by decide +kernel)) (pc2 := 52) rfl ?_
      refine q_o (mz_fe (e := (52, .aload_n 0, 1, (0, 0, 0), [])) (by decide +kernel)) (pc2 := 53) rfl ?_
      refine q_ic (v := 2) (mz_fe (e := (53, .iconst 2, 1, (0, 0, 0), [])) (by decide +kernel)) (by decide) ?_
      refine q_callV (N := 49) (vs := [.ref 22, .int 2]) (rest := []) (L' := [some (.ref 22), some (.int x0), some (.int v9)]) rfl (mz_fe (e := (54, .invokevirtual 99, 47, (49, 2, 10), [])) (by decide +kernel)) rfl (mz_inv_virt (N := 49) (k := 2) (t := 10) (st := [.int 2, .ref 22]) (rest := []) (b := 22) (vs := [.int 2]) (h := (mz_S0, m22)) rfl rfl (Nat.le_of_ble_eq_true rfl) (Nat.le_of_ble_eq_true rfl) tg_22 (by decide)) (mz_dc_lt (n := 2) rfl (by decide +kernel) (by decide +kernel)) (by decide +kernel) (by decide +kernel) (fun m25 => ?_)
      refine q_o (mz_fe (e := (57, .iload_n 2, 1, (0, 0, 0), [])) (by decide +kernel)) (pc2 := 58) rfl ?_
      exact q_retI (mz_fe (e := (58, .ireturn, 1, (0, 0, 0), [])) (by decide +kernel)) (by decide +kernel)
set_option maxRecDepth 10000 in
theorem R_X4_readInt_eq (d : Nat) (x0 : Int32) (x1 : Int32) (m : MzM)  : R_X4_readInt d x0 x1 m = (R_X9_value d (mz_rd m 22 2) m).bind (fun u3 => if ¬ (mz_rd u3.2 22 3) = 3 then ((R_X4_expect d 3 u3.2).bind (fun m5 => some ((u3.1 : Int64).toInt32, m5))) else (if (u3.1 : Int64).toInt32 < x0 then ((R_X4_failLater d 5 u3.2).bind (fun m9 => (R_X4_expect d 3 m9).bind (fun m12 => some ((u3.1 : Int64).toInt32, m12)))) else (if (u3.1 : Int64).toInt32 ≤ x1 then ((R_X4_expect d 3 u3.2).bind (fun m16 => some ((u3.1 : Int64).toInt32, m16))) else ((R_X4_failLater d 5 u3.2).bind (fun m19 => (R_X4_expect d 3 m19).bind (fun m22 => some ((u3.1 : Int64).toInt32, m22))))))) := by
  show mz_cI (mz_T d 56 0 (mz_en (mz_xl 56) [.ref 22, .int x0, .int x1]) [] m) = _
  rw [show mz_en (mz_xl 56) [.ref 22, .int x0, .int x1] = [some (.ref 22), some (.int x0), some (.int x1), none] from by rw [show mz_xl 56 = 4 from by decide +kernel]; rfl]
  refine q_o (mz_fe (e := (0, .aload_n 0, 1, (0, 0, 0), [])) (by decide +kernel)) (pc2 := 1) rfl ?_
  refine q_getR (b := 23) (mz_fe (e := (1, .getfield 14, 25, (4, 0, 2), [])) (by decide +kernel)) rfl tg_22 (by rw [ln_22]; decide) (mz_rfS (by decide +kernel)) ?_
  refine q_o (mz_fe (e := (4, .aload_n 0, 1, (0, 0, 0), [])) (by decide +kernel)) (pc2 := 5) rfl ?_
  refine q_getI (mz_fe (e := (5, .getfield 39, 29, (4, 2, 0), [])) (by decide +kernel)) rfl (by decide) tg_22 (by rw [ln_22]; decide) ?_
  refine q_callJ (N := 96) (vs := [.ref 23, .int (mz_rd m 22 2)]) (rest := []) (L' := [some (.ref 22), some (.int x0), some (.int x1), none]) (f := fun v2 m1 => if ¬ (mz_rd m1 22 3) = 3 then ((R_X4_expect d 3 m1).bind (fun m5 => some ((v2 : Int64).toInt32, m5))) else (if (v2 : Int64).toInt32 < x0 then ((R_X4_failLater d 5 m1).bind (fun m9 => (R_X4_expect d 3 m9).bind (fun m12 => some ((v2 : Int64).toInt32, m12)))) else (if (v2 : Int64).toInt32 ≤ x1 then ((R_X4_expect d 3 m1).bind (fun m16 => some ((v2 : Int64).toInt32, m16))) else ((R_X4_failLater d 5 m1).bind (fun m19 => (R_X4_expect d 3 m19).bind (fun m22 => some ((v2 : Int64).toInt32, m22))))))) rfl (mz_fe (e := (8, .invokevirtual 105, 48, (96, 2, 15), [])) (by decide +kernel)) rfl (mz_inv_virt (N := 96) (k := 2) (t := 15) (st := [.int (mz_rd m 22 2), .ref 23]) (rest := []) (b := 23) (vs := [.int (mz_rd m 22 2)]) (h := (mz_S0, m)) rfl rfl (Nat.le_of_ble_eq_true rfl) (Nat.le_of_ble_eq_true rfl) tg_23 (by decide)) (mz_dc_lt (n := 2) rfl (by decide +kernel) (by decide +kernel)) (by decide +kernel) (by decide +kernel) (fun v2 m1 => ?_)
  refine q_o (mz_fe (e := (11, .l2i, 1, (0, 0, 0), [])) (by decide +kernel)) (pc2 := 12) rfl ?_
  refine q_s (mz_fe (e := (12, .istore_n 3, 1, (0, 0, 0), [])) (by decide +kernel)) (pc' := 13) (L' := [some (.ref 22), some (.int x0), some (.int x1), some (.int (v2 : Int64).toInt32)]) (st' := []) rfl ?_
  refine q_o (mz_fe (e := (13, .aload_n 0, 1, (0, 0, 0), [])) (by decide +kernel)) (pc2 := 14) rfl ?_
  refine q_getI (mz_fe (e := (14, .getfield 46, 30, (4, 3, 0), [])) (by decide +kernel)) rfl (by decide) tg_22 (by rw [ln_22]; decide) ?_
  refine q_ic (v := 3) (mz_fe (e := (17, .iconst 3, 1, (0, 0, 0), [])) (by decide +kernel)) (by decide) ?_
  refine q_if (c := .ne) (off := 18) (t := 36) (x := (mz_rd m1 22 3)) (y := 3) (st := []) (mz_fe (e := (18, .if_icmp .ne 18, 3, (0, 0, 0), [])) (by decide +kernel)) (fun _ => rfl) rfl rfl rfl (fun c4 => ?_) (fun c4 => ?_)
  · refine q_o (mz_fe (e := (36, .aload_n 0, 1, (0, 0, 0), [])) (by decide +kernel)) (pc2 := 37) rfl ?_
    refine q_ic (v := 3) (mz_fe (e := (37, .iconst 3, 1, (0, 0, 0), [])) (by decide +kernel)) (by decide) ?_
    refine q_callV (N := 49) (vs := [.ref 22, .int 3]) (rest := []) (L' := [some (.ref 22), some (.int x0), some (.int x1), some (.int (v2 : Int64).toInt32)]) rfl (mz_fe (e := (38, .invokevirtual 99, 47, (49, 2, 10), [])) (by decide +kernel)) rfl (mz_inv_virt (N := 49) (k := 2) (t := 10) (st := [.int 3, .ref 22]) (rest := []) (b := 22) (vs := [.int 3]) (h := (mz_S0, m1)) rfl rfl (Nat.le_of_ble_eq_true rfl) (Nat.le_of_ble_eq_true rfl) tg_22 (by decide)) (mz_dc_lt (n := 2) rfl (by decide +kernel) (by decide +kernel)) (by decide +kernel) (by decide +kernel) (fun m5 => ?_)
    refine q_o (mz_fe (e := (41, .iload_n 3, 1, (0, 0, 0), [])) (by decide +kernel)) (pc2 := 42) rfl ?_
    exact q_retI (mz_fe (e := (42, .ireturn, 1, (0, 0, 0), [])) (by decide +kernel)) (by decide +kernel)
  · refine q_o (mz_fe (e := (21, .iload_n 3, 1, (0, 0, 0), [])) (by decide +kernel)) (pc2 := 22) rfl ?_
    refine q_o (mz_fe (e := (22, .iload_n 1, 1, (0, 0, 0), [])) (by decide +kernel)) (pc2 := 23) rfl ?_
    refine q_if (c := .lt) (off := 8) (t := 31) (x := (v2 : Int64).toInt32) (y := x0) (st := []) (mz_fe (e := (23, .if_icmp .lt 8, 3, (0, 0, 0), [])) (by decide +kernel)) (fun _ => rfl) rfl rfl rfl (fun c8 => ?_) (fun c8 => ?_)
    · refine q_o (mz_fe (e := (31, .aload_n 0, 1, (0, 0, 0), [])) (by decide +kernel)) (pc2 := 32) rfl ?_
      refine q_ic (v := 5) (mz_fe (e := (32, .iconst 5, 1, (0, 0, 0), [])) (by decide +kernel)) (by decide) ?_
      refine q_callV (N := 51) (vs := [.ref 22, .int 5]) (rest := []) (L' := [some (.ref 22), some (.int x0), some (.int x1), some (.int (v2 : Int64).toInt32)]) rfl (mz_fe (e := (33, .invokevirtual 113, 50, (51, 2, 10), [])) (by decide +kernel)) rfl (mz_inv_virt (N := 51) (k := 2) (t := 10) (st := [.int 5, .ref 22]) (rest := []) (b := 22) (vs := [.int 5]) (h := (mz_S0, m1)) rfl rfl (Nat.le_of_ble_eq_true rfl) (Nat.le_of_ble_eq_true rfl) tg_22 (by decide)) (mz_dc_lt (n := 2) rfl (by decide +kernel) (by decide +kernel)) (by decide +kernel) (by decide +kernel) (fun m9 => ?_)
      refine q_o (mz_fe (e := (36, .aload_n 0, 1, (0, 0, 0), [])) (by decide +kernel)) (pc2 := 37) rfl ?_
      refine q_ic (v := 3) (mz_fe (e := (37, .iconst 3, 1, (0, 0, 0), [])) (by decide +kernel)) (by decide) ?_
      refine q_callV (N := 49) (vs := [.ref 22, .int 3]) (rest := []) (L' := [some (.ref 22), some (.int x0), some (.int x1), some (.int (v2 : Int64).toInt32)]) rfl (mz_fe (e := (38, .invokevirtual 99, 47, (49, 2, 10), [])) (by decide +kernel)) rfl (mz_inv_virt (N := 49) (k := 2) (t := 10) (st := [.int 3, .ref 22]) (rest := []) (b := 22) (vs := [.int 3]) (h := (mz_S0, m9)) rfl rfl (Nat.le_of_ble_eq_true rfl) (Nat.le_of_ble_eq_true rfl) tg_22 (by decide)) (mz_dc_lt (n := 2) rfl (by decide +kernel) (by decide +kernel)) (by decide +kernel) (by decide +kernel) (fun m12 => ?_)
      refine q_o (mz_fe (e := (41, .iload_n 3, 1, (0, 0, 0), [])) (by decide +kernel)) (pc2 := 42) rfl ?_
      exact q_retI (mz_fe (e := (42, .ireturn, 1, (0, 0, 0), [])) (by decide +kernel)) (by decide +kernel)
    · refine q_o (mz_fe (e := (26, .iload_n 3, 1, (0, 0, 0), [])) (by decide +kernel)) (pc2 := 27) rfl ?_
      refine q_o (mz_fe (e := (27, .iload_n 2, 1, (0, 0, 0), [])) (by decide +kernel)) (pc2 := 28) rfl ?_
      refine q_if (c := .le) (off := 8) (t := 36) (x := (v2 : Int64).toInt32) (y := x1) (st := []) (mz_fe (e := (28, .if_icmp .le 8, 3, (0, 0, 0), [])) (by decide +kernel)) (fun _ => rfl) rfl rfl rfl (fun c15 => ?_) (fun c15 => ?_)
      · refine q_o (mz_fe (e := (36, .aload_n 0, 1, (0, 0, 0), [])) (by decide +kernel)) (pc2 := 37) rfl ?_
        refine q_ic (v := 3) (mz_fe (e := (37, .iconst 3, 1, (0, 0, 0), [])) (by decide +kernel)) (by decide) ?_
        refine q_callV (N := 49) (vs := [.ref 22, .int 3]) (rest := []) (L' := [some (.ref 22), some (.int x0), some (.int x1), some (.int (v2 : Int64).toInt32)]) rfl (mz_fe (e := (38, .invokevirtual 99, 47, (49, 2, 10), [])) (by decide +kernel)) rfl (mz_inv_virt (N := 49) (k := 2) (t := 10) (st := [.int 3, .ref 22]) (rest := []) (b := 22) (vs := [.int 3]) (h := (mz_S0, m1)) rfl rfl (Nat.le_of_ble_eq_true rfl) (Nat.le_of_ble_eq_true rfl) tg_22 (by decide)) (mz_dc_lt (n := 2) rfl (by decide +kernel) (by decide +kernel)) (by decide +kernel) (by decide +kernel) (fun m16 => ?_)
        refine q_o (mz_fe (e := (41, .iload_n 3, 1, (0, 0, 0), [])) (by decide +kernel)) (pc2 := 42) rfl ?_
        exact q_retI (mz_fe (e := (42, .ireturn, 1, (0, 0, 0), [])) (by decide +kernel)) (by decide +kernel)
      · refine q_o (mz_fe (e := (31, .aload_n 0, 1, (0, 0, 0), [])) (by decide +kernel)) (pc2 := 32) rfl ?_
        refine q_ic (v := 5) (mz_fe (e := (32, .iconst 5, 1, (0, 0, 0), [])) (by decide +kernel)) (by decide) ?_
        refine q_callV (N := 51) (vs := [.ref 22, .int 5]) (rest := []) (L' := [some (.ref 22), some (.int x0), some (.int x1), some (.int (v2 : Int64).toInt32)]) rfl (mz_fe (e := (33, .invokevirtual 113, 50, (51, 2, 10), [])) (by decide +kernel)) rfl (mz_inv_virt (N := 51) (k := 2) (t := 10) (st := [.int 5, .ref 22]) (rest := []) (b := 22) (vs := [.int 5]) (h := (mz_S0, m1)) rfl rfl (Nat.le_of_ble_eq_true rfl) (Nat.le_of_ble_eq_true rfl) tg_22 (by decide)) (mz_dc_lt (n := 2) rfl (by decide +kernel) (by decide +kernel)) (by decide +kernel) (by decide +kernel) (fun m19 => ?_)
        refine q_o (mz_fe (e := (36, .aload_n 0, 1, (0, 0, 0), [])) (by decide +kernel)) (pc2 := 37) rfl ?_
        refine q_ic (v := 3) (mz_fe (e := (37, .iconst 3, 1, (0, 0, 0), [])) (by decide +kernel)) (by decide) ?_
        refine q_callV (N := 49) (vs := [.ref 22, .int 3]) (rest := []) (L' := [some (.ref 22), some (.int x0), some (.int x1), some (.int (v2 : Int64).toInt32)]) rfl (mz_fe (e := (38, .invokevirtual 99, 47, (49, 2, 10), [])) (by decide +kernel)) rfl (mz_inv_virt (N := 49) (k := 2) (t := 10) (st := [.int 3, .ref 22]) (rest := []) (b := 22) (vs := [.int 3]) (h := (mz_S0, m19)) rfl rfl (Nat.le_of_ble_eq_true rfl) (Nat.le_of_ble_eq_true rfl) tg_22 (by decide)) (mz_dc_lt (n := 2) rfl (by decide +kernel) (by decide +kernel)) (by decide +kernel) (by decide +kernel) (fun m22 => ?_)
        refine q_o (mz_fe (e := (41, .iload_n 3, 1, (0, 0, 0), [])) (by decide +kernel)) (pc2 := 42) rfl ?_
        exact q_retI (mz_fe (e := (42, .ireturn, 1, (0, 0, 0), [])) (by decide +kernel)) (by decide +kernel)
set_option maxRecDepth 10000 in
theorem R_X4_readLaw_eq (d : Nat) (x0 : Int32) (m : MzM)  : R_X4_readLaw d x0 m = (R_X4_take d  m).bind (fun m1 => (R_X4_expect d 5 m1).bind (fun m4 => (R_X2_begin d 17 x0 m4).bind (fun m7 => H_X4_readLaw_22 d x0 0 m7))) := by
  show mz_cV (mz_T d 57 0 (mz_en (mz_xl 57) [.ref 22, .int x0]) [] m) = _
  rw [show mz_en (mz_xl 57) [.ref 22, .int x0] = [some (.ref 22), some (.int x0), none] from by rw [show mz_xl 57 = 3 from by decide +kernel]; rfl]
  refine q_o (mz_fe (e := (0, .aload_n 0, 1, (0, 0, 0), [])) (by decide +kernel)) (pc2 := 1) rfl ?_
  refine q_callV (N := 48) (vs := [.ref 22]) (rest := []) (L' := [some (.ref 22), some (.int x0), none]) rfl (mz_fe (e := (1, .invokevirtual 70, 41, (48, 1, 10), [])) (by decide +kernel)) rfl (mz_inv_virt (N := 48) (k := 1) (t := 10) (st := [.ref 22]) (rest := []) (b := 22) (vs := []) (h := (mz_S0, m)) rfl rfl (Nat.le_of_ble_eq_true rfl) (Nat.le_of_ble_eq_true rfl) tg_22 (by decide)) (mz_dc_lt (n := 1) rfl (by decide +kernel) (by decide +kernel)) (by decide +kernel) (by decide +kernel) (fun m1 => ?_)
  refine q_o (mz_fe (e := (4, .aload_n 0, 1, (0, 0, 0), [])) (by decide +kernel)) (pc2 := 5) rfl ?_
  refine q_ic (v := 5) (mz_fe (e := (5, .iconst 5, 1, (0, 0, 0), [])) (by decide +kernel)) (by decide) ?_
  refine q_callV (N := 49) (vs := [.ref 22, .int 5]) (rest := []) (L' := [some (.ref 22), some (.int x0), none]) rfl (mz_fe (e := (6, .invokevirtual 99, 47, (49, 2, 10), [])) (by decide +kernel)) rfl (mz_inv_virt (N := 49) (k := 2) (t := 10) (st := [.int 5, .ref 22]) (rest := []) (b := 22) (vs := [.int 5]) (h := (mz_S0, m1)) rfl rfl (Nat.le_of_ble_eq_true rfl) (Nat.le_of_ble_eq_true rfl) tg_22 (by decide)) (mz_dc_lt (n := 2) rfl (by decide +kernel) (by decide +kernel)) (by decide +kernel) (by decide +kernel) (fun m4 => ?_)
  refine q_o (mz_fe (e := (9, .aload_n 0, 1, (0, 0, 0), [])) (by decide +kernel)) (pc2 := 10) rfl ?_
  refine q_getR (b := 13) (mz_fe (e := (10, .getfield 20, 26, (4, 1, 2), [])) (by decide +kernel)) rfl tg_22 (by rw [ln_22]; decide) (mz_rfS (by decide +kernel)) ?_
  refine q_getR (b := 17) (mz_fe (e := (13, .getfield 134, 42, (8, 3, 2), [])) (by decide +kernel)) rfl tg_13 (by rw [ln_13]; decide) (mz_rfS (by decide +kernel)) ?_
  refine q_o (mz_fe (e := (16, .iload_n 1, 1, (0, 0, 0), [])) (by decide +kernel)) (pc2 := 17) rfl ?_
  refine q_callV (N := 17) (vs := [.ref 17, .int x0]) (rest := []) (L' := [some (.ref 22), some (.int x0), none]) rfl (mz_fe (e := (17, .invokevirtual 138, 53, (17, 2, 8), [])) (by decide +kernel)) rfl (mz_inv_virt (N := 17) (k := 2) (t := 8) (st := [.int x0, .ref 17]) (rest := []) (b := 17) (vs := [.int x0]) (h := (mz_S0, m4)) rfl rfl (Nat.le_of_ble_eq_true rfl) (Nat.le_of_ble_eq_true rfl) tg_17 (by decide)) (mz_dc_lt (n := 2) rfl (by decide +kernel) (by decide +kernel)) (by decide +kernel) (by decide +kernel) (fun m7 => ?_)
  refine q_ic (v := 0) (mz_fe (e := (20, .iconst 0, 1, (0, 0, 0), [])) (by decide +kernel)) (by decide) ?_
  refine q_s (mz_fe (e := (21, .istore_n 2, 1, (0, 0, 0), [])) (by decide +kernel)) (pc' := 22) (L' := [some (.ref 22), some (.int x0), some (.int 0)]) (st' := []) rfl ?_
  exact congrArg mz_cV (mz_At_msk (L := [some (.ref 22), some (.int x0), some (.int 0)]) (L2 := [some (.ref 22), some (.int x0), some (.int 0)]) (mz_fe (e := (22, .aload_n 0, 1, (0, 0, 0), [true, true, true])) (by decide +kernel)) rfl rfl)
set_option maxRecDepth 10000 in
theorem H_X4_readLaw_22_eq (d : Nat) (y1 : Int32) (y2 : Int32) (m : MzM)  : H_X4_readLaw_22 d y1 y2 m = if ¬ (mz_rd m 22 3) = 22 then ((R_X4_readSum d 0 m).bind (fun m11 => (R_X2_endPart d 17 y1 m11).bind (fun m14 => (R_X4_expect d 4 m14).bind (fun m17 => some m17)))) else (if (4 : Int32) < y2 then ((R_X4_readSum d 0 m).bind (fun m21 => (R_X2_endPart d 17 y1 m21).bind (fun m24 => (R_X4_expect d 4 m24).bind (fun m27 => some m27)))) else (if ¬ y2 = 4 then ((R_X4_expect d 22 m).bind (fun m31 => (R_X4_readSum d 0 m31).bind (fun m34 => (R_X2_endPart d 17 y1 m34).bind (fun m37 => (R_X4_expect d 10 m37).bind (fun m40 => (R_X4_readSum d 0 m40).bind (fun m43 => (R_X2_endPart d 17 y1 m43).bind (fun m46 => (R_X4_expect d 23 m46).bind (fun m49 => (R_X4_readSum d 0 m49).bind (fun m52 => (R_X2_endPart d 17 y1 m52).bind (fun m55 => (R_X4_expect d 24 m55).bind (fun m58 => H_X4_readLaw_22 d y1 (y2 + 1) m58))))))))))) else ((R_X4_fail d 2 m).bind (fun m61 => (R_X4_expect d 22 m61).bind (fun m64 => (R_X4_readSum d 0 m64).bind (fun m67 => (R_X2_endPart d 17 y1 m67).bind (fun m70 => (R_X4_expect d 10 m70).bind (fun m73 => (R_X4_readSum d 0 m73).bind (fun m76 => (R_X2_endPart d 17 y1 m76).bind (fun m79 => (R_X4_expect d 23 m79).bind (fun m82 => (R_X4_readSum d 0 m82).bind (fun m85 => (R_X2_endPart d 17 y1 m85).bind (fun m88 => (R_X4_expect d 24 m88).bind (fun m91 => H_X4_readLaw_22 d y1 (y2 + 1) m91)))))))))))))) := by
  show mz_cV (mz_T d 57 22 [some (.ref 22), some (.int y1), some (.int y2)] [] m) = _
  refine q_s (mz_fe (e := (22, .aload_n 0, 1, (0, 0, 0), [true, true, true])) (by decide +kernel)) (pc' := 23) (L' := [some (.ref 22), some (.int y1), some (.int y2)]) (st' := [.ref 22]) rfl ?_
  refine q_getI (mz_fe (e := (23, .getfield 46, 30, (4, 3, 0), [])) (by decide +kernel)) rfl (by decide) tg_22 (by rw [ln_22]; decide) ?_
  refine q_bi (v := 22) (mz_fe (e := (26, .bipush 22, 2, (0, 0, 0), [])) (by decide +kernel)) (by decide) ?_
  refine q_if (c := .ne) (off := 96) (t := 124) (x := (mz_rd m 22 3)) (y := 22) (st := []) (mz_fe (e := (28, .if_icmp .ne 96, 3, (0, 0, 0), [])) (by decide +kernel)) (fun _ => rfl) rfl rfl rfl (fun c10 => ?_) (fun c10 => ?_)
  · refine q_o (mz_fe (e := (124, .aload_n 0, 1, (0, 0, 0), [])) (by decide +kernel)) (pc2 := 125) rfl ?_
    refine q_ic (v := 0) (mz_fe (e := (125, .iconst 0, 1, (0, 0, 0), [])) (by decide +kernel)) (by decide) ?_
    refine q_callV (N := 58) (vs := [.ref 22, .int 0]) (rest := []) (L' := [some (.ref 22), some (.int y1), some (.int y2)]) rfl (mz_fe (e := (126, .invokevirtual 143, 54, (58, 2, 10), [])) (by decide +kernel)) rfl (mz_inv_virt (N := 58) (k := 2) (t := 10) (st := [.int 0, .ref 22]) (rest := []) (b := 22) (vs := [.int 0]) (h := (mz_S0, m)) rfl rfl (Nat.le_of_ble_eq_true rfl) (Nat.le_of_ble_eq_true rfl) tg_22 (by decide)) (mz_dc_lt (n := 2) rfl (by decide +kernel) (by decide +kernel)) (by decide +kernel) (by decide +kernel) (fun m11 => ?_)
    refine q_o (mz_fe (e := (129, .aload_n 0, 1, (0, 0, 0), [])) (by decide +kernel)) (pc2 := 130) rfl ?_
    refine q_getR (b := 13) (mz_fe (e := (130, .getfield 20, 26, (4, 1, 2), [])) (by decide +kernel)) rfl tg_22 (by rw [ln_22]; decide) (mz_rfS (by decide +kernel)) ?_
    refine q_getR (b := 17) (mz_fe (e := (133, .getfield 134, 42, (8, 3, 2), [])) (by decide +kernel)) rfl tg_13 (by rw [ln_13]; decide) (mz_rfS (by decide +kernel)) ?_
    refine q_o (mz_fe (e := (136, .iload_n 1, 1, (0, 0, 0), [])) (by decide +kernel)) (pc2 := 137) rfl ?_
    refine q_callV (N := 18) (vs := [.ref 17, .int y1]) (rest := []) (L' := [some (.ref 22), some (.int y1), some (.int y2)]) rfl (mz_fe (e := (137, .invokevirtual 146, 55, (18, 2, 8), [])) (by decide +kernel)) rfl (mz_inv_virt (N := 18) (k := 2) (t := 8) (st := [.int y1, .ref 17]) (rest := []) (b := 17) (vs := [.int y1]) (h := (mz_S0, m11)) rfl rfl (Nat.le_of_ble_eq_true rfl) (Nat.le_of_ble_eq_true rfl) tg_17 (by decide)) (mz_dc_lt (n := 2) rfl (by decide +kernel) (by decide +kernel)) (by decide +kernel) (by decide +kernel) (fun m14 => ?_)
    refine q_o (mz_fe (e := (140, .aload_n 0, 1, (0, 0, 0), [])) (by decide +kernel)) (pc2 := 141) rfl ?_
    refine q_ic (v := 4) (mz_fe (e := (141, .iconst 4, 1, (0, 0, 0), [])) (by decide +kernel)) (by decide) ?_
    refine q_callV (N := 49) (vs := [.ref 22, .int 4]) (rest := []) (L' := [some (.ref 22), some (.int y1), some (.int y2)]) rfl (mz_fe (e := (142, .invokevirtual 99, 47, (49, 2, 10), [])) (by decide +kernel)) rfl (mz_inv_virt (N := 49) (k := 2) (t := 10) (st := [.int 4, .ref 22]) (rest := []) (b := 22) (vs := [.int 4]) (h := (mz_S0, m14)) rfl rfl (Nat.le_of_ble_eq_true rfl) (Nat.le_of_ble_eq_true rfl) tg_22 (by decide)) (mz_dc_lt (n := 2) rfl (by decide +kernel) (by decide +kernel)) (by decide +kernel) (by decide +kernel) (fun m17 => ?_)
    exact q_retV (mz_fe (e := (145, .return_, 1, (0, 0, 0), [])) (by decide +kernel)) (by decide +kernel)
  · refine q_o (mz_fe (e := (31, .iload_n 2, 1, (0, 0, 0), [])) (by decide +kernel)) (pc2 := 32) rfl ?_
    refine q_ic (v := 4) (mz_fe (e := (32, .iconst 4, 1, (0, 0, 0), [])) (by decide +kernel)) (by decide) ?_
    refine q_if (c := .gt) (off := 91) (t := 124) (x := y2) (y := 4) (st := []) (mz_fe (e := (33, .if_icmp .gt 91, 3, (0, 0, 0), [])) (by decide +kernel)) (fun _ => rfl) rfl rfl rfl (fun c20 => ?_) (fun c20 => ?_)
    · refine q_o (mz_fe (e := (124, .aload_n 0, 1, (0, 0, 0), [])) (by decide +kernel)) (pc2 := 125) rfl ?_
      refine q_ic (v := 0) (mz_fe (e := (125, .iconst 0, 1, (0, 0, 0), [])) (by decide +kernel)) (by decide) ?_
      refine q_callV (N := 58) (vs := [.ref 22, .int 0]) (rest := []) (L' := [some (.ref 22), some (.int y1), some (.int y2)]) rfl (mz_fe (e := (126, .invokevirtual 143, 54, (58, 2, 10), [])) (by decide +kernel)) rfl (mz_inv_virt (N := 58) (k := 2) (t := 10) (st := [.int 0, .ref 22]) (rest := []) (b := 22) (vs := [.int 0]) (h := (mz_S0, m)) rfl rfl (Nat.le_of_ble_eq_true rfl) (Nat.le_of_ble_eq_true rfl) tg_22 (by decide)) (mz_dc_lt (n := 2) rfl (by decide +kernel) (by decide +kernel)) (by decide +kernel) (by decide +kernel) (fun m21 => ?_)
      refine q_o (mz_fe (e := (129, .aload_n 0, 1, (0, 0, 0), [])) (by decide +kernel)) (pc2 := 130) rfl ?_
      refine q_getR (b := 13) (mz_fe (e := (130, .getfield 20, 26, (4, 1, 2), [])) (by decide +kernel)) rfl tg_22 (by rw [ln_22]; decide) (mz_rfS (by decide +kernel)) ?_
      refine q_getR (b := 17) (mz_fe (e := (133, .getfield 134, 42, (8, 3, 2), [])) (by decide +kernel)) rfl tg_13 (by rw [ln_13]; decide) (mz_rfS (by decide +kernel)) ?_
      refine q_o (mz_fe (e := (136, .iload_n 1, 1, (0, 0, 0), [])) (by decide +kernel)) (pc2 := 137) rfl ?_
      refine q_callV (N := 18) (vs := [.ref 17, .int y1]) (rest := []) (L' := [some (.ref 22), some (.int y1), some (.int y2)]) rfl (mz_fe (e := (137, .invokevirtual 146, 55, (18, 2, 8), [])) (by decide +kernel)) rfl (mz_inv_virt (N := 18) (k := 2) (t := 8) (st := [.int y1, .ref 17]) (rest := []) (b := 17) (vs := [.int y1]) (h := (mz_S0, m21)) rfl rfl (Nat.le_of_ble_eq_true rfl) (Nat.le_of_ble_eq_true rfl) tg_17 (by decide)) (mz_dc_lt (n := 2) rfl (by decide +kernel) (by decide +kernel)) (by decide +kernel) (by decide +kernel) (fun m24 => ?_)
      refine q_o (mz_fe (e := (140, .aload_n 0, 1, (0, 0, 0), [])) (by decide +kernel)) (pc2 := 141) rfl ?_
      refine q_ic (v := 4) (mz_fe (e := (141, .iconst 4, 1, (0, 0, 0), [])) (by decide +kernel)) (by decide) ?_
      refine q_callV (N := 49) (vs := [.ref 22, .int 4]) (rest := []) (L' := [some (.ref 22), some (.int y1), some (.int y2)]) rfl (mz_fe (e := (142, .invokevirtual 99, 47, (49, 2, 10), [])) (by decide +kernel)) rfl (mz_inv_virt (N := 49) (k := 2) (t := 10) (st := [.int 4, .ref 22]) (rest := []) (b := 22) (vs := [.int 4]) (h := (mz_S0, m24)) rfl rfl (Nat.le_of_ble_eq_true rfl) (Nat.le_of_ble_eq_true rfl) tg_22 (by decide)) (mz_dc_lt (n := 2) rfl (by decide +kernel) (by decide +kernel)) (by decide +kernel) (by decide +kernel) (fun m27 => ?_)
      exact q_retV (mz_fe (e := (145, .return_, 1, (0, 0, 0), [])) (by decide +kernel)) (by decide +kernel)
    · refine q_o (mz_fe (e := (36, .iload_n 2, 1, (0, 0, 0), [])) (by decide +kernel)) (pc2 := 37) rfl ?_
      refine q_ic (v := 4) (mz_fe (e := (37, .iconst 4, 1, (0, 0, 0), [])) (by decide +kernel)) (by decide) ?_
      refine q_if (c := .ne) (off := 8) (t := 46) (x := y2) (y := 4) (st := []) (mz_fe (e := (38, .if_icmp .ne 8, 3, (0, 0, 0), [])) (by decide +kernel)) (fun _ => rfl) rfl rfl rfl (fun c30 => ?_) (fun c30 => ?_)
      · refine q_o (mz_fe (e := (46, .aload_n 0, 1, (0, 0, 0), [])) (by decide +kernel)) (pc2 := 47) rfl ?_
        refine q_bi (v := 22) (mz_fe (e := (47, .bipush 22, 2, (0, 0, 0), [])) (by decide +kernel)) (by decide) ?_
        refine q_callV (N := 49) (vs := [.ref 22, .int 22]) (rest := []) (L' := [some (.ref 22), some (.int y1), some (.int y2)]) rfl (mz_fe (e := (49, .invokevirtual 99, 47, (49, 2, 10), [])) (by decide +kernel)) rfl (mz_inv_virt (N := 49) (k := 2) (t := 10) (st := [.int 22, .ref 22]) (rest := []) (b := 22) (vs := [.int 22]) (h := (mz_S0, m)) rfl rfl (Nat.le_of_ble_eq_true rfl) (Nat.le_of_ble_eq_true rfl) tg_22 (by decide)) (mz_dc_lt (n := 2) rfl (by decide +kernel) (by decide +kernel)) (by decide +kernel) (by decide +kernel) (fun m31 => ?_)
        refine q_o (mz_fe (e := (52, .aload_n 0, 1, (0, 0, 0), [])) (by decide +kernel)) (pc2 := 53) rfl ?_
        refine q_ic (v := 0) (mz_fe (e := (53, .iconst 0, 1, (0, 0, 0), [])) (by decide +kernel)) (by decide) ?_
        refine q_callV (N := 58) (vs := [.ref 22, .int 0]) (rest := []) (L' := [some (.ref 22), some (.int y1), some (.int y2)]) rfl (mz_fe (e := (54, .invokevirtual 143, 54, (58, 2, 10), [])) (by decide +kernel)) rfl (mz_inv_virt (N := 58) (k := 2) (t := 10) (st := [.int 0, .ref 22]) (rest := []) (b := 22) (vs := [.int 0]) (h := (mz_S0, m31)) rfl rfl (Nat.le_of_ble_eq_true rfl) (Nat.le_of_ble_eq_true rfl) tg_22 (by decide)) (mz_dc_lt (n := 2) rfl (by decide +kernel) (by decide +kernel)) (by decide +kernel) (by decide +kernel) (fun m34 => ?_)
        refine q_o (mz_fe (e := (57, .aload_n 0, 1, (0, 0, 0), [])) (by decide +kernel)) (pc2 := 58) rfl ?_
        refine q_getR (b := 13) (mz_fe (e := (58, .getfield 20, 26, (4, 1, 2), [])) (by decide +kernel)) rfl tg_22 (by rw [ln_22]; decide) (mz_rfS (by decide +kernel)) ?_
        refine q_getR (b := 17) (mz_fe (e := (61, .getfield 134, 42, (8, 3, 2), [])) (by decide +kernel)) rfl tg_13 (by rw [ln_13]; decide) (mz_rfS (by decide +kernel)) ?_
        refine q_o (mz_fe (e := (64, .iload_n 1, 1, (0, 0, 0), [])) (by decide +kernel)) (pc2 := 65) rfl ?_
        refine q_callV (N := 18) (vs := [.ref 17, .int y1]) (rest := []) (L' := [some (.ref 22), some (.int y1), some (.int y2)]) rfl (mz_fe (e := (65, .invokevirtual 146, 55, (18, 2, 8), [])) (by decide +kernel)) rfl (mz_inv_virt (N := 18) (k := 2) (t := 8) (st := [.int y1, .ref 17]) (rest := []) (b := 17) (vs := [.int y1]) (h := (mz_S0, m34)) rfl rfl (Nat.le_of_ble_eq_true rfl) (Nat.le_of_ble_eq_true rfl) tg_17 (by decide)) (mz_dc_lt (n := 2) rfl (by decide +kernel) (by decide +kernel)) (by decide +kernel) (by decide +kernel) (fun m37 => ?_)
        refine q_o (mz_fe (e := (68, .aload_n 0, 1, (0, 0, 0), [])) (by decide +kernel)) (pc2 := 69) rfl ?_
        refine q_bi (v := 10) (mz_fe (e := (69, .bipush 10, 2, (0, 0, 0), [])) (by decide +kernel)) (by decide) ?_
        refine q_callV (N := 49) (vs := [.ref 22, .int 10]) (rest := []) (L' := [some (.ref 22), some (.int y1), some (.int y2)]) rfl (mz_fe (e := (71, .invokevirtual 99, 47, (49, 2, 10), [])) (by decide +kernel)) rfl (mz_inv_virt (N := 49) (k := 2) (t := 10) (st := [.int 10, .ref 22]) (rest := []) (b := 22) (vs := [.int 10]) (h := (mz_S0, m37)) rfl rfl (Nat.le_of_ble_eq_true rfl) (Nat.le_of_ble_eq_true rfl) tg_22 (by decide)) (mz_dc_lt (n := 2) rfl (by decide +kernel) (by decide +kernel)) (by decide +kernel) (by decide +kernel) (fun m40 => ?_)
        refine q_o (mz_fe (e := (74, .aload_n 0, 1, (0, 0, 0), [])) (by decide +kernel)) (pc2 := 75) rfl ?_
        refine q_ic (v := 0) (mz_fe (e := (75, .iconst 0, 1, (0, 0, 0), [])) (by decide +kernel)) (by decide) ?_
        refine q_callV (N := 58) (vs := [.ref 22, .int 0]) (rest := []) (L' := [some (.ref 22), some (.int y1), some (.int y2)]) rfl (mz_fe (e := (76, .invokevirtual 143, 54, (58, 2, 10), [])) (by decide +kernel)) rfl (mz_inv_virt (N := 58) (k := 2) (t := 10) (st := [.int 0, .ref 22]) (rest := []) (b := 22) (vs := [.int 0]) (h := (mz_S0, m40)) rfl rfl (Nat.le_of_ble_eq_true rfl) (Nat.le_of_ble_eq_true rfl) tg_22 (by decide)) (mz_dc_lt (n := 2) rfl (by decide +kernel) (by decide +kernel)) (by decide +kernel) (by decide +kernel) (fun m43 => ?_)
        refine q_o (mz_fe (e := (79, .aload_n 0, 1, (0, 0, 0), [])) (by decide +kernel)) (pc2 := 80) rfl ?_
        refine q_getR (b := 13) (mz_fe (e := (80, .getfield 20, 26, (4, 1, 2), [])) (by decide +kernel)) rfl tg_22 (by rw [ln_22]; decide) (mz_rfS (by decide +kernel)) ?_
        refine q_getR (b := 17) (mz_fe (e := (83, .getfield 134, 42, (8, 3, 2), [])) (by decide +kernel)) rfl tg_13 (by rw [ln_13]; decide) (mz_rfS (by decide +kernel)) ?_
        refine q_o (mz_fe (e := (86, .iload_n 1, 1, (0, 0, 0), [])) (by decide +kernel)) (pc2 := 87) rfl ?_
        refine q_callV (N := 18) (vs := [.ref 17, .int y1]) (rest := []) (L' := [some (.ref 22), some (.int y1), some (.int y2)]) rfl (mz_fe (e := (87, .invokevirtual 146, 55, (18, 2, 8), [])) (by decide +kernel)) rfl (mz_inv_virt (N := 18) (k := 2) (t := 8) (st := [.int y1, .ref 17]) (rest := []) (b := 17) (vs := [.int y1]) (h := (mz_S0, m43)) rfl rfl (Nat.le_of_ble_eq_true rfl) (Nat.le_of_ble_eq_true rfl) tg_17 (by decide)) (mz_dc_lt (n := 2) rfl (by decide +kernel) (by decide +kernel)) (by decide +kernel) (by decide +kernel) (fun m46 => ?_)
        refine q_o (mz_fe (e := (90, .aload_n 0, 1, (0, 0, 0), [])) (by decide +kernel)) (pc2 := 91) rfl ?_
        refine q_bi (v := 23) (mz_fe (e := (91, .bipush 23, 2, (0, 0, 0), [])) (by decide +kernel)) (by decide) ?_
        refine q_callV (N := 49) (vs := [.ref 22, .int 23]) (rest := []) (L' := [some (.ref 22), some (.int y1), some (.int y2)]) rfl (mz_fe (e := (93, .invokevirtual 99, 47, (49, 2, 10), [])) (by decide +kernel)) rfl (mz_inv_virt (N := 49) (k := 2) (t := 10) (st := [.int 23, .ref 22]) (rest := []) (b := 22) (vs := [.int 23]) (h := (mz_S0, m46)) rfl rfl (Nat.le_of_ble_eq_true rfl) (Nat.le_of_ble_eq_true rfl) tg_22 (by decide)) (mz_dc_lt (n := 2) rfl (by decide +kernel) (by decide +kernel)) (by decide +kernel) (by decide +kernel) (fun m49 => ?_)
        refine q_o (mz_fe (e := (96, .aload_n 0, 1, (0, 0, 0), [])) (by decide +kernel)) (pc2 := 97) rfl ?_
        refine q_ic (v := 0) (mz_fe (e := (97, .iconst 0, 1, (0, 0, 0), [])) (by decide +kernel)) (by decide) ?_
        refine q_callV (N := 58) (vs := [.ref 22, .int 0]) (rest := []) (L' := [some (.ref 22), some (.int y1), some (.int y2)]) rfl (mz_fe (e := (98, .invokevirtual 143, 54, (58, 2, 10), [])) (by decide +kernel)) rfl (mz_inv_virt (N := 58) (k := 2) (t := 10) (st := [.int 0, .ref 22]) (rest := []) (b := 22) (vs := [.int 0]) (h := (mz_S0, m49)) rfl rfl (Nat.le_of_ble_eq_true rfl) (Nat.le_of_ble_eq_true rfl) tg_22 (by decide)) (mz_dc_lt (n := 2) rfl (by decide +kernel) (by decide +kernel)) (by decide +kernel) (by decide +kernel) (fun m52 => ?_)
        refine q_o (mz_fe (e := (101, .aload_n 0, 1, (0, 0, 0), [])) (by decide +kernel)) (pc2 := 102) rfl ?_
        refine q_getR (b := 13) (mz_fe (e := (102, .getfield 20, 26, (4, 1, 2), [])) (by decide +kernel)) rfl tg_22 (by rw [ln_22]; decide) (mz_rfS (by decide +kernel)) ?_
        refine q_getR (b := 17) (mz_fe (e := (105, .getfield 134, 42, (8, 3, 2), [])) (by decide +kernel)) rfl tg_13 (by rw [ln_13]; decide) (mz_rfS (by decide +kernel)) ?_
        refine q_o (mz_fe (e := (108, .iload_n 1, 1, (0, 0, 0), [])) (by decide +kernel)) (pc2 := 109) rfl ?_
        refine q_callV (N := 18) (vs := [.ref 17, .int y1]) (rest := []) (L' := [some (.ref 22), some (.int y1), some (.int y2)]) rfl (mz_fe (e := (109, .invokevirtual 146, 55, (18, 2, 8), [])) (by decide +kernel)) rfl (mz_inv_virt (N := 18) (k := 2) (t := 8) (st := [.int y1, .ref 17]) (rest := []) (b := 17) (vs := [.int y1]) (h := (mz_S0, m52)) rfl rfl (Nat.le_of_ble_eq_true rfl) (Nat.le_of_ble_eq_true rfl) tg_17 (by decide)) (mz_dc_lt (n := 2) rfl (by decide +kernel) (by decide +kernel)) (by decide +kernel) (by decide +kernel) (fun m55 => ?_)
        refine q_o (mz_fe (e := (112, .aload_n 0, 1, (0, 0, 0), [])) (by decide +kernel)) (pc2 := 113) rfl ?_
        refine q_bi (v := 24) (mz_fe (e := (113, .bipush 24, 2, (0, 0, 0), [])) (by decide +kernel)) (by decide) ?_
        refine q_callV (N := 49) (vs := [.ref 22, .int 24]) (rest := []) (L' := [some (.ref 22), some (.int y1), some (.int y2)]) rfl (mz_fe (e := (115, .invokevirtual 99, 47, (49, 2, 10), [])) (by decide +kernel)) rfl (mz_inv_virt (N := 49) (k := 2) (t := 10) (st := [.int 24, .ref 22]) (rest := []) (b := 22) (vs := [.int 24]) (h := (mz_S0, m55)) rfl rfl (Nat.le_of_ble_eq_true rfl) (Nat.le_of_ble_eq_true rfl) tg_22 (by decide)) (mz_dc_lt (n := 2) rfl (by decide +kernel) (by decide +kernel)) (by decide +kernel) (by decide +kernel) (fun m58 => ?_)
        refine q_iinc (v := y2) (c := 1) (L3 := [some (.ref 22), some (.int y1), some (.int (y2 + 1))]) (mz_fe (e := (118, .iinc 2 1, 3, (0, 0, 0), [])) (by decide +kernel)) rfl rfl (by decide) rfl ?_
        refine q_o (mz_fe (e := (121, .goto (-99), 3, (0, 0, 0), [])) (by decide +kernel)) (pc2 := 22) rfl ?_
        exact congrArg mz_cV (mz_At_msk (L := [some (.ref 22), some (.int y1), some (.int (y2 + 1))]) (L2 := [some (.ref 22), some (.int y1), some (.int (y2 + 1))]) (mz_fe (e := (22, .aload_n 0, 1, (0, 0, 0), [true, true, true])) (by decide +kernel)) rfl rfl)
      · refine q_o (mz_fe (e := (41, .aload_n 0, 1, (0, 0, 0), [])) (by decide +kernel)) (pc2 := 42) rfl ?_
        refine q_ic (v := 2) (mz_fe (e := (42, .iconst 2, 1, (0, 0, 0), [])) (by decide +kernel)) (by decide) ?_
        refine q_callV (N := 50) (vs := [.ref 22, .int 2]) (rest := []) (L' := [some (.ref 22), some (.int y1), some (.int y2)]) rfl (mz_fe (e := (43, .invokevirtual 73, 42, (50, 2, 10), [])) (by decide +kernel)) rfl (mz_inv_virt (N := 50) (k := 2) (t := 10) (st := [.int 2, .ref 22]) (rest := []) (b := 22) (vs := [.int 2]) (h := (mz_S0, m)) rfl rfl (Nat.le_of_ble_eq_true rfl) (Nat.le_of_ble_eq_true rfl) tg_22 (by decide)) (mz_dc_lt (n := 2) rfl (by decide +kernel) (by decide +kernel)) (by decide +kernel) (by decide +kernel) (fun m61 => ?_)
        refine q_o (mz_fe (e := (46, .aload_n 0, 1, (0, 0, 0), [])) (by decide +kernel)) (pc2 := 47) rfl ?_
        refine q_bi (v := 22) (mz_fe (e := (47, .bipush 22, 2, (0, 0, 0), [])) (by decide +kernel)) (by decide) ?_
        refine q_callV (N := 49) (vs := [.ref 22, .int 22]) (rest := []) (L' := [some (.ref 22), some (.int y1), some (.int y2)]) rfl (mz_fe (e := (49, .invokevirtual 99, 47, (49, 2, 10), [])) (by decide +kernel)) rfl (mz_inv_virt (N := 49) (k := 2) (t := 10) (st := [.int 22, .ref 22]) (rest := []) (b := 22) (vs := [.int 22]) (h := (mz_S0, m61)) rfl rfl (Nat.le_of_ble_eq_true rfl) (Nat.le_of_ble_eq_true rfl) tg_22 (by decide)) (mz_dc_lt (n := 2) rfl (by decide +kernel) (by decide +kernel)) (by decide +kernel) (by decide +kernel) (fun m64 => ?_)
        refine q_o (mz_fe (e := (52, .aload_n 0, 1, (0, 0, 0), [])) (by decide +kernel)) (pc2 := 53) rfl ?_
        refine q_ic (v := 0) (mz_fe (e := (53, .iconst 0, 1, (0, 0, 0), [])) (by decide +kernel)) (by decide) ?_
        refine q_callV (N := 58) (vs := [.ref 22, .int 0]) (rest := []) (L' := [some (.ref 22), some (.int y1), some (.int y2)]) rfl (mz_fe (e := (54, .invokevirtual 143, 54, (58, 2, 10), [])) (by decide +kernel)) rfl (mz_inv_virt (N := 58) (k := 2) (t := 10) (st := [.int 0, .ref 22]) (rest := []) (b := 22) (vs := [.int 0]) (h := (mz_S0, m64)) rfl rfl (Nat.le_of_ble_eq_true rfl) (Nat.le_of_ble_eq_true rfl) tg_22 (by decide)) (mz_dc_lt (n := 2) rfl (by decide +kernel) (by decide +kernel)) (by decide +kernel) (by decide +kernel) (fun m67 => ?_)
        refine q_o (mz_fe (e := (57, .aload_n 0, 1, (0, 0, 0), [])) (by decide +kernel)) (pc2 := 58) rfl ?_
        refine q_getR (b := 13) (mz_fe (e := (58, .getfield 20, 26, (4, 1, 2), [])) (by decide +kernel)) rfl tg_22 (by rw [ln_22]; decide) (mz_rfS (by decide +kernel)) ?_
        refine q_getR (b := 17) (mz_fe (e := (61, .getfield 134, 42, (8, 3, 2), [])) (by decide +kernel)) rfl tg_13 (by rw [ln_13]; decide) (mz_rfS (by decide +kernel)) ?_
        refine q_o (mz_fe (e := (64, .iload_n 1, 1, (0, 0, 0), [])) (by decide +kernel)) (pc2 := 65) rfl ?_
        refine q_callV (N := 18) (vs := [.ref 17, .int y1]) (rest := []) (L' := [some (.ref 22), some (.int y1), some (.int y2)]) rfl (mz_fe (e := (65, .invokevirtual 146, 55, (18, 2, 8), [])) (by decide +kernel)) rfl (mz_inv_virt (N := 18) (k := 2) (t := 8) (st := [.int y1, .ref 17]) (rest := []) (b := 17) (vs := [.int y1]) (h := (mz_S0, m67)) rfl rfl (Nat.le_of_ble_eq_true rfl) (Nat.le_of_ble_eq_true rfl) tg_17 (by decide)) (mz_dc_lt (n := 2) rfl (by decide +kernel) (by decide +kernel)) (by decide +kernel) (by decide +kernel) (fun m70 => ?_)
        refine q_o (mz_fe (e := (68, .aload_n 0, 1, (0, 0, 0), [])) (by decide +kernel)) (pc2 := 69) rfl ?_
        refine q_bi (v := 10) (mz_fe (e := (69, .bipush 10, 2, (0, 0, 0), [])) (by decide +kernel)) (by decide) ?_
        refine q_callV (N := 49) (vs := [.ref 22, .int 10]) (rest := []) (L' := [some (.ref 22), some (.int y1), some (.int y2)]) rfl (mz_fe (e := (71, .invokevirtual 99, 47, (49, 2, 10), [])) (by decide +kernel)) rfl (mz_inv_virt (N := 49) (k := 2) (t := 10) (st := [.int 10, .ref 22]) (rest := []) (b := 22) (vs := [.int 10]) (h := (mz_S0, m70)) rfl rfl (Nat.le_of_ble_eq_true rfl) (Nat.le_of_ble_eq_true rfl) tg_22 (by decide)) (mz_dc_lt (n := 2) rfl (by decide +kernel) (by decide +kernel)) (by decide +kernel) (by decide +kernel) (fun m73 => ?_)
        refine q_o (mz_fe (e := (74, .aload_n 0, 1, (0, 0, 0), [])) (by decide +kernel)) (pc2 := 75) rfl ?_
        refine q_ic (v := 0) (mz_fe (e := (75, .iconst 0, 1, (0, 0, 0), [])) (by decide +kernel)) (by decide) ?_
        refine q_callV (N := 58) (vs := [.ref 22, .int 0]) (rest := []) (L' := [some (.ref 22), some (.int y1), some (.int y2)]) rfl (mz_fe (e := (76, .invokevirtual 143, 54, (58, 2, 10), [])) (by decide +kernel)) rfl (mz_inv_virt (N := 58) (k := 2) (t := 10) (st := [.int 0, .ref 22]) (rest := []) (b := 22) (vs := [.int 0]) (h := (mz_S0, m73)) rfl rfl (Nat.le_of_ble_eq_true rfl) (Nat.le_of_ble_eq_true rfl) tg_22 (by decide)) (mz_dc_lt (n := 2) rfl (by decide +kernel) (by decide +kernel)) (by decide +kernel) (by decide +kernel) (fun m76 => ?_)
        refine q_o (mz_fe (e := (79, .aload_n 0, 1, (0, 0, 0), [])) (by decide +kernel)) (pc2 := 80) rfl ?_
        refine q_getR (b := 13) (mz_fe (e := (80, .getfield 20, 26, (4, 1, 2), [])) (by decide +kernel)) rfl tg_22 (by rw [ln_22]; decide) (mz_rfS (by decide +kernel)) ?_
        refine q_getR (b := 17) (mz_fe (e := (83, .getfield 134, 42, (8, 3, 2), [])) (by decide +kernel)) rfl tg_13 (by rw [ln_13]; decide) (mz_rfS (by decide +kernel)) ?_
        refine q_o (mz_fe (e := (86, .iload_n 1, 1, (0, 0, 0), [])) (by decide +kernel)) (pc2 := 87) rfl ?_
        refine q_callV (N := 18) (vs := [.ref 17, .int y1]) (rest := []) (L' := [some (.ref 22), some (.int y1), some (.int y2)]) rfl (mz_fe (e := (87, .invokevirtual 146, 55, (18, 2, 8), [])) (by decide +kernel)) rfl (mz_inv_virt (N := 18) (k := 2) (t := 8) (st := [.int y1, .ref 17]) (rest := []) (b := 17) (vs := [.int y1]) (h := (mz_S0, m76)) rfl rfl (Nat.le_of_ble_eq_true rfl) (Nat.le_of_ble_eq_true rfl) tg_17 (by decide)) (mz_dc_lt (n := 2) rfl (by decide +kernel) (by decide +kernel)) (by decide +kernel) (by decide +kernel) (fun m79 => ?_)
        refine q_o (mz_fe (e := (90, .aload_n 0, 1, (0, 0, 0), [])) (by decide +kernel)) (pc2 := 91) rfl ?_
        refine q_bi (v := 23) (mz_fe (e := (91, .bipush 23, 2, (0, 0, 0), [])) (by decide +kernel)) (by decide) ?_
        refine q_callV (N := 49) (vs := [.ref 22, .int 23]) (rest := []) (L' := [some (.ref 22), some (.int y1), some (.int y2)]) rfl (mz_fe (e := (93, .invokevirtual 99, 47, (49, 2, 10), [])) (by decide +kernel)) rfl (mz_inv_virt (N := 49) (k := 2) (t := 10) (st := [.int 23, .ref 22]) (rest := []) (b := 22) (vs := [.int 23]) (h := (mz_S0, m79)) rfl rfl (Nat.le_of_ble_eq_true rfl) (Nat.le_of_ble_eq_true rfl) tg_22 (by decide)) (mz_dc_lt (n := 2) rfl (by decide +kernel) (by decide +kernel)) (by decide +kernel) (by decide +kernel) (fun m82 => ?_)
        refine q_o (mz_fe (e := (96, .aload_n 0, 1, (0, 0, 0), [])) (by decide +kernel)) (pc2 := 97) rfl ?_
        refine q_ic (v := 0) (mz_fe (e := (97, .iconst 0, 1, (0, 0, 0), [])) (by decide +kernel)) (by decide) ?_
        refine q_callV (N := 58) (vs := [.ref 22, .int 0]) (rest := []) (L' := [some (.ref 22), some (.int y1), some (.int y2)]) rfl (mz_fe (e := (98, .invokevirtual 143, 54, (58, 2, 10), [])) (by decide +kernel)) rfl (mz_inv_virt (N := 58) (k := 2) (t := 10) (st := [.int 0, .ref 22]) (rest := []) (b := 22) (vs := [.int 0]) (h := (mz_S0, m82)) rfl rfl (Nat.le_of_ble_eq_true rfl) (Nat.le_of_ble_eq_true rfl) tg_22 (by decide)) (mz_dc_lt (n := 2) rfl (by decide +kernel) (by decide +kernel)) (by decide +kernel) (by decide +kernel) (fun m85 => ?_)
        refine q_o (mz_fe (e := (101, .aload_n 0, 1, (0, 0, 0), [])) (by decide +kernel)) (pc2 := 102) rfl ?_
        refine q_getR (b := 13) (mz_fe (e := (102, .getfield 20, 26, (4, 1, 2), [])) (by decide +kernel)) rfl tg_22 (by rw [ln_22]; decide) (mz_rfS (by decide +kernel)) ?_
        refine q_getR (b := 17) (mz_fe (e := (105, .getfield 134, 42, (8, 3, 2), [])) (by decide +kernel)) rfl tg_13 (by rw [ln_13]; decide) (mz_rfS (by decide +kernel)) ?_
        refine q_o (mz_fe (e := (108, .iload_n 1, 1, (0, 0, 0), [])) (by decide +kernel)) (pc2 := 109) rfl ?_
        refine q_callV (N := 18) (vs := [.ref 17, .int y1]) (rest := []) (L' := [some (.ref 22), some (.int y1), some (.int y2)]) rfl (mz_fe (e := (109, .invokevirtual 146, 55, (18, 2, 8), [])) (by decide +kernel)) rfl (mz_inv_virt (N := 18) (k := 2) (t := 8) (st := [.int y1, .ref 17]) (rest := []) (b := 17) (vs := [.int y1]) (h := (mz_S0, m85)) rfl rfl (Nat.le_of_ble_eq_true rfl) (Nat.le_of_ble_eq_true rfl) tg_17 (by decide)) (mz_dc_lt (n := 2) rfl (by decide +kernel) (by decide +kernel)) (by decide +kernel) (by decide +kernel) (fun m88 => ?_)
        refine q_o (mz_fe (e := (112, .aload_n 0, 1, (0, 0, 0), [])) (by decide +kernel)) (pc2 := 113) rfl ?_
        refine q_bi (v := 24) (mz_fe (e := (113, .bipush 24, 2, (0, 0, 0), [])) (by decide +kernel)) (by decide) ?_
        refine q_callV (N := 49) (vs := [.ref 22, .int 24]) (rest := []) (L' := [some (.ref 22), some (.int y1), some (.int y2)]) rfl (mz_fe (e := (115, .invokevirtual 99, 47, (49, 2, 10), [])) (by decide +kernel)) rfl (mz_inv_virt (N := 49) (k := 2) (t := 10) (st := [.int 24, .ref 22]) (rest := []) (b := 22) (vs := [.int 24]) (h := (mz_S0, m88)) rfl rfl (Nat.le_of_ble_eq_true rfl) (Nat.le_of_ble_eq_true rfl) tg_22 (by decide)) (mz_dc_lt (n := 2) rfl (by decide +kernel) (by decide +kernel)) (by decide +kernel) (by decide +kernel) (fun m91 => ?_)
        refine q_iinc (v := y2) (c := 1) (L3 := [some (.ref 22), some (.int y1), some (.int (y2 + 1))]) (mz_fe (e := (118, .iinc 2 1, 3, (0, 0, 0), [])) (by decide +kernel)) rfl rfl (by decide) rfl ?_
        refine q_o (mz_fe (e := (121, .goto (-99), 3, (0, 0, 0), [])) (by decide +kernel)) (pc2 := 22) rfl ?_
        exact congrArg mz_cV (mz_At_msk (L := [some (.ref 22), some (.int y1), some (.int (y2 + 1))]) (L2 := [some (.ref 22), some (.int y1), some (.int (y2 + 1))]) (mz_fe (e := (22, .aload_n 0, 1, (0, 0, 0), [true, true, true])) (by decide +kernel)) rfl rfl)
set_option maxRecDepth 10000 in
theorem R_X4_readSum_eq (d : Nat) (x0 : Int32) (m : MzM)  : R_X4_readSum d x0 m = H_X4_readSum_7 d x0 (-1) 0 0 m := by
  show mz_cV (mz_T d 58 0 (mz_en (mz_xl 58) [.ref 22, .int x0]) [] m) = _
  rw [show mz_en (mz_xl 58) [.ref 22, .int x0] = [some (.ref 22), some (.int x0), none, none, none, none, none] from by rw [show mz_xl 58 = 7 from by decide +kernel]; rfl]
  refine q_ic (v := (-1)) (mz_fe (e := (0, .iconst (-1), 1, (0, 0, 0), [])) (by decide +kernel)) (by decide) ?_
  refine q_s (mz_fe (e := (1, .istore_n 2, 1, (0, 0, 0), [])) (by decide +kernel)) (pc' := 2) (L' := [some (.ref 22), some (.int x0), some (.int (-1)), none, none, none, none]) (st' := []) rfl ?_
  refine q_ic (v := 0) (mz_fe (e := (2, .iconst 0, 1, (0, 0, 0), [])) (by decide +kernel)) (by decide) ?_
  refine q_s (mz_fe (e := (3, .istore_n 3, 1, (0, 0, 0), [])) (by decide +kernel)) (pc' := 4) (L' := [some (.ref 22), some (.int x0), some (.int (-1)), some (.int 0), none, none, none]) (st' := []) rfl ?_
  refine q_ic (v := 0) (mz_fe (e := (4, .iconst 0, 1, (0, 0, 0), [])) (by decide +kernel)) (by decide) ?_
  refine q_s (mz_fe (e := (5, .istore 4, 2, (0, 0, 0), [])) (by decide +kernel)) (pc' := 7) (L' := [some (.ref 22), some (.int x0), some (.int (-1)), some (.int 0), some (.int 0), none, none]) (st' := []) rfl ?_
  exact congrArg mz_cV (mz_At_msk (L := [some (.ref 22), some (.int x0), some (.int (-1)), some (.int 0), some (.int 0), none, none]) (L2 := [some (.ref 22), some (.int x0), some (.int (-1)), some (.int 0), some (.int 0), none, none]) (mz_fe (e := (7, .iload 4, 2, (0, 0, 0), [true, true, true, true, true, false, false])) (by decide +kernel)) rfl rfl)
set_option maxRecDepth 10000 in
theorem H_X4_readSum_7_eq (d : Nat) (y1 : Int32) (y2 : Int32) (y3 : Int32) (y4 : Int32) (m : MzM)  : H_X4_readSum_7 d y1 y2 y3 y4 m = if (400 : Int32) < y4 then some m else (if ¬ y3 = 0 then some m else ((R_X4_readUnit d y1 m).bind (fun m3 => H_X4_readSum_27 d y1 y2 y4 0 m3))) := by
  show mz_cV (mz_T d 58 7 [some (.ref 22), some (.int y1), some (.int y2), some (.int y3), some (.int y4), none, none] [] m) = _
  refine q_s (mz_fe (e := (7, .iload 4, 2, (0, 0, 0), [true, true, true, true, true, false, false])) (by decide +kernel)) (pc' := 9) (L' := [some (.ref 22), some (.int y1), some (.int y2), some (.int y3), some (.int y4), none, none]) (st' := [.int y4]) rfl ?_
  refine q_si (v := 400) (mz_fe (e := (9, .sipush 400, 3, (0, 0, 0), [])) (by decide +kernel)) (by decide) ?_
  refine q_if (c := .gt) (off := 133) (t := 145) (x := y4) (y := 400) (st := []) (mz_fe (e := (12, .if_icmp .gt 133, 3, (0, 0, 0), [])) (by decide +kernel)) (fun _ => rfl) rfl rfl rfl (fun c1 => ?_) (fun c1 => ?_)
  · exact q_retV (mz_fe (e := (145, .return_, 1, (0, 0, 0), [])) (by decide +kernel)) (by decide +kernel)
  · refine q_o (mz_fe (e := (15, .iload_n 3, 1, (0, 0, 0), [])) (by decide +kernel)) (pc2 := 16) rfl ?_
    refine q_if (c := .ne) (off := 129) (t := 145) (x := y3) (y := 0) (st := []) (mz_fe (e := (16, .ifCond .ne 129, 3, (0, 0, 0), [])) (by decide +kernel)) (fun _ => rfl) rfl rfl rfl (fun c2 => ?_) (fun c2 => ?_)
    · exact q_retV (mz_fe (e := (145, .return_, 1, (0, 0, 0), [])) (by decide +kernel)) (by decide +kernel)
    · refine q_o (mz_fe (e := (19, .aload_n 0, 1, (0, 0, 0), [])) (by decide +kernel)) (pc2 := 20) rfl ?_
      refine q_o (mz_fe (e := (20, .iload_n 1, 1, (0, 0, 0), [])) (by decide +kernel)) (pc2 := 21) rfl ?_
      refine q_callV (N := 59) (vs := [.ref 22, .int y1]) (rest := []) (L' := [some (.ref 22), some (.int y1), some (.int y2), some (.int y3), some (.int y4), none, none]) rfl (mz_fe (e := (21, .invokevirtual 149, 56, (59, 2, 10), [])) (by decide +kernel)) rfl (mz_inv_virt (N := 59) (k := 2) (t := 10) (st := [.int y1, .ref 22]) (rest := []) (b := 22) (vs := [.int y1]) (h := (mz_S0, m)) rfl rfl (Nat.le_of_ble_eq_true rfl) (Nat.le_of_ble_eq_true rfl) tg_22 (by decide)) (mz_dc_lt (n := 2) rfl (by decide +kernel) (by decide +kernel)) (by decide +kernel) (by decide +kernel) (fun m3 => ?_)
      refine q_ic (v := 0) (mz_fe (e := (24, .iconst 0, 1, (0, 0, 0), [])) (by decide +kernel)) (by decide) ?_
      refine q_s (mz_fe (e := (25, .istore 5, 2, (0, 0, 0), [])) (by decide +kernel)) (pc' := 27) (L' := [some (.ref 22), some (.int y1), some (.int y2), some (.int y3), some (.int y4), some (.int 0), none]) (st' := []) rfl ?_
      exact congrArg mz_cV (mz_At_msk (L := [some (.ref 22), some (.int y1), some (.int y2), some (.int y3), some (.int y4), some (.int 0), none]) (L2 := [some (.ref 22), some (.int y1), some (.int y2), none, some (.int y4), some (.int 0), none]) (mz_fe (e := (27, .iload 5, 2, (0, 0, 0), [true, true, true, false, true, true, false])) (by decide +kernel)) rfl rfl)
set_option maxRecDepth 10000 in
theorem H_X4_readSum_27_eq (d : Nat) (y1 : Int32) (y2 : Int32) (y4 : Int32) (y5 : Int32) (m : MzM)  : H_X4_readSum_27 d y1 y2 y4 y5 m = if (400 : Int32) ≤ y5 then (if y2 = (-1) then (if (mz_rd m 22 3) = 6 then ((R_X4_take d  m).bind (fun m9 => H_X4_readSum_7 d y1 (mz_rd m 22 3) 0 (y4 + 1) m9)) else (if (mz_rd m 22 3) = 7 then ((R_X4_take d  m).bind (fun m13 => H_X4_readSum_7 d y1 (mz_rd m 22 3) 0 (y4 + 1) m13)) else (H_X4_readSum_7 d y1 (mz_rd m 22 3) 1 (y4 + 1) m))) else ((R_X2_addSign d 17 y2 m).bind (fun m16 => if (mz_rd m16 22 3) = 6 then ((R_X4_take d  m16).bind (fun m20 => H_X4_readSum_7 d y1 (mz_rd m16 22 3) 0 (y4 + 1) m20)) else (if (mz_rd m16 22 3) = 7 then ((R_X4_take d  m16).bind (fun m24 => H_X4_readSum_7 d y1 (mz_rd m16 22 3) 0 (y4 + 1) m24)) else (H_X4_readSum_7 d y1 (mz_rd m16 22 3) 1 (y4 + 1) m16))))) else (if (mz_rd m 22 3) = 8 then ((R_X4_take d  m).bind (fun m28 => (R_X4_readUnit d y1 m28).bind (fun m31 => (R_X2_addSign d 17 (mz_rd m 22 3) m31).bind (fun m34 => H_X4_readSum_27 d y1 y2 y4 (y5 + 1) m34)))) else (if ¬ (mz_rd m 22 3) = 9 then (if y2 = (-1) then (if (mz_rd m 22 3) = 6 then ((R_X4_take d  m).bind (fun m40 => H_X4_readSum_7 d y1 (mz_rd m 22 3) 0 (y4 + 1) m40)) else (if (mz_rd m 22 3) = 7 then ((R_X4_take d  m).bind (fun m44 => H_X4_readSum_7 d y1 (mz_rd m 22 3) 0 (y4 + 1) m44)) else (H_X4_readSum_7 d y1 (mz_rd m 22 3) 1 (y4 + 1) m))) else ((R_X2_addSign d 17 y2 m).bind (fun m47 => if (mz_rd m47 22 3) = 6 then ((R_X4_take d  m47).bind (fun m51 => H_X4_readSum_7 d y1 (mz_rd m47 22 3) 0 (y4 + 1) m51)) else (if (mz_rd m47 22 3) = 7 then ((R_X4_take d  m47).bind (fun m55 => H_X4_readSum_7 d y1 (mz_rd m47 22 3) 0 (y4 + 1) m55)) else (H_X4_readSum_7 d y1 (mz_rd m47 22 3) 1 (y4 + 1) m47))))) else ((R_X4_take d  m).bind (fun m58 => (R_X4_readUnit d y1 m58).bind (fun m61 => (R_X2_addSign d 17 (mz_rd m 22 3) m61).bind (fun m64 => H_X4_readSum_27 d y1 y2 y4 (y5 + 1) m64)))))) := by
  show mz_cV (mz_T d 58 27 [some (.ref 22), some (.int y1), some (.int y2), none, some (.int y4), some (.int y5), none] [] m) = _
  refine q_s (mz_fe (e := (27, .iload 5, 2, (0, 0, 0), [true, true, true, false, true, true, false])) (by decide +kernel)) (pc' := 29) (L' := [some (.ref 22), some (.int y1), some (.int y2), none, some (.int y4), some (.int y5), none]) (st' := [.int y5]) rfl ?_
  refine q_si (v := 400) (mz_fe (e := (29, .sipush 400, 3, (0, 0, 0), [])) (by decide +kernel)) (by decide) ?_
  refine q_if (c := .ge) (off := 54) (t := 86) (x := y5) (y := 400) (st := []) (mz_fe (e := (32, .if_icmp .ge 54, 3, (0, 0, 0), [])) (by decide +kernel)) (fun _ => rfl) rfl rfl rfl (fun c6 => ?_) (fun c6 => ?_)
  · refine q_o (mz_fe (e := (86, .iload_n 2, 1, (0, 0, 0), [])) (by decide +kernel)) (pc2 := 87) rfl ?_
    refine q_ic (v := (-1)) (mz_fe (e := (87, .iconst (-1), 1, (0, 0, 0), [])) (by decide +kernel)) (by decide) ?_
    refine q_if (c := .eq) (off := 14) (t := 102) (x := y2) (y := (-1)) (st := []) (mz_fe (e := (88, .if_icmp .eq 14, 3, (0, 0, 0), [])) (by decide +kernel)) (fun _ => rfl) rfl rfl rfl (fun c7 => ?_) (fun c7 => ?_)
    · refine q_o (mz_fe (e := (102, .aload_n 0, 1, (0, 0, 0), [])) (by decide +kernel)) (pc2 := 103) rfl ?_
      refine q_getI (mz_fe (e := (103, .getfield 46, 30, (4, 3, 0), [])) (by decide +kernel)) rfl (by decide) tg_22 (by rw [ln_22]; decide) ?_
      refine q_bi (v := 6) (mz_fe (e := (106, .bipush 6, 2, (0, 0, 0), [])) (by decide +kernel)) (by decide) ?_
      refine q_if (c := .eq) (off := 16) (t := 124) (x := (mz_rd m 22 3)) (y := 6) (st := []) (mz_fe (e := (108, .if_icmp .eq 16, 3, (0, 0, 0), [])) (by decide +kernel)) (fun _ => rfl) rfl rfl rfl (fun c8 => ?_) (fun c8 => ?_)
      · refine q_ic (v := 0) (mz_fe (e := (124, .iconst 0, 1, (0, 0, 0), [])) (by decide +kernel)) (by decide) ?_
        refine q_s (mz_fe (e := (125, .istore_n 3, 1, (0, 0, 0), [])) (by decide +kernel)) (pc' := 126) (L' := [some (.ref 22), some (.int y1), some (.int y2), some (.int 0), some (.int y4), some (.int y5), none]) (st' := []) rfl ?_
        refine q_o (mz_fe (e := (126, .aload_n 0, 1, (0, 0, 0), [])) (by decide +kernel)) (pc2 := 127) rfl ?_
        refine q_getI (mz_fe (e := (127, .getfield 46, 30, (4, 3, 0), [])) (by decide +kernel)) rfl (by decide) tg_22 (by rw [ln_22]; decide) ?_
        refine q_s (mz_fe (e := (130, .istore_n 2, 1, (0, 0, 0), [])) (by decide +kernel)) (pc' := 131) (L' := [some (.ref 22), some (.int y1), some (.int (mz_rd m 22 3)), some (.int 0), some (.int y4), some (.int y5), none]) (st' := []) rfl ?_
        refine q_o (mz_fe (e := (131, .iload_n 3, 1, (0, 0, 0), [])) (by decide +kernel)) (pc2 := 132) rfl ?_
        refine q_o (mz_fe (e := (132, .ifCond .ne 7, 3, (0, 0, 0), [])) (by decide +kernel)) (pc2 := 135) rfl ?_
        refine q_o (mz_fe (e := (135, .aload_n 0, 1, (0, 0, 0), [])) (by decide +kernel)) (pc2 := 136) rfl ?_
        refine q_callV (N := 48) (vs := [.ref 22]) (rest := []) (L' := [some (.ref 22), some (.int y1), some (.int (mz_rd m 22 3)), some (.int 0), some (.int y4), some (.int y5), none]) rfl (mz_fe (e := (136, .invokevirtual 70, 41, (48, 1, 10), [])) (by decide +kernel)) rfl (mz_inv_virt (N := 48) (k := 1) (t := 10) (st := [.ref 22]) (rest := []) (b := 22) (vs := []) (h := (mz_S0, m)) rfl rfl (Nat.le_of_ble_eq_true rfl) (Nat.le_of_ble_eq_true rfl) tg_22 (by decide)) (mz_dc_lt (n := 1) rfl (by decide +kernel) (by decide +kernel)) (by decide +kernel) (by decide +kernel) (fun m9 => ?_)
        refine q_iinc (v := y4) (c := 1) (L3 := [some (.ref 22), some (.int y1), some (.int (mz_rd m 22 3)), some (.int 0), some (.int (y4 + 1)), some (.int y5), none]) (mz_fe (e := (139, .iinc 4 1, 3, (0, 0, 0), [])) (by decide +kernel)) rfl rfl (by decide) rfl ?_
        refine q_o (mz_fe (e := (142, .goto (-135), 3, (0, 0, 0), [])) (by decide +kernel)) (pc2 := 7) rfl ?_
        exact congrArg mz_cV (mz_At_msk (L := [some (.ref 22), some (.int y1), some (.int (mz_rd m 22 3)), some (.int 0), some (.int (y4 + 1)), some (.int y5), none]) (L2 := [some (.ref 22), some (.int y1), some (.int (mz_rd m 22 3)), some (.int 0), some (.int (y4 + 1)), none, none]) (mz_fe (e := (7, .iload 4, 2, (0, 0, 0), [true, true, true, true, true, false, false])) (by decide +kernel)) rfl rfl)
      · refine q_o (mz_fe (e := (111, .aload_n 0, 1, (0, 0, 0), [])) (by decide +kernel)) (pc2 := 112) rfl ?_
        refine q_getI (mz_fe (e := (112, .getfield 46, 30, (4, 3, 0), [])) (by decide +kernel)) rfl (by decide) tg_22 (by rw [ln_22]; decide) ?_
        refine q_bi (v := 7) (mz_fe (e := (115, .bipush 7, 2, (0, 0, 0), [])) (by decide +kernel)) (by decide) ?_
        refine q_if (c := .eq) (off := 7) (t := 124) (x := (mz_rd m 22 3)) (y := 7) (st := []) (mz_fe (e := (117, .if_icmp .eq 7, 3, (0, 0, 0), [])) (by decide +kernel)) (fun _ => rfl) rfl rfl rfl (fun c12 => ?_) (fun c12 => ?_)
        · refine q_ic (v := 0) (mz_fe (e := (124, .iconst 0, 1, (0, 0, 0), [])) (by decide +kernel)) (by decide) ?_
          refine q_s (mz_fe (e := (125, .istore_n 3, 1, (0, 0, 0), [])) (by decide +kernel)) (pc' := 126) (L' := [some (.ref 22), some (.int y1), some (.int y2), some (.int 0), some (.int y4), some (.int y5), none]) (st' := []) rfl ?_
          refine q_o (mz_fe (e := (126, .aload_n 0, 1, (0, 0, 0), [])) (by decide +kernel)) (pc2 := 127) rfl ?_
          refine q_getI (mz_fe (e := (127, .getfield 46, 30, (4, 3, 0), [])) (by decide +kernel)) rfl (by decide) tg_22 (by rw [ln_22]; decide) ?_
          refine q_s (mz_fe (e := (130, .istore_n 2, 1, (0, 0, 0), [])) (by decide +kernel)) (pc' := 131) (L' := [some (.ref 22), some (.int y1), some (.int (mz_rd m 22 3)), some (.int 0), some (.int y4), some (.int y5), none]) (st' := []) rfl ?_
          refine q_o (mz_fe (e := (131, .iload_n 3, 1, (0, 0, 0), [])) (by decide +kernel)) (pc2 := 132) rfl ?_
          refine q_o (mz_fe (e := (132, .ifCond .ne 7, 3, (0, 0, 0), [])) (by decide +kernel)) (pc2 := 135) rfl ?_
          refine q_o (mz_fe (e := (135, .aload_n 0, 1, (0, 0, 0), [])) (by decide +kernel)) (pc2 := 136) rfl ?_
          refine q_callV (N := 48) (vs := [.ref 22]) (rest := []) (L' := [some (.ref 22), some (.int y1), some (.int (mz_rd m 22 3)), some (.int 0), some (.int y4), some (.int y5), none]) rfl (mz_fe (e := (136, .invokevirtual 70, 41, (48, 1, 10), [])) (by decide +kernel)) rfl (mz_inv_virt (N := 48) (k := 1) (t := 10) (st := [.ref 22]) (rest := []) (b := 22) (vs := []) (h := (mz_S0, m)) rfl rfl (Nat.le_of_ble_eq_true rfl) (Nat.le_of_ble_eq_true rfl) tg_22 (by decide)) (mz_dc_lt (n := 1) rfl (by decide +kernel) (by decide +kernel)) (by decide +kernel) (by decide +kernel) (fun m13 => ?_)
          refine q_iinc (v := y4) (c := 1) (L3 := [some (.ref 22), some (.int y1), some (.int (mz_rd m 22 3)), some (.int 0), some (.int (y4 + 1)), some (.int y5), none]) (mz_fe (e := (139, .iinc 4 1, 3, (0, 0, 0), [])) (by decide +kernel)) rfl rfl (by decide) rfl ?_
          refine q_o (mz_fe (e := (142, .goto (-135), 3, (0, 0, 0), [])) (by decide +kernel)) (pc2 := 7) rfl ?_
          exact congrArg mz_cV (mz_At_msk (L := [some (.ref 22), some (.int y1), some (.int (mz_rd m 22 3)), some (.int 0), some (.int (y4 + 1)), some (.int y5), none]) (L2 := [some (.ref 22), some (.int y1), some (.int (mz_rd m 22 3)), some (.int 0), some (.int (y4 + 1)), none, none]) (mz_fe (e := (7, .iload 4, 2, (0, 0, 0), [true, true, true, true, true, false, false])) (by decide +kernel)) rfl rfl)
        · refine q_ic (v := 1) (mz_fe (e := (120, .iconst 1, 1, (0, 0, 0), [])) (by decide +kernel)) (by decide) ?_
          refine q_o (mz_fe (e := (121, .goto 4, 3, (0, 0, 0), [])) (by decide +kernel)) (pc2 := 125) rfl ?_
          refine q_s (mz_fe (e := (125, .istore_n 3, 1, (0, 0, 0), [])) (by decide +kernel)) (pc' := 126) (L' := [some (.ref 22), some (.int y1), some (.int y2), some (.int 1), some (.int y4), some (.int y5), none]) (st' := []) rfl ?_
          refine q_o (mz_fe (e := (126, .aload_n 0, 1, (0, 0, 0), [])) (by decide +kernel)) (pc2 := 127) rfl ?_
          refine q_getI (mz_fe (e := (127, .getfield 46, 30, (4, 3, 0), [])) (by decide +kernel)) rfl (by decide) tg_22 (by rw [ln_22]; decide) ?_
          refine q_s (mz_fe (e := (130, .istore_n 2, 1, (0, 0, 0), [])) (by decide +kernel)) (pc' := 131) (L' := [some (.ref 22), some (.int y1), some (.int (mz_rd m 22 3)), some (.int 1), some (.int y4), some (.int y5), none]) (st' := []) rfl ?_
          refine q_o (mz_fe (e := (131, .iload_n 3, 1, (0, 0, 0), [])) (by decide +kernel)) (pc2 := 132) rfl ?_
          refine q_o (mz_fe (e := (132, .ifCond .ne 7, 3, (0, 0, 0), [])) (by decide +kernel)) (pc2 := 139) rfl ?_
          refine q_iinc (v := y4) (c := 1) (L3 := [some (.ref 22), some (.int y1), some (.int (mz_rd m 22 3)), some (.int 1), some (.int (y4 + 1)), some (.int y5), none]) (mz_fe (e := (139, .iinc 4 1, 3, (0, 0, 0), [])) (by decide +kernel)) rfl rfl (by decide) rfl ?_
          refine q_o (mz_fe (e := (142, .goto (-135), 3, (0, 0, 0), [])) (by decide +kernel)) (pc2 := 7) rfl ?_
          exact congrArg mz_cV (mz_At_msk (L := [some (.ref 22), some (.int y1), some (.int (mz_rd m 22 3)), some (.int 1), some (.int (y4 + 1)), some (.int y5), none]) (L2 := [some (.ref 22), some (.int y1), some (.int (mz_rd m 22 3)), some (.int 1), some (.int (y4 + 1)), none, none]) (mz_fe (e := (7, .iload 4, 2, (0, 0, 0), [true, true, true, true, true, false, false])) (by decide +kernel)) rfl rfl)
    · refine q_o (mz_fe (e := (91, .aload_n 0, 1, (0, 0, 0), [])) (by decide +kernel)) (pc2 := 92) rfl ?_
      refine q_getR (b := 13) (mz_fe (e := (92, .getfield 20, 26, (4, 1, 2), [])) (by decide +kernel)) rfl tg_22 (by rw [ln_22]; decide) (mz_rfS (by decide +kernel)) ?_
      refine q_getR (b := 17) (mz_fe (e := (95, .getfield 134, 42, (8, 3, 2), [])) (by decide +kernel)) rfl tg_13 (by rw [ln_13]; decide) (mz_rfS (by decide +kernel)) ?_
      refine q_o (mz_fe (e := (98, .iload_n 2, 1, (0, 0, 0), [])) (by decide +kernel)) (pc2 := 99) rfl ?_
      refine q_callV (N := 21) (vs := [.ref 17, .int y2]) (rest := []) (L' := [some (.ref 22), some (.int y1), some (.int y2), none, some (.int y4), some (.int y5), none]) rfl (mz_fe (e := (99, .invokevirtual 152, 57, (21, 2, 8), [])) (by decide +kernel)) rfl (mz_inv_virt (N := 21) (k := 2) (t := 8) (st := [.int y2, .ref 17]) (rest := []) (b := 17) (vs := [.int y2]) (h := (mz_S0, m)) rfl rfl (Nat.le_of_ble_eq_true rfl) (Nat.le_of_ble_eq_true rfl) tg_17 (by decide)) (mz_dc_lt (n := 2) rfl (by decide +kernel) (by decide +kernel)) (by decide +kernel) (by decide +kernel) (fun m16 => ?_)
      refine q_o (mz_fe (e := (102, .aload_n 0, 1, (0, 0, 0), [])) (by decide +kernel)) (pc2 := 103) rfl ?_
      refine q_getI (mz_fe (e := (103, .getfield 46, 30, (4, 3, 0), [])) (by decide +kernel)) rfl (by decide) tg_22 (by rw [ln_22]; decide) ?_
      refine q_bi (v := 6) (mz_fe (e := (106, .bipush 6, 2, (0, 0, 0), [])) (by decide +kernel)) (by decide) ?_
      refine q_if (c := .eq) (off := 16) (t := 124) (x := (mz_rd m16 22 3)) (y := 6) (st := []) (mz_fe (e := (108, .if_icmp .eq 16, 3, (0, 0, 0), [])) (by decide +kernel)) (fun _ => rfl) rfl rfl rfl (fun c19 => ?_) (fun c19 => ?_)
      · refine q_ic (v := 0) (mz_fe (e := (124, .iconst 0, 1, (0, 0, 0), [])) (by decide +kernel)) (by decide) ?_
        refine q_s (mz_fe (e := (125, .istore_n 3, 1, (0, 0, 0), [])) (by decide +kernel)) (pc' := 126) (L' := [some (.ref 22), some (.int y1), some (.int y2), some (.int 0), some (.int y4), some (.int y5), none]) (st' := []) rfl ?_
        refine q_o (mz_fe (e := (126, .aload_n 0, 1, (0, 0, 0), [])) (by decide +kernel)) (pc2 := 127) rfl ?_
        refine q_getI (mz_fe (e := (127, .getfield 46, 30, (4, 3, 0), [])) (by decide +kernel)) rfl (by decide) tg_22 (by rw [ln_22]; decide) ?_
        refine q_s (mz_fe (e := (130, .istore_n 2, 1, (0, 0, 0), [])) (by decide +kernel)) (pc' := 131) (L' := [some (.ref 22), some (.int y1), some (.int (mz_rd m16 22 3)), some (.int 0), some (.int y4), some (.int y5), none]) (st' := []) rfl ?_
        refine q_o (mz_fe (e := (131, .iload_n 3, 1, (0, 0, 0), [])) (by decide +kernel)) (pc2 := 132) rfl ?_
        refine q_o (mz_fe (e := (132, .ifCond .ne 7, 3, (0, 0, 0), [])) (by decide +kernel)) (pc2 := 135) rfl ?_
        refine q_o (mz_fe (e := (135, .aload_n 0, 1, (0, 0, 0), [])) (by decide +kernel)) (pc2 := 136) rfl ?_
        refine q_callV (N := 48) (vs := [.ref 22]) (rest := []) (L' := [some (.ref 22), some (.int y1), some (.int (mz_rd m16 22 3)), some (.int 0), some (.int y4), some (.int y5), none]) rfl (mz_fe (e := (136, .invokevirtual 70, 41, (48, 1, 10), [])) (by decide +kernel)) rfl (mz_inv_virt (N := 48) (k := 1) (t := 10) (st := [.ref 22]) (rest := []) (b := 22) (vs := []) (h := (mz_S0, m16)) rfl rfl (Nat.le_of_ble_eq_true rfl) (Nat.le_of_ble_eq_true rfl) tg_22 (by decide)) (mz_dc_lt (n := 1) rfl (by decide +kernel) (by decide +kernel)) (by decide +kernel) (by decide +kernel) (fun m20 => ?_)
        refine q_iinc (v := y4) (c := 1) (L3 := [some (.ref 22), some (.int y1), some (.int (mz_rd m16 22 3)), some (.int 0), some (.int (y4 + 1)), some (.int y5), none]) (mz_fe (e := (139, .iinc 4 1, 3, (0, 0, 0), [])) (by decide +kernel)) rfl rfl (by decide) rfl ?_
        refine q_o (mz_fe (e := (142, .goto (-135), 3, (0, 0, 0), [])) (by decide +kernel)) (pc2 := 7) rfl ?_
        exact congrArg mz_cV (mz_At_msk (L := [some (.ref 22), some (.int y1), some (.int (mz_rd m16 22 3)), some (.int 0), some (.int (y4 + 1)), some (.int y5), none]) (L2 := [some (.ref 22), some (.int y1), some (.int (mz_rd m16 22 3)), some (.int 0), some (.int (y4 + 1)), none, none]) (mz_fe (e := (7, .iload 4, 2, (0, 0, 0), [true, true, true, true, true, false, false])) (by decide +kernel)) rfl rfl)
      · refine q_o (mz_fe (e := (111, .aload_n 0, 1, (0, 0, 0), [])) (by decide +kernel)) (pc2 := 112) rfl ?_
        refine q_getI (mz_fe (e := (112, .getfield 46, 30, (4, 3, 0), [])) (by decide +kernel)) rfl (by decide) tg_22 (by rw [ln_22]; decide) ?_
        refine q_bi (v := 7) (mz_fe (e := (115, .bipush 7, 2, (0, 0, 0), [])) (by decide +kernel)) (by decide) ?_
        refine q_if (c := .eq) (off := 7) (t := 124) (x := (mz_rd m16 22 3)) (y := 7) (st := []) (mz_fe (e := (117, .if_icmp .eq 7, 3, (0, 0, 0), [])) (by decide +kernel)) (fun _ => rfl) rfl rfl rfl (fun c23 => ?_) (fun c23 => ?_)
        · refine q_ic (v := 0) (mz_fe (e := (124, .iconst 0, 1, (0, 0, 0), [])) (by decide +kernel)) (by decide) ?_
          refine q_s (mz_fe (e := (125, .istore_n 3, 1, (0, 0, 0), [])) (by decide +kernel)) (pc' := 126) (L' := [some (.ref 22), some (.int y1), some (.int y2), some (.int 0), some (.int y4), some (.int y5), none]) (st' := []) rfl ?_
          refine q_o (mz_fe (e := (126, .aload_n 0, 1, (0, 0, 0), [])) (by decide +kernel)) (pc2 := 127) rfl ?_
          refine q_getI (mz_fe (e := (127, .getfield 46, 30, (4, 3, 0), [])) (by decide +kernel)) rfl (by decide) tg_22 (by rw [ln_22]; decide) ?_
          refine q_s (mz_fe (e := (130, .istore_n 2, 1, (0, 0, 0), [])) (by decide +kernel)) (pc' := 131) (L' := [some (.ref 22), some (.int y1), some (.int (mz_rd m16 22 3)), some (.int 0), some (.int y4), some (.int y5), none]) (st' := []) rfl ?_
          refine q_o (mz_fe (e := (131, .iload_n 3, 1, (0, 0, 0), [])) (by decide +kernel)) (pc2 := 132) rfl ?_
          refine q_o (mz_fe (e := (132, .ifCond .ne 7, 3, (0, 0, 0), [])) (by decide +kernel)) (pc2 := 135) rfl ?_
          refine q_o (mz_fe (e := (135, .aload_n 0, 1, (0, 0, 0), [])) (by decide +kernel)) (pc2 := 136) rfl ?_
          refine q_callV (N := 48) (vs := [.ref 22]) (rest := []) (L' := [some (.ref 22), some (.int y1), some (.int (mz_rd m16 22 3)), some (.int 0), some (.int y4), some (.int y5), none]) rfl (mz_fe (e := (136, .invokevirtual 70, 41, (48, 1, 10), [])) (by decide +kernel)) rfl (mz_inv_virt (N := 48) (k := 1) (t := 10) (st := [.ref 22]) (rest := []) (b := 22) (vs := []) (h := (mz_S0, m16)) rfl rfl (Nat.le_of_ble_eq_true rfl) (Nat.le_of_ble_eq_true rfl) tg_22 (by decide)) (mz_dc_lt (n := 1) rfl (by decide +kernel) (by decide +kernel)) (by decide +kernel) (by decide +kernel) (fun m24 => ?_)
          refine q_iinc (v := y4) (c := 1) (L3 := [some (.ref 22), some (.int y1), some (.int (mz_rd m16 22 3)), some (.int 0), some (.int (y4 + 1)), some (.int y5), none]) (mz_fe (e := (139, .iinc 4 1, 3, (0, 0, 0), [])) (by decide +kernel)) rfl rfl (by decide) rfl ?_
          refine q_o (mz_fe (e := (142, .goto (-135), 3, (0, 0, 0), [])) (by decide +kernel)) (pc2 := 7) rfl ?_
          exact congrArg mz_cV (mz_At_msk (L := [some (.ref 22), some (.int y1), some (.int (mz_rd m16 22 3)), some (.int 0), some (.int (y4 + 1)), some (.int y5), none]) (L2 := [some (.ref 22), some (.int y1), some (.int (mz_rd m16 22 3)), some (.int 0), some (.int (y4 + 1)), none, none]) (mz_fe (e := (7, .iload 4, 2, (0, 0, 0), [true, true, true, true, true, false, false])) (by decide +kernel)) rfl rfl)
        · refine q_ic (v := 1) (mz_fe (e := (120, .iconst 1, 1, (0, 0, 0), [])) (by decide +kernel)) (by decide) ?_
          refine q_o (mz_fe (e := (121, .goto 4, 3, (0, 0, 0), [])) (by decide +kernel)) (pc2 := 125) rfl ?_
          refine q_s (mz_fe (e := (125, .istore_n 3, 1, (0, 0, 0), [])) (by decide +kernel)) (pc' := 126) (L' := [some (.ref 22), some (.int y1), some (.int y2), some (.int 1), some (.int y4), some (.int y5), none]) (st' := []) rfl ?_
          refine q_o (mz_fe (e := (126, .aload_n 0, 1, (0, 0, 0), [])) (by decide +kernel)) (pc2 := 127) rfl ?_
          refine q_getI (mz_fe (e := (127, .getfield 46, 30, (4, 3, 0), [])) (by decide +kernel)) rfl (by decide) tg_22 (by rw [ln_22]; decide) ?_
          refine q_s (mz_fe (e := (130, .istore_n 2, 1, (0, 0, 0), [])) (by decide +kernel)) (pc' := 131) (L' := [some (.ref 22), some (.int y1), some (.int (mz_rd m16 22 3)), some (.int 1), some (.int y4), some (.int y5), none]) (st' := []) rfl ?_
          refine q_o (mz_fe (e := (131, .iload_n 3, 1, (0, 0, 0), [])) (by decide +kernel)) (pc2 := 132) rfl ?_
          refine q_o (mz_fe (e := (132, .ifCond .ne 7, 3, (0, 0, 0), [])) (by decide +kernel)) (pc2 := 139) rfl ?_
          refine q_iinc (v := y4) (c := 1) (L3 := [some (.ref 22), some (.int y1), some (.int (mz_rd m16 22 3)), some (.int 1), some (.int (y4 + 1)), some (.int y5), none]) (mz_fe (e := (139, .iinc 4 1, 3, (0, 0, 0), [])) (by decide +kernel)) rfl rfl (by decide) rfl ?_
          refine q_o (mz_fe (e := (142, .goto (-135), 3, (0, 0, 0), [])) (by decide +kernel)) (pc2 := 7) rfl ?_
          exact congrArg mz_cV (mz_At_msk (L := [some (.ref 22), some (.int y1), some (.int (mz_rd m16 22 3)), some (.int 1), some (.int (y4 + 1)), some (.int y5), none]) (L2 := [some (.ref 22), some (.int y1), some (.int (mz_rd m16 22 3)), some (.int 1), some (.int (y4 + 1)), none, none]) (mz_fe (e := (7, .iload 4, 2, (0, 0, 0), [true, true, true, true, true, false, false])) (by decide +kernel)) rfl rfl)
  · refine q_o (mz_fe (e := (35, .aload_n 0, 1, (0, 0, 0), [])) (by decide +kernel)) (pc2 := 36) rfl ?_
    refine q_getI (mz_fe (e := (36, .getfield 46, 30, (4, 3, 0), [])) (by decide +kernel)) rfl (by decide) tg_22 (by rw [ln_22]; decide) ?_
    refine q_bi (v := 8) (mz_fe (e := (39, .bipush 8, 2, (0, 0, 0), [])) (by decide +kernel)) (by decide) ?_
    refine q_if (c := .eq) (off := 12) (t := 53) (x := (mz_rd m 22 3)) (y := 8) (st := []) (mz_fe (e := (41, .if_icmp .eq 12, 3, (0, 0, 0), [])) (by decide +kernel)) (fun _ => rfl) rfl rfl rfl (fun c27 => ?_) (fun c27 => ?_)
    · refine q_o (mz_fe (e := (53, .aload_n 0, 1, (0, 0, 0), [])) (by decide +kernel)) (pc2 := 54) rfl ?_
      refine q_getI (mz_fe (e := (54, .getfield 46, 30, (4, 3, 0), [])) (by decide +kernel)) rfl (by decide) tg_22 (by rw [ln_22]; decide) ?_
      refine q_s (mz_fe (e := (57, .istore 6, 2, (0, 0, 0), [])) (by decide +kernel)) (pc' := 59) (L' := [some (.ref 22), some (.int y1), some (.int y2), none, some (.int y4), some (.int y5), some (.int (mz_rd m 22 3))]) (st' := []) rfl ?_
      refine q_o (mz_fe (e := (59, .aload_n 0, 1, (0, 0, 0), [])) (by decide +kernel)) (pc2 := 60) rfl ?_
      refine q_callV (N := 48) (vs := [.ref 22]) (rest := []) (L' := [some (.ref 22), some (.int y1), some (.int y2), none, some (.int y4), some (.int y5), some (.int (mz_rd m 22 3))]) rfl (mz_fe (e := (60, .invokevirtual 70, 41, (48, 1, 10), [])) (by decide +kernel)) rfl (mz_inv_virt (N := 48) (k := 1) (t := 10) (st := [.ref 22]) (rest := []) (b := 22) (vs := []) (h := (mz_S0, m)) rfl rfl (Nat.le_of_ble_eq_true rfl) (Nat.le_of_ble_eq_true rfl) tg_22 (by decide)) (mz_dc_lt (n := 1) rfl (by decide +kernel) (by decide +kernel)) (by decide +kernel) (by decide +kernel) (fun m28 => ?_)
      refine q_o (mz_fe (e := (63, .aload_n 0, 1, (0, 0, 0), [])) (by decide +kernel)) (pc2 := 64) rfl ?_
      refine q_o (mz_fe (e := (64, .iload_n 1, 1, (0, 0, 0), [])) (by decide +kernel)) (pc2 := 65) rfl ?_
      refine q_callV (N := 59) (vs := [.ref 22, .int y1]) (rest := []) (L' := [some (.ref 22), some (.int y1), some (.int y2), none, some (.int y4), some (.int y5), some (.int (mz_rd m 22 3))]) rfl (mz_fe (e := (65, .invokevirtual 149, 56, (59, 2, 10), [])) (by decide +kernel)) rfl (mz_inv_virt (N := 59) (k := 2) (t := 10) (st := [.int y1, .ref 22]) (rest := []) (b := 22) (vs := [.int y1]) (h := (mz_S0, m28)) rfl rfl (Nat.le_of_ble_eq_true rfl) (Nat.le_of_ble_eq_true rfl) tg_22 (by decide)) (mz_dc_lt (n := 2) rfl (by decide +kernel) (by decide +kernel)) (by decide +kernel) (by decide +kernel) (fun m31 => ?_)
      refine q_o (mz_fe (e := (68, .aload_n 0, 1, (0, 0, 0), [])) (by decide +kernel)) (pc2 := 69) rfl ?_
      refine q_getR (b := 13) (mz_fe (e := (69, .getfield 20, 26, (4, 1, 2), [])) (by decide +kernel)) rfl tg_22 (by rw [ln_22]; decide) (mz_rfS (by decide +kernel)) ?_
      refine q_getR (b := 17) (mz_fe (e := (72, .getfield 134, 42, (8, 3, 2), [])) (by decide +kernel)) rfl tg_13 (by rw [ln_13]; decide) (mz_rfS (by decide +kernel)) ?_
      refine q_o (mz_fe (e := (75, .iload 6, 2, (0, 0, 0), [])) (by decide +kernel)) (pc2 := 77) rfl ?_
      refine q_callV (N := 21) (vs := [.ref 17, .int (mz_rd m 22 3)]) (rest := []) (L' := [some (.ref 22), some (.int y1), some (.int y2), none, some (.int y4), some (.int y5), some (.int (mz_rd m 22 3))]) rfl (mz_fe (e := (77, .invokevirtual 152, 57, (21, 2, 8), [])) (by decide +kernel)) rfl (mz_inv_virt (N := 21) (k := 2) (t := 8) (st := [.int (mz_rd m 22 3), .ref 17]) (rest := []) (b := 17) (vs := [.int (mz_rd m 22 3)]) (h := (mz_S0, m31)) rfl rfl (Nat.le_of_ble_eq_true rfl) (Nat.le_of_ble_eq_true rfl) tg_17 (by decide)) (mz_dc_lt (n := 2) rfl (by decide +kernel) (by decide +kernel)) (by decide +kernel) (by decide +kernel) (fun m34 => ?_)
      refine q_iinc (v := y5) (c := 1) (L3 := [some (.ref 22), some (.int y1), some (.int y2), none, some (.int y4), some (.int (y5 + 1)), some (.int (mz_rd m 22 3))]) (mz_fe (e := (80, .iinc 5 1, 3, (0, 0, 0), [])) (by decide +kernel)) rfl rfl (by decide) rfl ?_
      refine q_o (mz_fe (e := (83, .goto (-56), 3, (0, 0, 0), [])) (by decide +kernel)) (pc2 := 27) rfl ?_
      exact congrArg mz_cV (mz_At_msk (L := [some (.ref 22), some (.int y1), some (.int y2), none, some (.int y4), some (.int (y5 + 1)), some (.int (mz_rd m 22 3))]) (L2 := [some (.ref 22), some (.int y1), some (.int y2), none, some (.int y4), some (.int (y5 + 1)), none]) (mz_fe (e := (27, .iload 5, 2, (0, 0, 0), [true, true, true, false, true, true, false])) (by decide +kernel)) rfl rfl)
    · refine q_o (mz_fe (e := (44, .aload_n 0, 1, (0, 0, 0), [])) (by decide +kernel)) (pc2 := 45) rfl ?_
      refine q_getI (mz_fe (e := (45, .getfield 46, 30, (4, 3, 0), [])) (by decide +kernel)) rfl (by decide) tg_22 (by rw [ln_22]; decide) ?_
      refine q_bi (v := 9) (mz_fe (e := (48, .bipush 9, 2, (0, 0, 0), [])) (by decide +kernel)) (by decide) ?_
      refine q_if (c := .ne) (off := 36) (t := 86) (x := (mz_rd m 22 3)) (y := 9) (st := []) (mz_fe (e := (50, .if_icmp .ne 36, 3, (0, 0, 0), [])) (by decide +kernel)) (fun _ => rfl) rfl rfl rfl (fun c37 => ?_) (fun c37 => ?_)
      · refine q_o (mz_fe (e := (86, .iload_n 2, 1, (0, 0, 0), [])) (by decide +kernel)) (pc2 := 87) rfl ?_
        refine q_ic (v := (-1)) (mz_fe (e := (87, .iconst (-1), 1, (0, 0, 0), [])) (by decide +kernel)) (by decide) ?_
        refine q_if (c := .eq) (off := 14) (t := 102) (x := y2) (y := (-1)) (st := []) (mz_fe (e := (88, .if_icmp .eq 14, 3, (0, 0, 0), [])) (by decide +kernel)) (fun _ => rfl) rfl rfl rfl (fun c38 => ?_) (fun c38 => ?_)
        · refine q_o (mz_fe (e := (102, .aload_n 0, 1, (0, 0, 0), [])) (by decide +kernel)) (pc2 := 103) rfl ?_
          refine q_getI (mz_fe (e := (103, .getfield 46, 30, (4, 3, 0), [])) (by decide +kernel)) rfl (by decide) tg_22 (by rw [ln_22]; decide) ?_
          refine q_bi (v := 6) (mz_fe (e := (106, .bipush 6, 2, (0, 0, 0), [])) (by decide +kernel)) (by decide) ?_
          refine q_if (c := .eq) (off := 16) (t := 124) (x := (mz_rd m 22 3)) (y := 6) (st := []) (mz_fe (e := (108, .if_icmp .eq 16, 3, (0, 0, 0), [])) (by decide +kernel)) (fun _ => rfl) rfl rfl rfl (fun c39 => ?_) (fun c39 => ?_)
          · refine q_ic (v := 0) (mz_fe (e := (124, .iconst 0, 1, (0, 0, 0), [])) (by decide +kernel)) (by decide) ?_
            refine q_s (mz_fe (e := (125, .istore_n 3, 1, (0, 0, 0), [])) (by decide +kernel)) (pc' := 126) (L' := [some (.ref 22), some (.int y1), some (.int y2), some (.int 0), some (.int y4), some (.int y5), none]) (st' := []) rfl ?_
            refine q_o (mz_fe (e := (126, .aload_n 0, 1, (0, 0, 0), [])) (by decide +kernel)) (pc2 := 127) rfl ?_
            refine q_getI (mz_fe (e := (127, .getfield 46, 30, (4, 3, 0), [])) (by decide +kernel)) rfl (by decide) tg_22 (by rw [ln_22]; decide) ?_
            refine q_s (mz_fe (e := (130, .istore_n 2, 1, (0, 0, 0), [])) (by decide +kernel)) (pc' := 131) (L' := [some (.ref 22), some (.int y1), some (.int (mz_rd m 22 3)), some (.int 0), some (.int y4), some (.int y5), none]) (st' := []) rfl ?_
            refine q_o (mz_fe (e := (131, .iload_n 3, 1, (0, 0, 0), [])) (by decide +kernel)) (pc2 := 132) rfl ?_
            refine q_o (mz_fe (e := (132, .ifCond .ne 7, 3, (0, 0, 0), [])) (by decide +kernel)) (pc2 := 135) rfl ?_
            refine q_o (mz_fe (e := (135, .aload_n 0, 1, (0, 0, 0), [])) (by decide +kernel)) (pc2 := 136) rfl ?_
            refine q_callV (N := 48) (vs := [.ref 22]) (rest := []) (L' := [some (.ref 22), some (.int y1), some (.int (mz_rd m 22 3)), some (.int 0), some (.int y4), some (.int y5), none]) rfl (mz_fe (e := (136, .invokevirtual 70, 41, (48, 1, 10), [])) (by decide +kernel)) rfl (mz_inv_virt (N := 48) (k := 1) (t := 10) (st := [.ref 22]) (rest := []) (b := 22) (vs := []) (h := (mz_S0, m)) rfl rfl (Nat.le_of_ble_eq_true rfl) (Nat.le_of_ble_eq_true rfl) tg_22 (by decide)) (mz_dc_lt (n := 1) rfl (by decide +kernel) (by decide +kernel)) (by decide +kernel) (by decide +kernel) (fun m40 => ?_)
            refine q_iinc (v := y4) (c := 1) (L3 := [some (.ref 22), some (.int y1), some (.int (mz_rd m 22 3)), some (.int 0), some (.int (y4 + 1)), some (.int y5), none]) (mz_fe (e := (139, .iinc 4 1, 3, (0, 0, 0), [])) (by decide +kernel)) rfl rfl (by decide) rfl ?_
            refine q_o (mz_fe (e := (142, .goto (-135), 3, (0, 0, 0), [])) (by decide +kernel)) (pc2 := 7) rfl ?_
            exact congrArg mz_cV (mz_At_msk (L := [some (.ref 22), some (.int y1), some (.int (mz_rd m 22 3)), some (.int 0), some (.int (y4 + 1)), some (.int y5), none]) (L2 := [some (.ref 22), some (.int y1), some (.int (mz_rd m 22 3)), some (.int 0), some (.int (y4 + 1)), none, none]) (mz_fe (e := (7, .iload 4, 2, (0, 0, 0), [true, true, true, true, true, false, false])) (by decide +kernel)) rfl rfl)
          · refine q_o (mz_fe (e := (111, .aload_n 0, 1, (0, 0, 0), [])) (by decide +kernel)) (pc2 := 112) rfl ?_
            refine q_getI (mz_fe (e := (112, .getfield 46, 30, (4, 3, 0), [])) (by decide +kernel)) rfl (by decide) tg_22 (by rw [ln_22]; decide) ?_
            refine q_bi (v := 7) (mz_fe (e := (115, .bipush 7, 2, (0, 0, 0), [])) (by decide +kernel)) (by decide) ?_
            refine q_if (c := .eq) (off := 7) (t := 124) (x := (mz_rd m 22 3)) (y := 7) (st := []) (mz_fe (e := (117, .if_icmp .eq 7, 3, (0, 0, 0), [])) (by decide +kernel)) (fun _ => rfl) rfl rfl rfl (fun c43 => ?_) (fun c43 => ?_)
            · refine q_ic (v := 0) (mz_fe (e := (124, .iconst 0, 1, (0, 0, 0), [])) (by decide +kernel)) (by decide) ?_
              refine q_s (mz_fe (e := (125, .istore_n 3, 1, (0, 0, 0), [])) (by decide +kernel)) (pc' := 126) (L' := [some (.ref 22), some (.int y1), some (.int y2), some (.int 0), some (.int y4), some (.int y5), none]) (st' := []) rfl ?_
              refine q_o (mz_fe (e := (126, .aload_n 0, 1, (0, 0, 0), [])) (by decide +kernel)) (pc2 := 127) rfl ?_
              refine q_getI (mz_fe (e := (127, .getfield 46, 30, (4, 3, 0), [])) (by decide +kernel)) rfl (by decide) tg_22 (by rw [ln_22]; decide) ?_
              refine q_s (mz_fe (e := (130, .istore_n 2, 1, (0, 0, 0), [])) (by decide +kernel)) (pc' := 131) (L' := [some (.ref 22), some (.int y1), some (.int (mz_rd m 22 3)), some (.int 0), some (.int y4), some (.int y5), none]) (st' := []) rfl ?_
              refine q_o (mz_fe (e := (131, .iload_n 3, 1, (0, 0, 0), [])) (by decide +kernel)) (pc2 := 132) rfl ?_
              refine q_o (mz_fe (e := (132, .ifCond .ne 7, 3, (0, 0, 0), [])) (by decide +kernel)) (pc2 := 135) rfl ?_
              refine q_o (mz_fe (e := (135, .aload_n 0, 1, (0, 0, 0), [])) (by decide +kernel)) (pc2 := 136) rfl ?_
              refine q_callV (N := 48) (vs := [.ref 22]) (rest := []) (L' := [some (.ref 22), some (.int y1), some (.int (mz_rd m 22 3)), some (.int 0), some (.int y4), some (.int y5), none]) rfl (mz_fe (e := (136, .invokevirtual 70, 41, (48, 1, 10), [])) (by decide +kernel)) rfl (mz_inv_virt (N := 48) (k := 1) (t := 10) (st := [.ref 22]) (rest := []) (b := 22) (vs := []) (h := (mz_S0, m)) rfl rfl (Nat.le_of_ble_eq_true rfl) (Nat.le_of_ble_eq_true rfl) tg_22 (by decide)) (mz_dc_lt (n := 1) rfl (by decide +kernel) (by decide +kernel)) (by decide +kernel) (by decide +kernel) (fun m44 => ?_)
              refine q_iinc (v := y4) (c := 1) (L3 := [some (.ref 22), some (.int y1), some (.int (mz_rd m 22 3)), some (.int 0), some (.int (y4 + 1)), some (.int y5), none]) (mz_fe (e := (139, .iinc 4 1, 3, (0, 0, 0), [])) (by decide +kernel)) rfl rfl (by decide) rfl ?_
              refine q_o (mz_fe (e := (142, .goto (-135), 3, (0, 0, 0), [])) (by decide +kernel)) (pc2 := 7) rfl ?_
              exact congrArg mz_cV (mz_At_msk (L := [some (.ref 22), some (.int y1), some (.int (mz_rd m 22 3)), some (.int 0), some (.int (y4 + 1)), some (.int y5), none]) (L2 := [some (.ref 22), some (.int y1), some (.int (mz_rd m 22 3)), some (.int 0), some (.int (y4 + 1)), none, none]) (mz_fe (e := (7, .iload 4, 2, (0, 0, 0), [true, true, true, true, true, false, false])) (by decide +kernel)) rfl rfl)
            · refine q_ic (v := 1) (mz_fe (e := (120, .iconst 1, 1, (0, 0, 0), [])) (by decide +kernel)) (by decide) ?_
              refine q_o (mz_fe (e := (121, .goto 4, 3, (0, 0, 0), [])) (by decide +kernel)) (pc2 := 125) rfl ?_
              refine q_s (mz_fe (e := (125, .istore_n 3, 1, (0, 0, 0), [])) (by decide +kernel)) (pc' := 126) (L' := [some (.ref 22), some (.int y1), some (.int y2), some (.int 1), some (.int y4), some (.int y5), none]) (st' := []) rfl ?_
              refine q_o (mz_fe (e := (126, .aload_n 0, 1, (0, 0, 0), [])) (by decide +kernel)) (pc2 := 127) rfl ?_
              refine q_getI (mz_fe (e := (127, .getfield 46, 30, (4, 3, 0), [])) (by decide +kernel)) rfl (by decide) tg_22 (by rw [ln_22]; decide) ?_
              refine q_s (mz_fe (e := (130, .istore_n 2, 1, (0, 0, 0), [])) (by decide +kernel)) (pc' := 131) (L' := [some (.ref 22), some (.int y1), some (.int (mz_rd m 22 3)), some (.int 1), some (.int y4), some (.int y5), none]) (st' := []) rfl ?_
              refine q_o (mz_fe (e := (131, .iload_n 3, 1, (0, 0, 0), [])) (by decide +kernel)) (pc2 := 132) rfl ?_
              refine q_o (mz_fe (e := (132, .ifCond .ne 7, 3, (0, 0, 0), [])) (by decide +kernel)) (pc2 := 139) rfl ?_
              refine q_iinc (v := y4) (c := 1) (L3 := [some (.ref 22), some (.int y1), some (.int (mz_rd m 22 3)), some (.int 1), some (.int (y4 + 1)), some (.int y5), none]) (mz_fe (e := (139, .iinc 4 1, 3, (0, 0, 0), [])) (by decide +kernel)) rfl rfl (by decide) rfl ?_
              refine q_o (mz_fe (e := (142, .goto (-135), 3, (0, 0, 0), [])) (by decide +kernel)) (pc2 := 7) rfl ?_
              exact congrArg mz_cV (mz_At_msk (L := [some (.ref 22), some (.int y1), some (.int (mz_rd m 22 3)), some (.int 1), some (.int (y4 + 1)), some (.int y5), none]) (L2 := [some (.ref 22), some (.int y1), some (.int (mz_rd m 22 3)), some (.int 1), some (.int (y4 + 1)), none, none]) (mz_fe (e := (7, .iload 4, 2, (0, 0, 0), [true, true, true, true, true, false, false])) (by decide +kernel)) rfl rfl)
        · refine q_o (mz_fe (e := (91, .aload_n 0, 1, (0, 0, 0), [])) (by decide +kernel)) (pc2 := 92) rfl ?_
          refine q_getR (b := 13) (mz_fe (e := (92, .getfield 20, 26, (4, 1, 2), [])) (by decide +kernel)) rfl tg_22 (by rw [ln_22]; decide) (mz_rfS (by decide +kernel)) ?_
          refine q_getR (b := 17) (mz_fe (e := (95, .getfield 134, 42, (8, 3, 2), [])) (by decide +kernel)) rfl tg_13 (by rw [ln_13]; decide) (mz_rfS (by decide +kernel)) ?_
          refine q_o (mz_fe (e := (98, .iload_n 2, 1, (0, 0, 0), [])) (by decide +kernel)) (pc2 := 99) rfl ?_
          refine q_callV (N := 21) (vs := [.ref 17, .int y2]) (rest := []) (L' := [some (.ref 22), some (.int y1), some (.int y2), none, some (.int y4), some (.int y5), none]) rfl (mz_fe (e := (99, .invokevirtual 152, 57, (21, 2, 8), [])) (by decide +kernel)) rfl (mz_inv_virt (N := 21) (k := 2) (t := 8) (st := [.int y2, .ref 17]) (rest := []) (b := 17) (vs := [.int y2]) (h := (mz_S0, m)) rfl rfl (Nat.le_of_ble_eq_true rfl) (Nat.le_of_ble_eq_true rfl) tg_17 (by decide)) (mz_dc_lt (n := 2) rfl (by decide +kernel) (by decide +kernel)) (by decide +kernel) (by decide +kernel) (fun m47 => ?_)
          refine q_o (mz_fe (e := (102, .aload_n 0, 1, (0, 0, 0), [])) (by decide +kernel)) (pc2 := 103) rfl ?_
          refine q_getI (mz_fe (e := (103, .getfield 46, 30, (4, 3, 0), [])) (by decide +kernel)) rfl (by decide) tg_22 (by rw [ln_22]; decide) ?_
          refine q_bi (v := 6) (mz_fe (e := (106, .bipush 6, 2, (0, 0, 0), [])) (by decide +kernel)) (by decide) ?_
          refine q_if (c := .eq) (off := 16) (t := 124) (x := (mz_rd m47 22 3)) (y := 6) (st := []) (mz_fe (e := (108, .if_icmp .eq 16, 3, (0, 0, 0), [])) (by decide +kernel)) (fun _ => rfl) rfl rfl rfl (fun c50 => ?_) (fun c50 => ?_)
          · refine q_ic (v := 0) (mz_fe (e := (124, .iconst 0, 1, (0, 0, 0), [])) (by decide +kernel)) (by decide) ?_
            refine q_s (mz_fe (e := (125, .istore_n 3, 1, (0, 0, 0), [])) (by decide +kernel)) (pc' := 126) (L' := [some (.ref 22), some (.int y1), some (.int y2), some (.int 0), some (.int y4), some (.int y5), none]) (st' := []) rfl ?_
            refine q_o (mz_fe (e := (126, .aload_n 0, 1, (0, 0, 0), [])) (by decide +kernel)) (pc2 := 127) rfl ?_
            refine q_getI (mz_fe (e := (127, .getfield 46, 30, (4, 3, 0), [])) (by decide +kernel)) rfl (by decide) tg_22 (by rw [ln_22]; decide) ?_
            refine q_s (mz_fe (e := (130, .istore_n 2, 1, (0, 0, 0), [])) (by decide +kernel)) (pc' := 131) (L' := [some (.ref 22), some (.int y1), some (.int (mz_rd m47 22 3)), some (.int 0), some (.int y4), some (.int y5), none]) (st' := []) rfl ?_
            refine q_o (mz_fe (e := (131, .iload_n 3, 1, (0, 0, 0), [])) (by decide +kernel)) (pc2 := 132) rfl ?_
            refine q_o (mz_fe (e := (132, .ifCond .ne 7, 3, (0, 0, 0), [])) (by decide +kernel)) (pc2 := 135) rfl ?_
            refine q_o (mz_fe (e := (135, .aload_n 0, 1, (0, 0, 0), [])) (by decide +kernel)) (pc2 := 136) rfl ?_
            refine q_callV (N := 48) (vs := [.ref 22]) (rest := []) (L' := [some (.ref 22), some (.int y1), some (.int (mz_rd m47 22 3)), some (.int 0), some (.int y4), some (.int y5), none]) rfl (mz_fe (e := (136, .invokevirtual 70, 41, (48, 1, 10), [])) (by decide +kernel)) rfl (mz_inv_virt (N := 48) (k := 1) (t := 10) (st := [.ref 22]) (rest := []) (b := 22) (vs := []) (h := (mz_S0, m47)) rfl rfl (Nat.le_of_ble_eq_true rfl) (Nat.le_of_ble_eq_true rfl) tg_22 (by decide)) (mz_dc_lt (n := 1) rfl (by decide +kernel) (by decide +kernel)) (by decide +kernel) (by decide +kernel) (fun m51 => ?_)
            refine q_iinc (v := y4) (c := 1) (L3 := [some (.ref 22), some (.int y1), some (.int (mz_rd m47 22 3)), some (.int 0), some (.int (y4 + 1)), some (.int y5), none]) (mz_fe (e := (139, .iinc 4 1, 3, (0, 0, 0), [])) (by decide +kernel)) rfl rfl (by decide) rfl ?_
            refine q_o (mz_fe (e := (142, .goto (-135), 3, (0, 0, 0), [])) (by decide +kernel)) (pc2 := 7) rfl ?_
            exact congrArg mz_cV (mz_At_msk (L := [some (.ref 22), some (.int y1), some (.int (mz_rd m47 22 3)), some (.int 0), some (.int (y4 + 1)), some (.int y5), none]) (L2 := [some (.ref 22), some (.int y1), some (.int (mz_rd m47 22 3)), some (.int 0), some (.int (y4 + 1)), none, none]) (mz_fe (e := (7, .iload 4, 2, (0, 0, 0), [true, true, true, true, true, false, false])) (by decide +kernel)) rfl rfl)
          · refine q_o (mz_fe (e := (111, .aload_n 0, 1, (0, 0, 0), [])) (by decide +kernel)) (pc2 := 112) rfl ?_
            refine q_getI (mz_fe (e := (112, .getfield 46, 30, (4, 3, 0), [])) (by decide +kernel)) rfl (by decide) tg_22 (by rw [ln_22]; decide) ?_
            refine q_bi (v := 7) (mz_fe (e := (115, .bipush 7, 2, (0, 0, 0), [])) (by decide +kernel)) (by decide) ?_
            refine q_if (c := .eq) (off := 7) (t := 124) (x := (mz_rd m47 22 3)) (y := 7) (st := []) (mz_fe (e := (117, .if_icmp .eq 7, 3, (0, 0, 0), [])) (by decide +kernel)) (fun _ => rfl) rfl rfl rfl (fun c54 => ?_) (fun c54 => ?_)
            · refine q_ic (v := 0) (mz_fe (e := (124, .iconst 0, 1, (0, 0, 0), [])) (by decide +kernel)) (by decide) ?_
              refine q_s (mz_fe (e := (125, .istore_n 3, 1, (0, 0, 0), [])) (by decide +kernel)) (pc' := 126) (L' := [some (.ref 22), some (.int y1), some (.int y2), some (.int 0), some (.int y4), some (.int y5), none]) (st' := []) rfl ?_
              refine q_o (mz_fe (e := (126, .aload_n 0, 1, (0, 0, 0), [])) (by decide +kernel)) (pc2 := 127) rfl ?_
              refine q_getI (mz_fe (e := (127, .getfield 46, 30, (4, 3, 0), [])) (by decide +kernel)) rfl (by decide) tg_22 (by rw [ln_22]; decide) ?_
              refine q_s (mz_fe (e := (130, .istore_n 2, 1, (0, 0, 0), [])) (by decide +kernel)) (pc' := 131) (L' := [some (.ref 22), some (.int y1), some (.int (mz_rd m47 22 3)), some (.int 0), some (.int y4), some (.int y5), none]) (st' := []) rfl ?_
              refine q_o (mz_fe (e := (131, .iload_n 3, 1, (0, 0, 0), [])) (by decide +kernel)) (pc2 := 132) rfl ?_
              refine q_o (mz_fe (e := (132, .ifCond .ne 7, 3, (0, 0, 0), [])) (by decide +kernel)) (pc2 := 135) rfl ?_
              refine q_o (mz_fe (e := (135, .aload_n 0, 1, (0, 0, 0), [])) (by decide +kernel)) (pc2 := 136) rfl ?_
              refine q_callV (N := 48) (vs := [.ref 22]) (rest := []) (L' := [some (.ref 22), some (.int y1), some (.int (mz_rd m47 22 3)), some (.int 0), some (.int y4), some (.int y5), none]) rfl (mz_fe (e := (136, .invokevirtual 70, 41, (48, 1, 10), [])) (by decide +kernel)) rfl (mz_inv_virt (N := 48) (k := 1) (t := 10) (st := [.ref 22]) (rest := []) (b := 22) (vs := []) (h := (mz_S0, m47)) rfl rfl (Nat.le_of_ble_eq_true rfl) (Nat.le_of_ble_eq_true rfl) tg_22 (by decide)) (mz_dc_lt (n := 1) rfl (by decide +kernel) (by decide +kernel)) (by decide +kernel) (by decide +kernel) (fun m55 => ?_)
              refine q_iinc (v := y4) (c := 1) (L3 := [some (.ref 22), some (.int y1), some (.int (mz_rd m47 22 3)), some (.int 0), some (.int (y4 + 1)), some (.int y5), none]) (mz_fe (e := (139, .iinc 4 1, 3, (0, 0, 0), [])) (by decide +kernel)) rfl rfl (by decide) rfl ?_
              refine q_o (mz_fe (e := (142, .goto (-135), 3, (0, 0, 0), [])) (by decide +kernel)) (pc2 := 7) rfl ?_
              exact congrArg mz_cV (mz_At_msk (L := [some (.ref 22), some (.int y1), some (.int (mz_rd m47 22 3)), some (.int 0), some (.int (y4 + 1)), some (.int y5), none]) (L2 := [some (.ref 22), some (.int y1), some (.int (mz_rd m47 22 3)), some (.int 0), some (.int (y4 + 1)), none, none]) (mz_fe (e := (7, .iload 4, 2, (0, 0, 0), [true, true, true, true, true, false, false])) (by decide +kernel)) rfl rfl)
            · refine q_ic (v := 1) (mz_fe (e := (120, .iconst 1, 1, (0, 0, 0), [])) (by decide +kernel)) (by decide) ?_
              refine q_o (mz_fe (e := (121, .goto 4, 3, (0, 0, 0), [])) (by decide +kernel)) (pc2 := 125) rfl ?_
              refine q_s (mz_fe (e := (125, .istore_n 3, 1, (0, 0, 0), [])) (by decide +kernel)) (pc' := 126) (L' := [some (.ref 22), some (.int y1), some (.int y2), some (.int 1), some (.int y4), some (.int y5), none]) (st' := []) rfl ?_
              refine q_o (mz_fe (e := (126, .aload_n 0, 1, (0, 0, 0), [])) (by decide +kernel)) (pc2 := 127) rfl ?_
              refine q_getI (mz_fe (e := (127, .getfield 46, 30, (4, 3, 0), [])) (by decide +kernel)) rfl (by decide) tg_22 (by rw [ln_22]; decide) ?_
              refine q_s (mz_fe (e := (130, .istore_n 2, 1, (0, 0, 0), [])) (by decide +kernel)) (pc' := 131) (L' := [some (.ref 22), some (.int y1), some (.int (mz_rd m47 22 3)), some (.int 1), some (.int y4), some (.int y5), none]) (st' := []) rfl ?_
              refine q_o (mz_fe (e := (131, .iload_n 3, 1, (0, 0, 0), [])) (by decide +kernel)) (pc2 := 132) rfl ?_
              refine q_o (mz_fe (e := (132, .ifCond .ne 7, 3, (0, 0, 0), [])) (by decide +kernel)) (pc2 := 139) rfl ?_
              refine q_iinc (v := y4) (c := 1) (L3 := [some (.ref 22), some (.int y1), some (.int (mz_rd m47 22 3)), some (.int 1), some (.int (y4 + 1)), some (.int y5), none]) (mz_fe (e := (139, .iinc 4 1, 3, (0, 0, 0), [])) (by decide +kernel)) rfl rfl (by decide) rfl ?_
              refine q_o (mz_fe (e := (142, .goto (-135), 3, (0, 0, 0), [])) (by decide +kernel)) (pc2 := 7) rfl ?_
              exact congrArg mz_cV (mz_At_msk (L := [some (.ref 22), some (.int y1), some (.int (mz_rd m47 22 3)), some (.int 1), some (.int (y4 + 1)), some (.int y5), none]) (L2 := [some (.ref 22), some (.int y1), some (.int (mz_rd m47 22 3)), some (.int 1), some (.int (y4 + 1)), none, none]) (mz_fe (e := (7, .iload 4, 2, (0, 0, 0), [true, true, true, true, true, false, false])) (by decide +kernel)) rfl rfl)
      · refine q_o (mz_fe (e := (53, .aload_n 0, 1, (0, 0, 0), [])) (by decide +kernel)) (pc2 := 54) rfl ?_
        refine q_getI (mz_fe (e := (54, .getfield 46, 30, (4, 3, 0), [])) (by decide +kernel)) rfl (by decide) tg_22 (by rw [ln_22]; decide) ?_
        refine q_s (mz_fe (e := (57, .istore 6, 2, (0, 0, 0), [])) (by decide +kernel)) (pc' := 59) (L' := [some (.ref 22), some (.int y1), some (.int y2), none, some (.int y4), some (.int y5), some (.int (mz_rd m 22 3))]) (st' := []) rfl ?_
        refine q_o (mz_fe (e := (59, .aload_n 0, 1, (0, 0, 0), [])) (by decide +kernel)) (pc2 := 60) rfl ?_
        refine q_callV (N := 48) (vs := [.ref 22]) (rest := []) (L' := [some (.ref 22), some (.int y1), some (.int y2), none, some (.int y4), some (.int y5), some (.int (mz_rd m 22 3))]) rfl (mz_fe (e := (60, .invokevirtual 70, 41, (48, 1, 10), [])) (by decide +kernel)) rfl (mz_inv_virt (N := 48) (k := 1) (t := 10) (st := [.ref 22]) (rest := []) (b := 22) (vs := []) (h := (mz_S0, m)) rfl rfl (Nat.le_of_ble_eq_true rfl) (Nat.le_of_ble_eq_true rfl) tg_22 (by decide)) (mz_dc_lt (n := 1) rfl (by decide +kernel) (by decide +kernel)) (by decide +kernel) (by decide +kernel) (fun m58 => ?_)
        refine q_o (mz_fe (e := (63, .aload_n 0, 1, (0, 0, 0), [])) (by decide +kernel)) (pc2 := 64) rfl ?_
        refine q_o (mz_fe (e := (64, .iload_n 1, 1, (0, 0, 0), [])) (by decide +kernel)) (pc2 := 65) rfl ?_
        refine q_callV (N := 59) (vs := [.ref 22, .int y1]) (rest := []) (L' := [some (.ref 22), some (.int y1), some (.int y2), none, some (.int y4), some (.int y5), some (.int (mz_rd m 22 3))]) rfl (mz_fe (e := (65, .invokevirtual 149, 56, (59, 2, 10), [])) (by decide +kernel)) rfl (mz_inv_virt (N := 59) (k := 2) (t := 10) (st := [.int y1, .ref 22]) (rest := []) (b := 22) (vs := [.int y1]) (h := (mz_S0, m58)) rfl rfl (Nat.le_of_ble_eq_true rfl) (Nat.le_of_ble_eq_true rfl) tg_22 (by decide)) (mz_dc_lt (n := 2) rfl (by decide +kernel) (by decide +kernel)) (by decide +kernel) (by decide +kernel) (fun m61 => ?_)
        refine q_o (mz_fe (e := (68, .aload_n 0, 1, (0, 0, 0), [])) (by decide +kernel)) (pc2 := 69) rfl ?_
        refine q_getR (b := 13) (mz_fe (e := (69, .getfield 20, 26, (4, 1, 2), [])) (by decide +kernel)) rfl tg_22 (by rw [ln_22]; decide) (mz_rfS (by decide +kernel)) ?_
        refine q_getR (b := 17) (mz_fe (e := (72, .getfield 134, 42, (8, 3, 2), [])) (by decide +kernel)) rfl tg_13 (by rw [ln_13]; decide) (mz_rfS (by decide +kernel)) ?_
        refine q_o (mz_fe (e := (75, .iload 6, 2, (0, 0, 0), [])) (by decide +kernel)) (pc2 := 77) rfl ?_
        refine q_callV (N := 21) (vs := [.ref 17, .int (mz_rd m 22 3)]) (rest := []) (L' := [some (.ref 22), some (.int y1), some (.int y2), none, some (.int y4), some (.int y5), some (.int (mz_rd m 22 3))]) rfl (mz_fe (e := (77, .invokevirtual 152, 57, (21, 2, 8), [])) (by decide +kernel)) rfl (mz_inv_virt (N := 21) (k := 2) (t := 8) (st := [.int (mz_rd m 22 3), .ref 17]) (rest := []) (b := 17) (vs := [.int (mz_rd m 22 3)]) (h := (mz_S0, m61)) rfl rfl (Nat.le_of_ble_eq_true rfl) (Nat.le_of_ble_eq_true rfl) tg_17 (by decide)) (mz_dc_lt (n := 2) rfl (by decide +kernel) (by decide +kernel)) (by decide +kernel) (by decide +kernel) (fun m64 => ?_)
        refine q_iinc (v := y5) (c := 1) (L3 := [some (.ref 22), some (.int y1), some (.int y2), none, some (.int y4), some (.int (y5 + 1)), some (.int (mz_rd m 22 3))]) (mz_fe (e := (80, .iinc 5 1, 3, (0, 0, 0), [])) (by decide +kernel)) rfl rfl (by decide) rfl ?_
        refine q_o (mz_fe (e := (83, .goto (-56), 3, (0, 0, 0), [])) (by decide +kernel)) (pc2 := 27) rfl ?_
        exact congrArg mz_cV (mz_At_msk (L := [some (.ref 22), some (.int y1), some (.int y2), none, some (.int y4), some (.int (y5 + 1)), some (.int (mz_rd m 22 3))]) (L2 := [some (.ref 22), some (.int y1), some (.int y2), none, some (.int y4), some (.int (y5 + 1)), none]) (mz_fe (e := (27, .iload 5, 2, (0, 0, 0), [true, true, true, false, true, true, false])) (by decide +kernel)) rfl rfl)
set_option maxRecDepth 10000 in
theorem R_X4_readUnit_eq (d' : Nat) (x0 : Int32) (m : MzM)  : R_X4_readUnit (d' + 1) x0 m = if ¬ (mz_rd m 22 3) = 3 then (if (mz_rd m 22 3) < 25 then (if ¬ (mz_rd m 22 3) = 11 then (if ¬ (mz_rd m 22 3) = 11 then ((R_X4_fail (d' + 1) 1 m).bind (fun m5 => some m5)) else ((R_X4_take (d' + 1)  m).bind (fun m8 => (R_X4_readSum d' (x0 + 1) m8).bind (fun m11 => (R_X4_expect (d' + 1) 12 m11).bind (fun m14 => some m14))))) else (if x0 < 6 then (if ¬ (mz_rd m 22 3) = 11 then ((R_X4_fail (d' + 1) 1 m).bind (fun m19 => some m19)) else ((R_X4_take (d' + 1)  m).bind (fun m22 => (R_X4_readSum d' (x0 + 1) m22).bind (fun m25 => (R_X4_expect (d' + 1) 12 m25).bind (fun m28 => some m28))))) else ((R_X4_fail (d' + 1) 2 m).bind (fun m31 => some m31)))) else (if (33 : Int32) < (mz_rd m 22 3) then (if ¬ (mz_rd m 22 3) = 11 then (if ¬ (mz_rd m 22 3) = 11 then ((R_X4_fail (d' + 1) 1 m).bind (fun m37 => some m37)) else ((R_X4_take (d' + 1)  m).bind (fun m40 => (R_X4_readSum d' (x0 + 1) m40).bind (fun m43 => (R_X4_expect (d' + 1) 12 m43).bind (fun m46 => some m46))))) else (if x0 < 6 then (if ¬ (mz_rd m 22 3) = 11 then ((R_X4_fail (d' + 1) 1 m).bind (fun m51 => some m51)) else ((R_X4_take (d' + 1)  m).bind (fun m54 => (R_X4_readSum d' (x0 + 1) m54).bind (fun m57 => (R_X4_expect (d' + 1) 12 m57).bind (fun m60 => some m60))))) else ((R_X4_fail (d' + 1) 2 m).bind (fun m63 => some m63)))) else ((R_X2_addVar (d' + 1) 17 ((mz_rd m 22 3) - 25) m).bind (fun m66 => (R_X4_take (d' + 1)  m66).bind (fun m69 => some m69))))) else ((R_X9_value (d' + 1) (mz_rd m 22 2) m).bind (fun u74 => (R_X2_addInt (d' + 1) 17 ((u74.1 : Int64).toInt32) u74.2).bind (fun m75 => (R_X4_take (d' + 1)  m75).bind (fun m78 => some m78)))) := by
  show mz_cV (mz_T (d' + 1) 59 0 (mz_en (mz_xl 59) [.ref 22, .int x0]) [] m) = _
  rw [show mz_en (mz_xl 59) [.ref 22, .int x0] = [some (.ref 22), some (.int x0)] from by rw [show mz_xl 59 = 2 from by decide +kernel]; rfl]
  refine q_o (mz_fe (e := (0, .aload_n 0, 1, (0, 0, 0), [])) (by decide +kernel)) (pc2 := 1) rfl ?_
  refine q_getI (mz_fe (e := (1, .getfield 46, 30, (4, 3, 0), [])) (by decide +kernel)) rfl (by decide) tg_22 (by rw [ln_22]; decide) ?_
  refine q_ic (v := 3) (mz_fe (e := (4, .iconst 3, 1, (0, 0, 0), [])) (by decide +kernel)) (by decide) ?_
  refine q_if (c := .ne) (off := 32) (t := 37) (x := (mz_rd m 22 3)) (y := 3) (st := []) (mz_fe (e := (5, .if_icmp .ne 32, 3, (0, 0, 0), [])) (by decide +kernel)) (fun _ => rfl) rfl rfl rfl (fun c1 => ?_) (fun c1 => ?_)
  · refine q_o (mz_fe (e := (37, .aload_n 0, 1, (0, 0, 0), [])) (by decide +kernel)) (pc2 := 38) rfl ?_
    refine q_getI (mz_fe (e := (38, .getfield 46, 30, (4, 3, 0), [])) (by decide +kernel)) rfl (by decide) tg_22 (by rw [ln_22]; decide) ?_
    refine q_bi (v := 25) (mz_fe (e := (41, .bipush 25, 2, (0, 0, 0), [])) (by decide +kernel)) (by decide) ?_
    refine q_if (c := .lt) (off := 36) (t := 79) (x := (mz_rd m 22 3)) (y := 25) (st := []) (mz_fe (e := (43, .if_icmp .lt 36, 3, (0, 0, 0), [])) (by decide +kernel)) (fun _ => rfl) rfl rfl rfl (fun c2 => ?_) (fun c2 => ?_)
    · refine q_o (mz_fe (e := (79, .aload_n 0, 1, (0, 0, 0), [])) (by decide +kernel)) (pc2 := 80) rfl ?_
      refine q_getI (mz_fe (e := (80, .getfield 46, 30, (4, 3, 0), [])) (by decide +kernel)) rfl (by decide) tg_22 (by rw [ln_22]; decide) ?_
      refine q_bi (v := 11) (mz_fe (e := (83, .bipush 11, 2, (0, 0, 0), [])) (by decide +kernel)) (by decide) ?_
      refine q_if (c := .ne) (off := 17) (t := 102) (x := (mz_rd m 22 3)) (y := 11) (st := []) (mz_fe (e := (85, .if_icmp .ne 17, 3, (0, 0, 0), [])) (by decide +kernel)) (fun _ => rfl) rfl rfl rfl (fun c3 => ?_) (fun c3 => ?_)
      · refine q_o (mz_fe (e := (102, .aload_n 0, 1, (0, 0, 0), [])) (by decide +kernel)) (pc2 := 103) rfl ?_
        refine q_getI (mz_fe (e := (103, .getfield 46, 30, (4, 3, 0), [])) (by decide +kernel)) rfl (by decide) tg_22 (by rw [ln_22]; decide) ?_
        refine q_bi (v := 11) (mz_fe (e := (106, .bipush 11, 2, (0, 0, 0), [])) (by decide +kernel)) (by decide) ?_
        refine q_if (c := .ne) (off := 23) (t := 131) (x := (mz_rd m 22 3)) (y := 11) (st := []) (mz_fe (e := (108, .if_icmp .ne 23, 3, (0, 0, 0), [])) (by decide +kernel)) (fun _ => rfl) rfl rfl rfl (fun c4 => ?_) (fun c4 => ?_)
        · refine q_o (mz_fe (e := (131, .aload_n 0, 1, (0, 0, 0), [])) (by decide +kernel)) (pc2 := 132) rfl ?_
          refine q_ic (v := 1) (mz_fe (e := (132, .iconst 1, 1, (0, 0, 0), [])) (by decide +kernel)) (by decide) ?_
          refine q_callV (N := 50) (vs := [.ref 22, .int 1]) (rest := []) (L' := [some (.ref 22), some (.int x0)]) rfl (mz_fe (e := (133, .invokevirtual 73, 42, (50, 2, 10), [])) (by decide +kernel)) rfl (mz_inv_virt (N := 50) (k := 2) (t := 10) (st := [.int 1, .ref 22]) (rest := []) (b := 22) (vs := [.int 1]) (h := (mz_S0, m)) rfl rfl (Nat.le_of_ble_eq_true rfl) (Nat.le_of_ble_eq_true rfl) tg_22 (by decide)) (mz_dc_lt (n := 2) rfl (by decide +kernel) (by decide +kernel)) (by decide +kernel) (by decide +kernel) (fun m5 => ?_)
          exact q_retV (mz_fe (e := (136, .return_, 1, (0, 0, 0), [])) (by decide +kernel)) (by decide +kernel)
        · refine q_o (mz_fe (e := (111, .aload_n 0, 1, (0, 0, 0), [])) (by decide +kernel)) (pc2 := 112) rfl ?_
          refine q_callV (N := 48) (vs := [.ref 22]) (rest := []) (L' := [some (.ref 22), some (.int x0)]) rfl (mz_fe (e := (112, .invokevirtual 70, 41, (48, 1, 10), [])) (by decide +kernel)) rfl (mz_inv_virt (N := 48) (k := 1) (t := 10) (st := [.ref 22]) (rest := []) (b := 22) (vs := []) (h := (mz_S0, m)) rfl rfl (Nat.le_of_ble_eq_true rfl) (Nat.le_of_ble_eq_true rfl) tg_22 (by decide)) (mz_dc_lt (n := 1) rfl (by decide +kernel) (by decide +kernel)) (by decide +kernel) (by decide +kernel) (fun m8 => ?_)
          refine q_o (mz_fe (e := (115, .aload_n 0, 1, (0, 0, 0), [])) (by decide +kernel)) (pc2 := 116) rfl ?_
          refine q_o (mz_fe (e := (116, .iload_n 1, 1, (0, 0, 0), [])) (by decide +kernel)) (pc2 := 117) rfl ?_
          refine q_ic (v := 1) (mz_fe (e := (117, .iconst 1, 1, (0, 0, 0), [])) (by decide +kernel)) (by decide) ?_
          refine q_o (mz_fe (e := (118, .iadd, 1, (0, 0, 0), [])) (by decide +kernel)) (pc2 := 119) rfl ?_
          refine q_callV (N := 58) (vs := [.ref 22, .int (x0 + 1)]) (rest := []) (L' := [some (.ref 22), some (.int x0)]) rfl (mz_fe (e := (119, .invokevirtual 143, 54, (58, 2, 10), [])) (by decide +kernel)) rfl (mz_inv_virt (N := 58) (k := 2) (t := 10) (st := [.int (x0 + 1), .ref 22]) (rest := []) (b := 22) (vs := [.int (x0 + 1)]) (h := (mz_S0, m8)) rfl rfl (Nat.le_of_ble_eq_true rfl) (Nat.le_of_ble_eq_true rfl) tg_22 (by decide)) (mz_dc_rec (n := 2) rfl (by decide +kernel) (by decide +kernel) (by decide +kernel)) (by decide +kernel) (by decide +kernel) (fun m11 => ?_)
          refine q_o (mz_fe (e := (122, .aload_n 0, 1, (0, 0, 0), [])) (by decide +kernel)) (pc2 := 123) rfl ?_
          refine q_bi (v := 12) (mz_fe (e := (123, .bipush 12, 2, (0, 0, 0), [])) (by decide +kernel)) (by decide) ?_
          refine q_callV (N := 49) (vs := [.ref 22, .int 12]) (rest := []) (L' := [some (.ref 22), some (.int x0)]) rfl (mz_fe (e := (125, .invokevirtual 99, 47, (49, 2, 10), [])) (by decide +kernel)) rfl (mz_inv_virt (N := 49) (k := 2) (t := 10) (st := [.int 12, .ref 22]) (rest := []) (b := 22) (vs := [.int 12]) (h := (mz_S0, m11)) rfl rfl (Nat.le_of_ble_eq_true rfl) (Nat.le_of_ble_eq_true rfl) tg_22 (by decide)) (mz_dc_lt (n := 2) rfl (by decide +kernel) (by decide +kernel)) (by decide +kernel) (by decide +kernel) (fun m14 => ?_)
          refine q_o (mz_fe (e := (128, .goto 8, 3, (0, 0, 0), [])) (by decide +kernel)) (pc2 := 136) rfl ?_
          exact q_retV (mz_fe (e := (136, .return_, 1, (0, 0, 0), [])) (by decide +kernel)) (by decide +kernel)
      · refine q_o (mz_fe (e := (88, .iload_n 1, 1, (0, 0, 0), [])) (by decide +kernel)) (pc2 := 89) rfl ?_
        refine q_bi (v := 6) (mz_fe (e := (89, .bipush 6, 2, (0, 0, 0), [])) (by decide +kernel)) (by decide) ?_
        refine q_if (c := .lt) (off := 11) (t := 102) (x := x0) (y := 6) (st := []) (mz_fe (e := (91, .if_icmp .lt 11, 3, (0, 0, 0), [])) (by decide +kernel)) (fun _ => rfl) rfl rfl rfl (fun c17 => ?_) (fun c17 => ?_)
        · refine q_o (mz_fe (e := (102, .aload_n 0, 1, (0, 0, 0), [])) (by decide +kernel)) (pc2 := 103) rfl ?_
          refine q_getI (mz_fe (e := (103, .getfield 46, 30, (4, 3, 0), [])) (by decide +kernel)) rfl (by decide) tg_22 (by rw [ln_22]; decide) ?_
          refine q_bi (v := 11) (mz_fe (e := (106, .bipush 11, 2, (0, 0, 0), [])) (by decide +kernel)) (by decide) ?_
          refine q_if (c := .ne) (off := 23) (t := 131) (x := (mz_rd m 22 3)) (y := 11) (st := []) (mz_fe (e := (108, .if_icmp .ne 23, 3, (0, 0, 0), [])) (by decide +kernel)) (fun _ => rfl) rfl rfl rfl (fun c18 => ?_) (fun c18 => ?_)
          · refine q_o (mz_fe (e := (131, .aload_n 0, 1, (0, 0, 0), [])) (by decide +kernel)) (pc2 := 132) rfl ?_
            refine q_ic (v := 1) (mz_fe (e := (132, .iconst 1, 1, (0, 0, 0), [])) (by decide +kernel)) (by decide) ?_
            refine q_callV (N := 50) (vs := [.ref 22, .int 1]) (rest := []) (L' := [some (.ref 22), some (.int x0)]) rfl (mz_fe (e := (133, .invokevirtual 73, 42, (50, 2, 10), [])) (by decide +kernel)) rfl (mz_inv_virt (N := 50) (k := 2) (t := 10) (st := [.int 1, .ref 22]) (rest := []) (b := 22) (vs := [.int 1]) (h := (mz_S0, m)) rfl rfl (Nat.le_of_ble_eq_true rfl) (Nat.le_of_ble_eq_true rfl) tg_22 (by decide)) (mz_dc_lt (n := 2) rfl (by decide +kernel) (by decide +kernel)) (by decide +kernel) (by decide +kernel) (fun m19 => ?_)
            exact q_retV (mz_fe (e := (136, .return_, 1, (0, 0, 0), [])) (by decide +kernel)) (by decide +kernel)
          · refine q_o (mz_fe (e := (111, .aload_n 0, 1, (0, 0, 0), [])) (by decide +kernel)) (pc2 := 112) rfl ?_
            refine q_callV (N := 48) (vs := [.ref 22]) (rest := []) (L' := [some (.ref 22), some (.int x0)]) rfl (mz_fe (e := (112, .invokevirtual 70, 41, (48, 1, 10), [])) (by decide +kernel)) rfl (mz_inv_virt (N := 48) (k := 1) (t := 10) (st := [.ref 22]) (rest := []) (b := 22) (vs := []) (h := (mz_S0, m)) rfl rfl (Nat.le_of_ble_eq_true rfl) (Nat.le_of_ble_eq_true rfl) tg_22 (by decide)) (mz_dc_lt (n := 1) rfl (by decide +kernel) (by decide +kernel)) (by decide +kernel) (by decide +kernel) (fun m22 => ?_)
            refine q_o (mz_fe (e := (115, .aload_n 0, 1, (0, 0, 0), [])) (by decide +kernel)) (pc2 := 116) rfl ?_
            refine q_o (mz_fe (e := (116, .iload_n 1, 1, (0, 0, 0), [])) (by decide +kernel)) (pc2 := 117) rfl ?_
            refine q_ic (v := 1) (mz_fe (e := (117, .iconst 1, 1, (0, 0, 0), [])) (by decide +kernel)) (by decide) ?_
            refine q_o (mz_fe (e := (118, .iadd, 1, (0, 0, 0), [])) (by decide +kernel)) (pc2 := 119) rfl ?_
            refine q_callV (N := 58) (vs := [.ref 22, .int (x0 + 1)]) (rest := []) (L' := [some (.ref 22), some (.int x0)]) rfl (mz_fe (e := (119, .invokevirtual 143, 54, (58, 2, 10), [])) (by decide +kernel)) rfl (mz_inv_virt (N := 58) (k := 2) (t := 10) (st := [.int (x0 + 1), .ref 22]) (rest := []) (b := 22) (vs := [.int (x0 + 1)]) (h := (mz_S0, m22)) rfl rfl (Nat.le_of_ble_eq_true rfl) (Nat.le_of_ble_eq_true rfl) tg_22 (by decide)) (mz_dc_rec (n := 2) rfl (by decide +kernel) (by decide +kernel) (by decide +kernel)) (by decide +kernel) (by decide +kernel) (fun m25 => ?_)
            refine q_o (mz_fe (e := (122, .aload_n 0, 1, (0, 0, 0), [])) (by decide +kernel)) (pc2 := 123) rfl ?_
            refine q_bi (v := 12) (mz_fe (e := (123, .bipush 12, 2, (0, 0, 0), [])) (by decide +kernel)) (by decide) ?_
            refine q_callV (N := 49) (vs := [.ref 22, .int 12]) (rest := []) (L' := [some (.ref 22), some (.int x0)]) rfl (mz_fe (e := (125, .invokevirtual 99, 47, (49, 2, 10), [])) (by decide +kernel)) rfl (mz_inv_virt (N := 49) (k := 2) (t := 10) (st := [.int 12, .ref 22]) (rest := []) (b := 22) (vs := [.int 12]) (h := (mz_S0, m25)) rfl rfl (Nat.le_of_ble_eq_true rfl) (Nat.le_of_ble_eq_true rfl) tg_22 (by decide)) (mz_dc_lt (n := 2) rfl (by decide +kernel) (by decide +kernel)) (by decide +kernel) (by decide +kernel) (fun m28 => ?_)
            refine q_o (mz_fe (e := (128, .goto 8, 3, (0, 0, 0), [])) (by decide +kernel)) (pc2 := 136) rfl ?_
            exact q_retV (mz_fe (e := (136, .return_, 1, (0, 0, 0), [])) (by decide +kernel)) (by decide +kernel)
        · refine q_o (mz_fe (e := (94, .aload_n 0, 1, (0, 0, 0), [])) (by decide +kernel)) (pc2 := 95) rfl ?_
          refine q_ic (v := 2) (mz_fe (e := (95, .iconst 2, 1, (0, 0, 0), [])) (by decide +kernel)) (by decide) ?_
          refine q_callV (N := 50) (vs := [.ref 22, .int 2]) (rest := []) (L' := [some (.ref 22), some (.int x0)]) rfl (mz_fe (e := (96, .invokevirtual 73, 42, (50, 2, 10), [])) (by decide +kernel)) rfl (mz_inv_virt (N := 50) (k := 2) (t := 10) (st := [.int 2, .ref 22]) (rest := []) (b := 22) (vs := [.int 2]) (h := (mz_S0, m)) rfl rfl (Nat.le_of_ble_eq_true rfl) (Nat.le_of_ble_eq_true rfl) tg_22 (by decide)) (mz_dc_lt (n := 2) rfl (by decide +kernel) (by decide +kernel)) (by decide +kernel) (by decide +kernel) (fun m31 => ?_)
          refine q_o (mz_fe (e := (99, .goto 37, 3, (0, 0, 0), [])) (by decide +kernel)) (pc2 := 136) rfl ?_
          exact q_retV (mz_fe (e := (136, .return_, 1, (0, 0, 0), [])) (by decide +kernel)) (by decide +kernel)
    · refine q_o (mz_fe (e := (46, .aload_n 0, 1, (0, 0, 0), [])) (by decide +kernel)) (pc2 := 47) rfl ?_
      refine q_getI (mz_fe (e := (47, .getfield 46, 30, (4, 3, 0), [])) (by decide +kernel)) rfl (by decide) tg_22 (by rw [ln_22]; decide) ?_
      refine q_bi (v := 33) (mz_fe (e := (50, .bipush 33, 2, (0, 0, 0), [])) (by decide +kernel)) (by decide) ?_
      refine q_if (c := .gt) (off := 27) (t := 79) (x := (mz_rd m 22 3)) (y := 33) (st := []) (mz_fe (e := (52, .if_icmp .gt 27, 3, (0, 0, 0), [])) (by decide +kernel)) (fun _ => rfl) rfl rfl rfl (fun c34 => ?_) (fun c34 => ?_)
      · refine q_o (mz_fe (e := (79, .aload_n 0, 1, (0, 0, 0), [])) (by decide +kernel)) (pc2 := 80) rfl ?_
        refine q_getI (mz_fe (e := (80, .getfield 46, 30, (4, 3, 0), [])) (by decide +kernel)) rfl (by decide) tg_22 (by rw [ln_22]; decide) ?_
        refine q_bi (v := 11) (mz_fe (e := (83, .bipush 11, 2, (0, 0, 0), [])) (by decide +kernel)) (by decide) ?_
        refine q_if (c := .ne) (off := 17) (t := 102) (x := (mz_rd m 22 3)) (y := 11) (st := []) (mz_fe (e := (85, .if_icmp .ne 17, 3, (0, 0, 0), [])) (by decide +kernel)) (fun _ => rfl) rfl rfl rfl (fun c35 => ?_) (fun c35 => ?_)
        · refine q_o (mz_fe (e := (102, .aload_n 0, 1, (0, 0, 0), [])) (by decide +kernel)) (pc2 := 103) rfl ?_
          refine q_getI (mz_fe (e := (103, .getfield 46, 30, (4, 3, 0), [])) (by decide +kernel)) rfl (by decide) tg_22 (by rw [ln_22]; decide) ?_
          refine q_bi (v := 11) (mz_fe (e := (106, .bipush 11, 2, (0, 0, 0), [])) (by decide +kernel)) (by decide) ?_
          refine q_if (c := .ne) (off := 23) (t := 131) (x := (mz_rd m 22 3)) (y := 11) (st := []) (mz_fe (e := (108, .if_icmp .ne 23, 3, (0, 0, 0), [])) (by decide +kernel)) (fun _ => rfl) rfl rfl rfl (fun c36 => ?_) (fun c36 => ?_)
          · refine q_o (mz_fe (e := (131, .aload_n 0, 1, (0, 0, 0), [])) (by decide +kernel)) (pc2 := 132) rfl ?_
            refine q_ic (v := 1) (mz_fe (e := (132, .iconst 1, 1, (0, 0, 0), [])) (by decide +kernel)) (by decide) ?_
            refine q_callV (N := 50) (vs := [.ref 22, .int 1]) (rest := []) (L' := [some (.ref 22), some (.int x0)]) rfl (mz_fe (e := (133, .invokevirtual 73, 42, (50, 2, 10), [])) (by decide +kernel)) rfl (mz_inv_virt (N := 50) (k := 2) (t := 10) (st := [.int 1, .ref 22]) (rest := []) (b := 22) (vs := [.int 1]) (h := (mz_S0, m)) rfl rfl (Nat.le_of_ble_eq_true rfl) (Nat.le_of_ble_eq_true rfl) tg_22 (by decide)) (mz_dc_lt (n := 2) rfl (by decide +kernel) (by decide +kernel)) (by decide +kernel) (by decide +kernel) (fun m37 => ?_)
            exact q_retV (mz_fe (e := (136, .return_, 1, (0, 0, 0), [])) (by decide +kernel)) (by decide +kernel)
          · refine q_o (mz_fe (e := (111, .aload_n 0, 1, (0, 0, 0), [])) (by decide +kernel)) (pc2 := 112) rfl ?_
            refine q_callV (N := 48) (vs := [.ref 22]) (rest := []) (L' := [some (.ref 22), some (.int x0)]) rfl (mz_fe (e := (112, .invokevirtual 70, 41, (48, 1, 10), [])) (by decide +kernel)) rfl (mz_inv_virt (N := 48) (k := 1) (t := 10) (st := [.ref 22]) (rest := []) (b := 22) (vs := []) (h := (mz_S0, m)) rfl rfl (Nat.le_of_ble_eq_true rfl) (Nat.le_of_ble_eq_true rfl) tg_22 (by decide)) (mz_dc_lt (n := 1) rfl (by decide +kernel) (by decide +kernel)) (by decide +kernel) (by decide +kernel) (fun m40 => ?_)
            refine q_o (mz_fe (e := (115, .aload_n 0, 1, (0, 0, 0), [])) (by decide +kernel)) (pc2 := 116) rfl ?_
            refine q_o (mz_fe (e := (116, .iload_n 1, 1, (0, 0, 0), [])) (by decide +kernel)) (pc2 := 117) rfl ?_
            refine q_ic (v := 1) (mz_fe (e := (117, .iconst 1, 1, (0, 0, 0), [])) (by decide +kernel)) (by decide) ?_
            refine q_o (mz_fe (e := (118, .iadd, 1, (0, 0, 0), [])) (by decide +kernel)) (pc2 := 119) rfl ?_
            refine q_callV (N := 58) (vs := [.ref 22, .int (x0 + 1)]) (rest := []) (L' := [some (.ref 22), some (.int x0)]) rfl (mz_fe (e := (119, .invokevirtual 143, 54, (58, 2, 10), [])) (by decide +kernel)) rfl (mz_inv_virt (N := 58) (k := 2) (t := 10) (st := [.int (x0 + 1), .ref 22]) (rest := []) (b := 22) (vs := [.int (x0 + 1)]) (h := (mz_S0, m40)) rfl rfl (Nat.le_of_ble_eq_true rfl) (Nat.le_of_ble_eq_true rfl) tg_22 (by decide)) (mz_dc_rec (n := 2) rfl (by decide +kernel) (by decide +kernel) (by decide +kernel)) (by decide +kernel) (by decide +kernel) (fun m43 => ?_)
            refine q_o (mz_fe (e := (122, .aload_n 0, 1, (0, 0, 0), [])) (by decide +kernel)) (pc2 := 123) rfl ?_
            refine q_bi (v := 12) (mz_fe (e := (123, .bipush 12, 2, (0, 0, 0), [])) (by decide +kernel)) (by decide) ?_
            refine q_callV (N := 49) (vs := [.ref 22, .int 12]) (rest := []) (L' := [some (.ref 22), some (.int x0)]) rfl (mz_fe (e := (125, .invokevirtual 99, 47, (49, 2, 10), [])) (by decide +kernel)) rfl (mz_inv_virt (N := 49) (k := 2) (t := 10) (st := [.int 12, .ref 22]) (rest := []) (b := 22) (vs := [.int 12]) (h := (mz_S0, m43)) rfl rfl (Nat.le_of_ble_eq_true rfl) (Nat.le_of_ble_eq_true rfl) tg_22 (by decide)) (mz_dc_lt (n := 2) rfl (by decide +kernel) (by decide +kernel)) (by decide +kernel) (by decide +kernel) (fun m46 => ?_)
            refine q_o (mz_fe (e := (128, .goto 8, 3, (0, 0, 0), [])) (by decide +kernel)) (pc2 := 136) rfl ?_
            exact q_retV (mz_fe (e := (136, .return_, 1, (0, 0, 0), [])) (by decide +kernel)) (by decide +kernel)
        · refine q_o (mz_fe (e := (88, .iload_n 1, 1, (0, 0, 0), [])) (by decide +kernel)) (pc2 := 89) rfl ?_
          refine q_bi (v := 6) (mz_fe (e := (89, .bipush 6, 2, (0, 0, 0), [])) (by decide +kernel)) (by decide) ?_
          refine q_if (c := .lt) (off := 11) (t := 102) (x := x0) (y := 6) (st := []) (mz_fe (e := (91, .if_icmp .lt 11, 3, (0, 0, 0), [])) (by decide +kernel)) (fun _ => rfl) rfl rfl rfl (fun c49 => ?_) (fun c49 => ?_)
          · refine q_o (mz_fe (e := (102, .aload_n 0, 1, (0, 0, 0), [])) (by decide +kernel)) (pc2 := 103) rfl ?_
            refine q_getI (mz_fe (e := (103, .getfield 46, 30, (4, 3, 0), [])) (by decide +kernel)) rfl (by decide) tg_22 (by rw [ln_22]; decide) ?_
            refine q_bi (v := 11) (mz_fe (e := (106, .bipush 11, 2, (0, 0, 0), [])) (by decide +kernel)) (by decide) ?_
            refine q_if (c := .ne) (off := 23) (t := 131) (x := (mz_rd m 22 3)) (y := 11) (st := []) (mz_fe (e := (108, .if_icmp .ne 23, 3, (0, 0, 0), [])) (by decide +kernel)) (fun _ => rfl) rfl rfl rfl (fun c50 => ?_) (fun c50 => ?_)
            · refine q_o (mz_fe (e := (131, .aload_n 0, 1, (0, 0, 0), [])) (by decide +kernel)) (pc2 := 132) rfl ?_
              refine q_ic (v := 1) (mz_fe (e := (132, .iconst 1, 1, (0, 0, 0), [])) (by decide +kernel)) (by decide) ?_
              refine q_callV (N := 50) (vs := [.ref 22, .int 1]) (rest := []) (L' := [some (.ref 22), some (.int x0)]) rfl (mz_fe (e := (133, .invokevirtual 73, 42, (50, 2, 10), [])) (by decide +kernel)) rfl (mz_inv_virt (N := 50) (k := 2) (t := 10) (st := [.int 1, .ref 22]) (rest := []) (b := 22) (vs := [.int 1]) (h := (mz_S0, m)) rfl rfl (Nat.le_of_ble_eq_true rfl) (Nat.le_of_ble_eq_true rfl) tg_22 (by decide)) (mz_dc_lt (n := 2) rfl (by decide +kernel) (by decide +kernel)) (by decide +kernel) (by decide +kernel) (fun m51 => ?_)
              exact q_retV (mz_fe (e := (136, .return_, 1, (0, 0, 0), [])) (by decide +kernel)) (by decide +kernel)
            · refine q_o (mz_fe (e := (111, .aload_n 0, 1, (0, 0, 0), [])) (by decide +kernel)) (pc2 := 112) rfl ?_
              refine q_callV (N := 48) (vs := [.ref 22]) (rest := []) (L' := [some (.ref 22), some (.int x0)]) rfl (mz_fe (e := (112, .invokevirtual 70, 41, (48, 1, 10), [])) (by decide +kernel)) rfl (mz_inv_virt (N := 48) (k := 1) (t := 10) (st := [.ref 22]) (rest := []) (b := 22) (vs := []) (h := (mz_S0, m)) rfl rfl (Nat.le_of_ble_eq_true rfl) (Nat.le_of_ble_eq_true rfl) tg_22 (by decide)) (mz_dc_lt (n := 1) rfl (by decide +kernel) (by decide +kernel)) (by decide +kernel) (by decide +kernel) (fun m54 => ?_)
              refine q_o (mz_fe (e := (115, .aload_n 0, 1, (0, 0, 0), [])) (by decide +kernel)) (pc2 := 116) rfl ?_
              refine q_o (mz_fe (e := (116, .iload_n 1, 1, (0, 0, 0), [])) (by decide +kernel)) (pc2 := 117) rfl ?_
              refine q_ic (v := 1) (mz_fe (e := (117, .iconst 1, 1, (0, 0, 0), [])) (by decide +kernel)) (by decide) ?_
              refine q_o (mz_fe (e := (118, .iadd, 1, (0, 0, 0), [])) (by decide +kernel)) (pc2 := 119) rfl ?_
              refine q_callV (N := 58) (vs := [.ref 22, .int (x0 + 1)]) (rest := []) (L' := [some (.ref 22), some (.int x0)]) rfl (mz_fe (e := (119, .invokevirtual 143, 54, (58, 2, 10), [])) (by decide +kernel)) rfl (mz_inv_virt (N := 58) (k := 2) (t := 10) (st := [.int (x0 + 1), .ref 22]) (rest := []) (b := 22) (vs := [.int (x0 + 1)]) (h := (mz_S0, m54)) rfl rfl (Nat.le_of_ble_eq_true rfl) (Nat.le_of_ble_eq_true rfl) tg_22 (by decide)) (mz_dc_rec (n := 2) rfl (by decide +kernel) (by decide +kernel) (by decide +kernel)) (by decide +kernel) (by decide +kernel) (fun m57 => ?_)
              refine q_o (mz_fe (e := (122, .aload_n 0, 1, (0, 0, 0), [])) (by decide +kernel)) (pc2 := 123) rfl ?_
              refine q_bi (v := 12) (mz_fe (e := (123, .bipush 12, 2, (0, 0, 0), [])) (by decide +kernel)) (by decide) ?_
              refine q_callV (N := 49) (vs := [.ref 22, .int 12]) (rest := []) (L' := [some (.ref 22), some (.int x0)]) rfl (mz_fe (e := (125, .invokevirtual 99, 47, (49, 2, 10), [])) (by decide +kernel)) rfl (mz_inv_virt (N := 49) (k := 2) (t := 10) (st := [.int 12, .ref 22]) (rest := []) (b := 22) (vs := [.int 12]) (h := (mz_S0, m57)) rfl rfl (Nat.le_of_ble_eq_true rfl) (Nat.le_of_ble_eq_true rfl) tg_22 (by decide)) (mz_dc_lt (n := 2) rfl (by decide +kernel) (by decide +kernel)) (by decide +kernel) (by decide +kernel) (fun m60 => ?_)
              refine q_o (mz_fe (e := (128, .goto 8, 3, (0, 0, 0), [])) (by decide +kernel)) (pc2 := 136) rfl ?_
              exact q_retV (mz_fe (e := (136, .return_, 1, (0, 0, 0), [])) (by decide +kernel)) (by decide +kernel)
          · refine q_o (mz_fe (e := (94, .aload_n 0, 1, (0, 0, 0), [])) (by decide +kernel)) (pc2 := 95) rfl ?_
            refine q_ic (v := 2) (mz_fe (e := (95, .iconst 2, 1, (0, 0, 0), [])) (by decide +kernel)) (by decide) ?_
            refine q_callV (N := 50) (vs := [.ref 22, .int 2]) (rest := []) (L' := [some (.ref 22), some (.int x0)]) rfl (mz_fe (e := (96, .invokevirtual 73, 42, (50, 2, 10), [])) (by decide +kernel)) rfl (mz_inv_virt (N := 50) (k := 2) (t := 10) (st := [.int 2, .ref 22]) (rest := []) (b := 22) (vs := [.int 2]) (h := (mz_S0, m)) rfl rfl (Nat.le_of_ble_eq_true rfl) (Nat.le_of_ble_eq_true rfl) tg_22 (by decide)) (mz_dc_lt (n := 2) rfl (by decide +kernel) (by decide +kernel)) (by decide +kernel) (by decide +kernel) (fun m63 => ?_)
            refine q_o (mz_fe (e := (99, .goto 37, 3, (0, 0, 0), [])) (by decide +kernel)) (pc2 := 136) rfl ?_
            exact q_retV (mz_fe (e := (136, .return_, 1, (0, 0, 0), [])) (by decide +kernel)) (by decide +kernel)
      · refine q_o (mz_fe (e := (55, .aload_n 0, 1, (0, 0, 0), [])) (by decide +kernel)) (pc2 := 56) rfl ?_
        refine q_getR (b := 13) (mz_fe (e := (56, .getfield 20, 26, (4, 1, 2), [])) (by decide +kernel)) rfl tg_22 (by rw [ln_22]; decide) (mz_rfS (by decide +kernel)) ?_
        refine q_getR (b := 17) (mz_fe (e := (59, .getfield 134, 42, (8, 3, 2), [])) (by decide +kernel)) rfl tg_13 (by rw [ln_13]; decide) (mz_rfS (by decide +kernel)) ?_
        refine q_o (mz_fe (e := (62, .aload_n 0, 1, (0, 0, 0), [])) (by decide +kernel)) (pc2 := 63) rfl ?_
        refine q_getI (mz_fe (e := (63, .getfield 46, 30, (4, 3, 0), [])) (by decide +kernel)) rfl (by decide) tg_22 (by rw [ln_22]; decide) ?_
        refine q_bi (v := 25) (mz_fe (e := (66, .bipush 25, 2, (0, 0, 0), [])) (by decide +kernel)) (by decide) ?_
        refine q_o (mz_fe (e := (68, .isub, 1, (0, 0, 0), [])) (by decide +kernel)) (pc2 := 69) rfl ?_
        refine q_callV (N := 20) (vs := [.ref 17, .int ((mz_rd m 22 3) - 25)]) (rest := []) (L' := [some (.ref 22), some (.int x0)]) rfl (mz_fe (e := (69, .invokevirtual 158, 59, (20, 2, 8), [])) (by decide +kernel)) rfl (mz_inv_virt (N := 20) (k := 2) (t := 8) (st := [.int ((mz_rd m 22 3) - 25), .ref 17]) (rest := []) (b := 17) (vs := [.int ((mz_rd m 22 3) - 25)]) (h := (mz_S0, m)) rfl rfl (Nat.le_of_ble_eq_true rfl) (Nat.le_of_ble_eq_true rfl) tg_17 (by decide)) (mz_dc_lt (n := 2) rfl (by decide +kernel) (by decide +kernel)) (by decide +kernel) (by decide +kernel) (fun m66 => ?_)
        refine q_o (mz_fe (e := (72, .aload_n 0, 1, (0, 0, 0), [])) (by decide +kernel)) (pc2 := 73) rfl ?_
        refine q_callV (N := 48) (vs := [.ref 22]) (rest := []) (L' := [some (.ref 22), some (.int x0)]) rfl (mz_fe (e := (73, .invokevirtual 70, 41, (48, 1, 10), [])) (by decide +kernel)) rfl (mz_inv_virt (N := 48) (k := 1) (t := 10) (st := [.ref 22]) (rest := []) (b := 22) (vs := []) (h := (mz_S0, m66)) rfl rfl (Nat.le_of_ble_eq_true rfl) (Nat.le_of_ble_eq_true rfl) tg_22 (by decide)) (mz_dc_lt (n := 1) rfl (by decide +kernel) (by decide +kernel)) (by decide +kernel) (by decide +kernel) (fun m69 => ?_)
        refine q_o (mz_fe (e := (76, .goto 60, 3, (0, 0, 0), [])) (by decide +kernel)) (pc2 := 136) rfl ?_
        exact q_retV (mz_fe (e := (136, .return_, 1, (0, 0, 0), [])) (by decide +kernel)) (by decide +kernel)
  · refine q_o (mz_fe (e := (8, .aload_n 0, 1, (0, 0, 0), [])) (by decide +kernel)) (pc2 := 9) rfl ?_
    refine q_getR (b := 13) (mz_fe (e := (9, .getfield 20, 26, (4, 1, 2), [])) (by decide +kernel)) rfl tg_22 (by rw [ln_22]; decide) (mz_rfS (by decide +kernel)) ?_
    refine q_getR (b := 17) (mz_fe (e := (12, .getfield 134, 42, (8, 3, 2), [])) (by decide +kernel)) rfl tg_13 (by rw [ln_13]; decide) (mz_rfS (by decide +kernel)) ?_
    refine q_o (mz_fe (e := (15, .aload_n 0, 1, (0, 0, 0), [])) (by decide +kernel)) (pc2 := 16) rfl ?_
    refine q_getR (b := 23) (mz_fe (e := (16, .getfield 14, 25, (4, 0, 2), [])) (by decide +kernel)) rfl tg_22 (by rw [ln_22]; decide) (mz_rfS (by decide +kernel)) ?_
    refine q_o (mz_fe (e := (19, .aload_n 0, 1, (0, 0, 0), [])) (by decide +kernel)) (pc2 := 20) rfl ?_
    refine q_getI (mz_fe (e := (20, .getfield 39, 29, (4, 2, 0), [])) (by decide +kernel)) rfl (by decide) tg_22 (by rw [ln_22]; decide) ?_
    refine q_callJ (N := 96) (vs := [.ref 23, .int (mz_rd m 22 2)]) (rest := [.ref 17]) (L' := [some (.ref 22), some (.int x0)]) (f := fun v73 m72 => (R_X2_addInt (d' + 1) 17 ((v73 : Int64).toInt32) m72).bind (fun m75 => (R_X4_take (d' + 1)  m75).bind (fun m78 => some m78))) rfl (mz_fe (e := (23, .invokevirtual 105, 48, (96, 2, 15), [])) (by decide +kernel)) rfl (mz_inv_virt (N := 96) (k := 2) (t := 15) (st := [.int (mz_rd m 22 2), .ref 23, .ref 17]) (rest := [.ref 17]) (b := 23) (vs := [.int (mz_rd m 22 2)]) (h := (mz_S0, m)) rfl rfl (Nat.le_of_ble_eq_true rfl) (Nat.le_of_ble_eq_true rfl) tg_23 (by decide)) (mz_dc_lt (n := 2) rfl (by decide +kernel) (by decide +kernel)) (by decide +kernel) (by decide +kernel) (fun v73 m72 => ?_)
    refine q_o (mz_fe (e := (26, .l2i, 1, (0, 0, 0), [])) (by decide +kernel)) (pc2 := 27) rfl ?_
    refine q_callV (N := 19) (vs := [.ref 17, .int (v73 : Int64).toInt32]) (rest := []) (L' := [some (.ref 22), some (.int x0)]) rfl (mz_fe (e := (27, .invokevirtual 155, 58, (19, 2, 8), [])) (by decide +kernel)) rfl (mz_inv_virt (N := 19) (k := 2) (t := 8) (st := [.int (v73 : Int64).toInt32, .ref 17]) (rest := []) (b := 17) (vs := [.int (v73 : Int64).toInt32]) (h := (mz_S0, m72)) rfl rfl (Nat.le_of_ble_eq_true rfl) (Nat.le_of_ble_eq_true rfl) tg_17 (by decide)) (mz_dc_lt (n := 2) rfl (by decide +kernel) (by decide +kernel)) (by decide +kernel) (by decide +kernel) (fun m75 => ?_)
    refine q_o (mz_fe (e := (30, .aload_n 0, 1, (0, 0, 0), [])) (by decide +kernel)) (pc2 := 31) rfl ?_
    refine q_callV (N := 48) (vs := [.ref 22]) (rest := []) (L' := [some (.ref 22), some (.int x0)]) rfl (mz_fe (e := (31, .invokevirtual 70, 41, (48, 1, 10), [])) (by decide +kernel)) rfl (mz_inv_virt (N := 48) (k := 1) (t := 10) (st := [.ref 22]) (rest := []) (b := 22) (vs := []) (h := (mz_S0, m75)) rfl rfl (Nat.le_of_ble_eq_true rfl) (Nat.le_of_ble_eq_true rfl) tg_22 (by decide)) (mz_dc_lt (n := 1) rfl (by decide +kernel) (by decide +kernel)) (by decide +kernel) (by decide +kernel) (fun m78 => ?_)
    refine q_o (mz_fe (e := (34, .goto 102, 3, (0, 0, 0), [])) (by decide +kernel)) (pc2 := 136) rfl ?_
    exact q_retV (mz_fe (e := (136, .return_, 1, (0, 0, 0), [])) (by decide +kernel)) (by decide +kernel)
set_option maxRecDepth 10000 in
theorem R_X9_cut_eq (d : Nat)  (m : MzM)  : R_X9_cut d  m = H_X9_cut_14 d 0 0 (mz_wr (mz_wr m 23 5 0) 23 4 0) := by
  show mz_cV (mz_T d 93 0 (mz_en (mz_xl 93) [.ref 23]) [] m) = _
  rw [show mz_en (mz_xl 93) [.ref 23] = [some (.ref 23), none, none] from by rw [show mz_xl 93 = 3 from by decide +kernel]; rfl]
  refine q_o (mz_fe (e := (0, .aload_n 0, 1, (0, 0, 0), [])) (by decide +kernel)) (pc2 := 1) rfl ?_
  refine q_ic (v := 0) (mz_fe (e := (1, .iconst 0, 1, (0, 0, 0), [])) (by decide +kernel)) (by decide) ?_
  refine q_putI (mz_fe (e := (2, .putfield 27, 79, (9, 5, 0), [])) (by decide +kernel)) rfl tg_23 (by rw [ln_23]; decide) ?_
  refine q_o (mz_fe (e := (5, .aload_n 0, 1, (0, 0, 0), [])) (by decide +kernel)) (pc2 := 6) rfl ?_
  refine q_ic (v := 0) (mz_fe (e := (6, .iconst 0, 1, (0, 0, 0), [])) (by decide +kernel)) (by decide) ?_
  refine q_putI (mz_fe (e := (7, .putfield 31, 80, (9, 4, 0), [])) (by decide +kernel)) rfl tg_23 (by rw [ln_23]; decide) ?_
  refine q_ic (v := 0) (mz_fe (e := (10, .iconst 0, 1, (0, 0, 0), [])) (by decide +kernel)) (by decide) ?_
  refine q_s (mz_fe (e := (11, .istore_n 1, 1, (0, 0, 0), [])) (by decide +kernel)) (pc' := 12) (L' := [some (.ref 23), some (.int 0), none]) (st' := []) rfl ?_
  refine q_ic (v := 0) (mz_fe (e := (12, .iconst 0, 1, (0, 0, 0), [])) (by decide +kernel)) (by decide) ?_
  refine q_s (mz_fe (e := (13, .istore_n 2, 1, (0, 0, 0), [])) (by decide +kernel)) (pc' := 14) (L' := [some (.ref 23), some (.int 0), some (.int 0)]) (st' := []) rfl ?_
  exact congrArg mz_cV (mz_At_msk (L := [some (.ref 23), some (.int 0), some (.int 0)]) (L2 := [some (.ref 23), some (.int 0), some (.int 0)]) (mz_fe (e := (14, .iload_n 2, 1, (0, 0, 0), [true, true, true])) (by decide +kernel)) rfl rfl)
set_option maxRecDepth 10000 in
theorem H_X9_cut_14_eq (d : Nat) (y1 : Int32) (y2 : Int32) (m : MzM)  : H_X9_cut_14 d y1 y2 m = if (402 : Int32) ≤ y2 then some m else (if ¬ y1 = 0 then some m else ((R_X9_cutOne d  m).bind (fun m3 => mz_g (mz_ok y2 402) (if ¬ (mz_rd m3 24 (y2 : Int32).toNatClampNeg) = 0 then (H_X9_cut_14 d 0 (y2 + 1) m3) else (H_X9_cut_14 d 1 (y2 + 1) m3))))) := by
  show mz_cV (mz_T d 93 14 [some (.ref 23), some (.int y1), some (.int y2)] [] m) = _
  refine q_s (mz_fe (e := (14, .iload_n 2, 1, (0, 0, 0), [true, true, true])) (by decide +kernel)) (pc' := 15) (L' := [some (.ref 23), some (.int y1), some (.int y2)]) (st' := [.int y2]) rfl ?_
  refine q_o (mz_fe (e := (15, .aload_n 0, 1, (0, 0, 0), [])) (by decide +kernel)) (pc2 := 16) rfl ?_
  refine q_getR (b := 24) (mz_fe (e := (16, .getfield 11, 75, (9, 1, 2), [])) (by decide +kernel)) rfl tg_23 (by rw [ln_23]; decide) (mz_rfS (by decide +kernel)) ?_
  refine q_alen (v := 402) (mz_fe (e := (19, .arraylength, 1, (0, 0, 0), [])) (by decide +kernel)) rfl (by decide) (by rw [tg_24]; decide) ln_24 (by decide) ?_
  refine q_if (c := .ge) (off := 32) (t := 52) (x := y2) (y := 402) (st := []) (mz_fe (e := (20, .if_icmp .ge 32, 3, (0, 0, 0), [])) (by decide +kernel)) (fun _ => rfl) rfl rfl rfl (fun c1 => ?_) (fun c1 => ?_)
  · exact q_retV (mz_fe (e := (52, .return_, 1, (0, 0, 0), [])) (by decide +kernel)) (by decide +kernel)
  · refine q_o (mz_fe (e := (23, .iload_n 1, 1, (0, 0, 0), [])) (by decide +kernel)) (pc2 := 24) rfl ?_
    refine q_if (c := .ne) (off := 28) (t := 52) (x := y1) (y := 0) (st := []) (mz_fe (e := (24, .ifCond .ne 28, 3, (0, 0, 0), [])) (by decide +kernel)) (fun _ => rfl) rfl rfl rfl (fun c2 => ?_) (fun c2 => ?_)
    · exact q_retV (mz_fe (e := (52, .return_, 1, (0, 0, 0), [])) (by decide +kernel)) (by decide +kernel)
    · refine q_o (mz_fe (e := (27, .aload_n 0, 1, (0, 0, 0), [])) (by decide +kernel)) (pc2 := 28) rfl ?_
      refine q_callV (N := 97) (vs := [.ref 23]) (rest := []) (L' := [some (.ref 23), some (.int y1), some (.int y2)]) rfl (mz_fe (e := (28, .invokevirtual 34, 80, (97, 1, 15), [])) (by decide +kernel)) rfl (mz_inv_virt (N := 97) (k := 1) (t := 15) (st := [.ref 23]) (rest := []) (b := 23) (vs := []) (h := (mz_S0, m)) rfl rfl (Nat.le_of_ble_eq_true rfl) (Nat.le_of_ble_eq_true rfl) tg_23 (by decide)) (mz_dc_lt (n := 1) rfl (by decide +kernel) (by decide +kernel)) (by decide +kernel) (by decide +kernel) (fun m3 => ?_)
      refine q_o (mz_fe (e := (31, .aload_n 0, 1, (0, 0, 0), [])) (by decide +kernel)) (pc2 := 32) rfl ?_
      refine q_getR (b := 24) (mz_fe (e := (32, .getfield 11, 75, (9, 1, 2), [])) (by decide +kernel)) rfl tg_23 (by rw [ln_23]; decide) (mz_rfS (by decide +kernel)) ?_
      refine q_o (mz_fe (e := (35, .iload_n 2, 1, (0, 0, 0), [])) (by decide +kernel)) (pc2 := 36) rfl ?_
      refine q_baldg rfl (mz_fe (e := (36, .baload, 1, (0, 0, 0), [])) (by decide +kernel)) rfl (Or.inr tg_24) ln_24 (fun g6 => ?_)
      refine q_if (c := .ne) (off := 7) (t := 44) (x := (mz_rd m3 24 (y2 : Int32).toNatClampNeg)) (y := 0) (st := []) (mz_fe (e := (37, .ifCond .ne 7, 3, (0, 0, 0), [])) (by decide +kernel)) (fun _ => rfl) rfl rfl rfl (fun c7 => ?_) (fun c7 => ?_)
      · refine q_ic (v := 0) (mz_fe (e := (44, .iconst 0, 1, (0, 0, 0), [])) (by decide +kernel)) (by decide) ?_
        refine q_s (mz_fe (e := (45, .istore_n 1, 1, (0, 0, 0), [])) (by decide +kernel)) (pc' := 46) (L' := [some (.ref 23), some (.int 0), some (.int y2)]) (st' := []) rfl ?_
        refine q_iinc (v := y2) (c := 1) (L3 := [some (.ref 23), some (.int 0), some (.int (y2 + 1))]) (mz_fe (e := (46, .iinc 2 1, 3, (0, 0, 0), [])) (by decide +kernel)) rfl rfl (by decide) rfl ?_
        refine q_o (mz_fe (e := (49, .goto (-35), 3, (0, 0, 0), [])) (by decide +kernel)) (pc2 := 14) rfl ?_
        exact congrArg mz_cV (mz_At_msk (L := [some (.ref 23), some (.int 0), some (.int (y2 + 1))]) (L2 := [some (.ref 23), some (.int 0), some (.int (y2 + 1))]) (mz_fe (e := (14, .iload_n 2, 1, (0, 0, 0), [true, true, true])) (by decide +kernel)) rfl rfl)
      · refine q_ic (v := 1) (mz_fe (e := (40, .iconst 1, 1, (0, 0, 0), [])) (by decide +kernel)) (by decide) ?_
        refine q_o (mz_fe (e := (41, .goto 4, 3, (0, 0, 0), [])) (by decide +kernel)) (pc2 := 45) rfl ?_
        refine q_s (mz_fe (e := (45, .istore_n 1, 1, (0, 0, 0), [])) (by decide +kernel)) (pc' := 46) (L' := [some (.ref 23), some (.int 1), some (.int y2)]) (st' := []) rfl ?_
        refine q_iinc (v := y2) (c := 1) (L3 := [some (.ref 23), some (.int 1), some (.int (y2 + 1))]) (mz_fe (e := (46, .iinc 2 1, 3, (0, 0, 0), [])) (by decide +kernel)) rfl rfl (by decide) rfl ?_
        refine q_o (mz_fe (e := (49, .goto (-35), 3, (0, 0, 0), [])) (by decide +kernel)) (pc2 := 14) rfl ?_
        exact congrArg mz_cV (mz_At_msk (L := [some (.ref 23), some (.int 1), some (.int (y2 + 1))]) (L2 := [some (.ref 23), some (.int 1), some (.int (y2 + 1))]) (mz_fe (e := (14, .iload_n 2, 1, (0, 0, 0), [true, true, true])) (by decide +kernel)) rfl rfl)
set_option maxRecDepth 10000 in
theorem R_X9_kind_eq (d : Nat) (x0 : Int32) (m : MzM)  : R_X9_kind d x0 m = if x0 < 0 then (some (0, m)) else (if (mz_rd m 23 4) ≤ x0 then (some (0, m)) else (mz_g (mz_ok x0 402) (some ((mz_rd m 24 (x0 : Int32).toNatClampNeg), m)))) := by
  show mz_cI (mz_T d 94 0 (mz_en (mz_xl 94) [.ref 23, .int x0]) [] m) = _
  rw [show mz_en (mz_xl 94) [.ref 23, .int x0] = [some (.ref 23), some (.int x0)] from by rw [show mz_xl 94 = 2 from by decide +kernel]; rfl]
  refine q_o (mz_fe (e := (0, .iload_n 1, 1, (0, 0, 0), [])) (by decide +kernel)) (pc2 := 1) rfl ?_
  refine q_if (c := .lt) (off := 20) (t := 21) (x := x0) (y := 0) (st := []) (mz_fe (e := (1, .ifCond .lt 20, 3, (0, 0, 0), [])) (by decide +kernel)) (fun _ => rfl) rfl rfl rfl (fun c1 => ?_) (fun c1 => ?_)
  · refine q_ic (v := 0) (mz_fe (e := (21, .iconst 0, 1, (0, 0, 0), [])) (by decide +kernel)) (by decide) ?_
    exact q_retI (mz_fe (e := (22, .ireturn, 1, (0, 0, 0), [])) (by decide +kernel)) (by decide +kernel)
  · refine q_o (mz_fe (e := (4, .iload_n 1, 1, (0, 0, 0), [])) (by decide +kernel)) (pc2 := 5) rfl ?_
    refine q_o (mz_fe (e := (5, .aload_n 0, 1, (0, 0, 0), [])) (by decide +kernel)) (pc2 := 6) rfl ?_
    refine q_getI (mz_fe (e := (6, .getfield 31, 80, (9, 4, 0), [])) (by decide +kernel)) rfl (by decide) tg_23 (by rw [ln_23]; decide) ?_
    refine q_if (c := .ge) (off := 12) (t := 21) (x := x0) (y := (mz_rd m 23 4)) (st := []) (mz_fe (e := (9, .if_icmp .ge 12, 3, (0, 0, 0), [])) (by decide +kernel)) (fun _ => rfl) rfl rfl rfl (fun c2 => ?_) (fun c2 => ?_)
    · refine q_ic (v := 0) (mz_fe (e := (21, .iconst 0, 1, (0, 0, 0), [])) (by decide +kernel)) (by decide) ?_
      exact q_retI (mz_fe (e := (22, .ireturn, 1, (0, 0, 0), [])) (by decide +kernel)) (by decide +kernel)
    · refine q_o (mz_fe (e := (12, .aload_n 0, 1, (0, 0, 0), [])) (by decide +kernel)) (pc2 := 13) rfl ?_
      refine q_getR (b := 24) (mz_fe (e := (13, .getfield 11, 75, (9, 1, 2), [])) (by decide +kernel)) rfl tg_23 (by rw [ln_23]; decide) (mz_rfS (by decide +kernel)) ?_
      refine q_o (mz_fe (e := (16, .iload_n 1, 1, (0, 0, 0), [])) (by decide +kernel)) (pc2 := 17) rfl ?_
      refine q_baldg rfl (mz_fe (e := (17, .baload, 1, (0, 0, 0), [])) (by decide +kernel)) rfl (Or.inr tg_24) ln_24 (fun g3 => ?_)
      refine q_o (mz_fe (e := (18, .goto 4, 3, (0, 0, 0), [])) (by decide +kernel)) (pc2 := 22) rfl ?_
      exact q_retI (mz_fe (e := (22, .ireturn, 1, (0, 0, 0), [])) (by decide +kernel)) (by decide +kernel)
set_option maxRecDepth 10000 in
theorem R_X9_placeOf_eq (d : Nat) (x0 : Int32) (m : MzM)  : R_X9_placeOf d x0 m = if x0 < 0 then (some ((mz_rd m 2 1), m)) else (if (mz_rd m 23 4) ≤ x0 then (some ((mz_rd m 2 1), m)) else (mz_g (mz_ok x0 402) (some ((mz_rd m 25 (x0 : Int32).toNatClampNeg), m)))) := by
  show mz_cI (mz_T d 95 0 (mz_en (mz_xl 95) [.ref 23, .int x0]) [] m) = _
  rw [show mz_en (mz_xl 95) [.ref 23, .int x0] = [some (.ref 23), some (.int x0)] from by rw [show mz_xl 95 = 2 from by decide +kernel]; rfl]
  refine q_o (mz_fe (e := (0, .iload_n 1, 1, (0, 0, 0), [])) (by decide +kernel)) (pc2 := 1) rfl ?_
  refine q_if (c := .lt) (off := 20) (t := 21) (x := x0) (y := 0) (st := []) (mz_fe (e := (1, .ifCond .lt 20, 3, (0, 0, 0), [])) (by decide +kernel)) (fun _ => rfl) rfl rfl rfl (fun c1 => ?_) (fun c1 => ?_)
  · refine q_o (mz_fe (e := (21, .aload_n 0, 1, (0, 0, 0), [])) (by decide +kernel)) (pc2 := 22) rfl ?_
    refine q_getR (b := 2) (mz_fe (e := (22, .getfield 23, 78, (9, 0, 2), [])) (by decide +kernel)) rfl tg_23 (by rw [ln_23]; decide) (mz_rfS (by decide +kernel)) ?_
    refine q_getI (mz_fe (e := (25, .getfield 37, 81, (7, 1, 0), [])) (by decide +kernel)) rfl (by decide) tg_2 (by rw [ln_2]; decide) ?_
    exact q_retI (mz_fe (e := (28, .ireturn, 1, (0, 0, 0), [])) (by decide +kernel)) (by decide +kernel)
  · refine q_o (mz_fe (e := (4, .iload_n 1, 1, (0, 0, 0), [])) (by decide +kernel)) (pc2 := 5) rfl ?_
    refine q_o (mz_fe (e := (5, .aload_n 0, 1, (0, 0, 0), [])) (by decide +kernel)) (pc2 := 6) rfl ?_
    refine q_getI (mz_fe (e := (6, .getfield 31, 80, (9, 4, 0), [])) (by decide +kernel)) rfl (by decide) tg_23 (by rw [ln_23]; decide) ?_
    refine q_if (c := .ge) (off := 12) (t := 21) (x := x0) (y := (mz_rd m 23 4)) (st := []) (mz_fe (e := (9, .if_icmp .ge 12, 3, (0, 0, 0), [])) (by decide +kernel)) (fun _ => rfl) rfl rfl rfl (fun c2 => ?_) (fun c2 => ?_)
    · refine q_o (mz_fe (e := (21, .aload_n 0, 1, (0, 0, 0), [])) (by decide +kernel)) (pc2 := 22) rfl ?_
      refine q_getR (b := 2) (mz_fe (e := (22, .getfield 23, 78, (9, 0, 2), [])) (by decide +kernel)) rfl tg_23 (by rw [ln_23]; decide) (mz_rfS (by decide +kernel)) ?_
      refine q_getI (mz_fe (e := (25, .getfield 37, 81, (7, 1, 0), [])) (by decide +kernel)) rfl (by decide) tg_2 (by rw [ln_2]; decide) ?_
      exact q_retI (mz_fe (e := (28, .ireturn, 1, (0, 0, 0), [])) (by decide +kernel)) (by decide +kernel)
    · refine q_o (mz_fe (e := (12, .aload_n 0, 1, (0, 0, 0), [])) (by decide +kernel)) (pc2 := 13) rfl ?_
      refine q_getR (b := 25) (mz_fe (e := (13, .getfield 15, 76, (9, 2, 2), [])) (by decide +kernel)) rfl tg_23 (by rw [ln_23]; decide) (mz_rfS (by decide +kernel)) ?_
      refine q_o (mz_fe (e := (16, .iload_n 1, 1, (0, 0, 0), [])) (by decide +kernel)) (pc2 := 17) rfl ?_
      refine q_saldg rfl (mz_fe (e := (17, .saload, 1, (0, 0, 0), [])) (by decide +kernel)) rfl tg_25 ln_25 (fun g3 => ?_)
      refine q_o (mz_fe (e := (18, .goto 10, 3, (0, 0, 0), [])) (by decide +kernel)) (pc2 := 28) rfl ?_
      exact q_retI (mz_fe (e := (28, .ireturn, 1, (0, 0, 0), [])) (by decide +kernel)) (by decide +kernel)
set_option maxRecDepth 10000 in
theorem R_X9_value_eq (d : Nat) (x0 : Int32) (m : MzM)  : R_X9_value d x0 m = if x0 < 0 then (some (0, m)) else (if (mz_rd m 23 4) ≤ x0 then (some (0, m)) else (mz_g (mz_ok x0 402) (some ((mz_rl m 26 (x0 : Int32).toNatClampNeg), m)))) := by
  show mz_cJ (mz_T d 96 0 (mz_en (mz_xl 96) [.ref 23, .int x0]) [] m) = _
  rw [show mz_en (mz_xl 96) [.ref 23, .int x0] = [some (.ref 23), some (.int x0)] from by rw [show mz_xl 96 = 2 from by decide +kernel]; rfl]
  refine q_o (mz_fe (e := (0, .iload_n 1, 1, (0, 0, 0), [])) (by decide +kernel)) (pc2 := 1) rfl ?_
  refine q_if (c := .lt) (off := 20) (t := 21) (x := x0) (y := 0) (st := []) (mz_fe (e := (1, .ifCond .lt 20, 3, (0, 0, 0), [])) (by decide +kernel)) (fun _ => rfl) rfl rfl rfl (fun c1 => ?_) (fun c1 => ?_)
  · refine q_o (mz_fe (e := (21, .lconst 0, 1, (0, 0, 0), [])) (by decide +kernel)) (pc2 := 22) (st2 := [.long 0]) rfl ?_
    exact q_retJ (mz_fe (e := (22, .lreturn, 1, (0, 0, 0), [])) (by decide +kernel)) (by decide +kernel)
  · refine q_o (mz_fe (e := (4, .iload_n 1, 1, (0, 0, 0), [])) (by decide +kernel)) (pc2 := 5) rfl ?_
    refine q_o (mz_fe (e := (5, .aload_n 0, 1, (0, 0, 0), [])) (by decide +kernel)) (pc2 := 6) rfl ?_
    refine q_getI (mz_fe (e := (6, .getfield 31, 80, (9, 4, 0), [])) (by decide +kernel)) rfl (by decide) tg_23 (by rw [ln_23]; decide) ?_
    refine q_if (c := .ge) (off := 12) (t := 21) (x := x0) (y := (mz_rd m 23 4)) (st := []) (mz_fe (e := (9, .if_icmp .ge 12, 3, (0, 0, 0), [])) (by decide +kernel)) (fun _ => rfl) rfl rfl rfl (fun c2 => ?_) (fun c2 => ?_)
    · refine q_o (mz_fe (e := (21, .lconst 0, 1, (0, 0, 0), [])) (by decide +kernel)) (pc2 := 22) (st2 := [.long 0]) rfl ?_
      exact q_retJ (mz_fe (e := (22, .lreturn, 1, (0, 0, 0), [])) (by decide +kernel)) (by decide +kernel)
    · refine q_o (mz_fe (e := (12, .aload_n 0, 1, (0, 0, 0), [])) (by decide +kernel)) (pc2 := 13) rfl ?_
      refine q_getR (b := 26) (mz_fe (e := (13, .getfield 19, 77, (9, 3, 2), [])) (by decide +kernel)) rfl tg_23 (by rw [ln_23]; decide) (mz_rfS (by decide +kernel)) ?_
      refine q_o (mz_fe (e := (16, .iload_n 1, 1, (0, 0, 0), [])) (by decide +kernel)) (pc2 := 17) rfl ?_
      refine q_laldg rfl (mz_fe (e := (17, .laload, 1, (0, 0, 0), [])) (by decide +kernel)) rfl tg_26 ln_26 (fun g3 => ?_)
      refine q_o (mz_fe (e := (18, .goto 4, 3, (0, 0, 0), [])) (by decide +kernel)) (pc2 := 22) rfl ?_
      exact q_retJ (mz_fe (e := (22, .lreturn, 1, (0, 0, 0), [])) (by decide +kernel)) (by decide +kernel)
set_option maxRecDepth 10000 in
theorem R_X9_cutOne_eq (d : Nat)  (m : MzM)  : R_X9_cutOne d  m = if (mz_rd m 2 1) ≤ (mz_rd m 23 5) then ((R_X7_byteAt d (mz_rd m 23 5) m).bind (fun u4 => if ¬ u4.1 = (-1) then ((R_X9_isLetter d u4.1 u4.2).bind (fun u8 => if u8.1 = 0 then ((R_X9_isDigit d u4.1 u8.2).bind (fun u12 => if u12.1 = 0 then (if (0 : Int32) ≤ (mz_ixF (((u4.1 : Int32).toUInt32 % 65536).toInt32) (mz_sb 1000002) 0) then ((R_X9_keep d ((4 : Int32) + (mz_ixF (((u4.1 : Int32).toUInt32 % 65536).toInt32) (mz_sb 1000002) 0)) (mz_rd m 23 5) 0 (mz_wr u12.2 23 5 ((mz_rd u12.2 23 5) + 1))).bind (fun m15 => some m15)) else ((R_X9_keep d 1 (mz_rd m 23 5) 0 (mz_wr u12.2 23 5 ((mz_rd u12.2 23 5) + 1))).bind (fun m18 => some m18))) else ((R_X9_cutInt d (mz_rd m 23 5) u12.2).bind (fun m21 => some m21)))) else ((R_X9_cutWord d (mz_rd m 23 5) u8.2).bind (fun m24 => some m24)))) else ((R_X9_keep d 0 (mz_rd m 23 5) 0 u4.2).bind (fun m27 => some m27)))) else ((R_X7_byteAt d (mz_rd m 23 5) m).bind (fun u32 => (R_X9_isBlank d u32.1 u32.2).bind (fun u35 => if u35.1 = 0 then ((R_X7_byteAt d (mz_rd u35.2 23 5) u35.2).bind (fun u39 => if ¬ u39.1 = (-1) then ((R_X9_isLetter d u39.1 u39.2).bind (fun u43 => if u43.1 = 0 then ((R_X9_isDigit d u39.1 u43.2).bind (fun u47 => if u47.1 = 0 then (if (0 : Int32) ≤ (mz_ixF (((u39.1 : Int32).toUInt32 % 65536).toInt32) (mz_sb 1000002) 0) then ((R_X9_keep d ((4 : Int32) + (mz_ixF (((u39.1 : Int32).toUInt32 % 65536).toInt32) (mz_sb 1000002) 0)) (mz_rd u35.2 23 5) 0 (mz_wr u47.2 23 5 ((mz_rd u47.2 23 5) + 1))).bind (fun m50 => some m50)) else ((R_X9_keep d 1 (mz_rd u35.2 23 5) 0 (mz_wr u47.2 23 5 ((mz_rd u47.2 23 5) + 1))).bind (fun m53 => some m53))) else ((R_X9_cutInt d (mz_rd u35.2 23 5) u47.2).bind (fun m56 => some m56)))) else ((R_X9_cutWord d (mz_rd u35.2 23 5) u43.2).bind (fun m59 => some m59)))) else ((R_X9_keep d 0 (mz_rd u35.2 23 5) 0 u39.2).bind (fun m62 => some m62)))) else (H_X9_cutOne_0 d  (mz_wr u35.2 23 5 ((mz_rd u35.2 23 5) + 1)))))) := by
  show mz_cV (mz_T d 97 0 (mz_en (mz_xl 97) [.ref 23]) [] m) = _
  rw [show mz_en (mz_xl 97) [.ref 23] = [some (.ref 23), none, none, none] from by rw [show mz_xl 97 = 4 from by decide +kernel]; rfl]
  refine q_s (mz_fe (e := (0, .aload_n 0, 1, (0, 0, 0), [true, false, false, false])) (by decide +kernel)) (pc' := 1) (L' := [some (.ref 23), none, none, none]) (st' := [.ref 23]) rfl ?_
  refine q_getI (mz_fe (e := (1, .getfield 27, 79, (9, 5, 0), [])) (by decide +kernel)) rfl (by decide) tg_23 (by rw [ln_23]; decide) ?_
  refine q_o (mz_fe (e := (4, .aload_n 0, 1, (0, 0, 0), [])) (by decide +kernel)) (pc2 := 5) rfl ?_
  refine q_getR (b := 2) (mz_fe (e := (5, .getfield 23, 78, (9, 0, 2), [])) (by decide +kernel)) rfl tg_23 (by rw [ln_23]; decide) (mz_rfS (by decide +kernel)) ?_
  refine q_getI (mz_fe (e := (8, .getfield 37, 81, (7, 1, 0), [])) (by decide +kernel)) rfl (by decide) tg_2 (by rw [ln_2]; decide) ?_
  refine q_if (c := .ge) (off := 33) (t := 44) (x := (mz_rd m 23 5)) (y := (mz_rd m 2 1)) (st := []) (mz_fe (e := (11, .if_icmp .ge 33, 3, (0, 0, 0), [])) (by decide +kernel)) (fun _ => rfl) rfl rfl rfl (fun c1 => ?_) (fun c1 => ?_)
  · refine q_o (mz_fe (e := (44, .aload_n 0, 1, (0, 0, 0), [])) (by decide +kernel)) (pc2 := 45) rfl ?_
    refine q_getI (mz_fe (e := (45, .getfield 27, 79, (9, 5, 0), [])) (by decide +kernel)) rfl (by decide) tg_23 (by rw [ln_23]; decide) ?_
    refine q_s (mz_fe (e := (48, .istore_n 1, 1, (0, 0, 0), [])) (by decide +kernel)) (pc' := 49) (L' := [some (.ref 23), some (.int (mz_rd m 23 5)), none, none]) (st' := []) rfl ?_
    refine q_o (mz_fe (e := (49, .aload_n 0, 1, (0, 0, 0), [])) (by decide +kernel)) (pc2 := 50) rfl ?_
    refine q_getR (b := 2) (mz_fe (e := (50, .getfield 23, 78, (9, 0, 2), [])) (by decide +kernel)) rfl tg_23 (by rw [ln_23]; decide) (mz_rfS (by decide +kernel)) ?_
    refine q_o (mz_fe (e := (53, .aload_n 0, 1, (0, 0, 0), [])) (by decide +kernel)) (pc2 := 54) rfl ?_
    refine q_getI (mz_fe (e := (54, .getfield 27, 79, (9, 5, 0), [])) (by decide +kernel)) rfl (by decide) tg_23 (by rw [ln_23]; decide) ?_
    refine q_callI (N := 80) (vs := [.ref 2, .int (mz_rd m 23 5)]) (rest := []) (L' := [some (.ref 23), some (.int (mz_rd m 23 5)), none, none]) (f := fun v3 m2 => if ¬ v3 = (-1) then ((R_X9_isLetter d v3 m2).bind (fun u8 => if u8.1 = 0 then ((R_X9_isDigit d v3 u8.2).bind (fun u12 => if u12.1 = 0 then (if (0 : Int32) ≤ (mz_ixF (((v3 : Int32).toUInt32 % 65536).toInt32) (mz_sb 1000002) 0) then ((R_X9_keep d ((4 : Int32) + (mz_ixF (((v3 : Int32).toUInt32 % 65536).toInt32) (mz_sb 1000002) 0)) (mz_rd m 23 5) 0 (mz_wr u12.2 23 5 ((mz_rd u12.2 23 5) + 1))).bind (fun m15 => some m15)) else ((R_X9_keep d 1 (mz_rd m 23 5) 0 (mz_wr u12.2 23 5 ((mz_rd u12.2 23 5) + 1))).bind (fun m18 => some m18))) else ((R_X9_cutInt d (mz_rd m 23 5) u12.2).bind (fun m21 => some m21)))) else ((R_X9_cutWord d (mz_rd m 23 5) u8.2).bind (fun m24 => some m24)))) else ((R_X9_keep d 0 (mz_rd m 23 5) 0 m2).bind (fun m27 => some m27))) rfl (mz_fe (e := (57, .invokevirtual 40, 81, (80, 2, 13), [])) (by decide +kernel)) rfl (mz_inv_virt (N := 80) (k := 2) (t := 13) (st := [.int (mz_rd m 23 5), .ref 2]) (rest := []) (b := 2) (vs := [.int (mz_rd m 23 5)]) (h := (mz_S0, m)) rfl rfl (Nat.le_of_ble_eq_true rfl) (Nat.le_of_ble_eq_true rfl) tg_2 (by decide)) (mz_dc_lt (n := 2) rfl (by decide +kernel) (by decide +kernel)) (by decide +kernel) (Or.inl (by decide +kernel)) (fun v3 m2 => ?_)
    refine q_s (mz_fe (e := (60, .istore_n 2, 1, (0, 0, 0), [])) (by decide +kernel)) (pc' := 61) (L' := [some (.ref 23), some (.int (mz_rd m 23 5)), some (.int v3), none]) (st' := []) rfl ?_
    refine q_o (mz_fe (e := (61, .iload_n 2, 1, (0, 0, 0), [])) (by decide +kernel)) (pc2 := 62) rfl ?_
    refine q_ic (v := (-1)) (mz_fe (e := (62, .iconst (-1), 1, (0, 0, 0), [])) (by decide +kernel)) (by decide) ?_
    refine q_if (c := .ne) (off := 13) (t := 76) (x := v3) (y := (-1)) (st := []) (mz_fe (e := (63, .if_icmp .ne 13, 3, (0, 0, 0), [])) (by decide +kernel)) (fun _ => rfl) rfl rfl rfl (fun c5 => ?_) (fun c5 => ?_)
    · refine q_o (mz_fe (e := (76, .iload_n 2, 1, (0, 0, 0), [])) (by decide +kernel)) (pc2 := 77) rfl ?_
      refine q_callI (N := 104) (vs := [.int v3]) (rest := []) (L' := [some (.ref 23), some (.int (mz_rd m 23 5)), some (.int v3), none]) (f := fun v7 m6 => if v7 = 0 then ((R_X9_isDigit d v3 m6).bind (fun u12 => if u12.1 = 0 then (if (0 : Int32) ≤ (mz_ixF (((v3 : Int32).toUInt32 % 65536).toInt32) (mz_sb 1000002) 0) then ((R_X9_keep d ((4 : Int32) + (mz_ixF (((v3 : Int32).toUInt32 % 65536).toInt32) (mz_sb 1000002) 0)) (mz_rd m 23 5) 0 (mz_wr u12.2 23 5 ((mz_rd u12.2 23 5) + 1))).bind (fun m15 => some m15)) else ((R_X9_keep d 1 (mz_rd m 23 5) 0 (mz_wr u12.2 23 5 ((mz_rd u12.2 23 5) + 1))).bind (fun m18 => some m18))) else ((R_X9_cutInt d (mz_rd m 23 5) u12.2).bind (fun m21 => some m21)))) else ((R_X9_cutWord d (mz_rd m 23 5) m6).bind (fun m24 => some m24))) rfl (mz_fe (e := (77, .invokestatic 52, 84, (104, 1, 1000), [])) (by decide +kernel)) rfl (mz_inv_stat (N := 104) (k := 1) (st := [.int v3]) (rest := []) (vs := [.int v3]) (h := (mz_S0, m2)) rfl rfl (Nat.le_of_ble_eq_true rfl) (Nat.le_of_ble_eq_true rfl)) (mz_dc_lt (n := 1) rfl (by decide +kernel) (by decide +kernel)) (by decide +kernel) (Or.inr (by decide +kernel)) (fun v7 m6 => ?_)
      refine q_if (c := .eq) (off := 11) (t := 91) (x := v7) (y := 0) (st := []) (mz_fe (e := (80, .ifCond .eq 11, 3, (0, 0, 0), [])) (by decide +kernel)) (fun _ => rfl) rfl rfl rfl (fun c9 => ?_) (fun c9 => ?_)
      · refine q_o (mz_fe (e := (91, .iload_n 2, 1, (0, 0, 0), [])) (by decide +kernel)) (pc2 := 92) rfl ?_
        refine q_callI (N := 105) (vs := [.int v3]) (rest := []) (L' := [some (.ref 23), some (.int (mz_rd m 23 5)), some (.int v3), none]) (f := fun v11 m10 => if v11 = 0 then (if (0 : Int32) ≤ (mz_ixF (((v3 : Int32).toUInt32 % 65536).toInt32) (mz_sb 1000002) 0) then ((R_X9_keep d ((4 : Int32) + (mz_ixF (((v3 : Int32).toUInt32 % 65536).toInt32) (mz_sb 1000002) 0)) (mz_rd m 23 5) 0 (mz_wr m10 23 5 ((mz_rd m10 23 5) + 1))).bind (fun m15 => some m15)) else ((R_X9_keep d 1 (mz_rd m 23 5) 0 (mz_wr m10 23 5 ((mz_rd m10 23 5) + 1))).bind (fun m18 => some m18))) else ((R_X9_cutInt d (mz_rd m 23 5) m10).bind (fun m21 => some m21))) rfl (mz_fe (e := (92, .invokestatic 59, 86, (105, 1, 1000), [])) (by decide +kernel)) rfl (mz_inv_stat (N := 105) (k := 1) (st := [.int v3]) (rest := []) (vs := [.int v3]) (h := (mz_S0, m6)) rfl rfl (Nat.le_of_ble_eq_true rfl) (Nat.le_of_ble_eq_true rfl)) (mz_dc_lt (n := 1) rfl (by decide +kernel) (by decide +kernel)) (by decide +kernel) (Or.inr (by decide +kernel)) (fun v11 m10 => ?_)
        refine q_if (c := .eq) (off := 11) (t := 106) (x := v11) (y := 0) (st := []) (mz_fe (e := (95, .ifCond .eq 11, 3, (0, 0, 0), [])) (by decide +kernel)) (fun _ => rfl) rfl rfl rfl (fun c13 => ?_) (fun c13 => ?_)
        · refine q_o (mz_fe (e := (106, .ldc 65, 2, (2, 0, 1), [])) (by decide +kernel)) (pc2 := 108) (st2 := [.ref 1000002]) rfl ?_
          refine q_o (mz_fe (e := (108, .iload_n 2, 1, (0, 0, 0), [])) (by decide +kernel)) (pc2 := 109) rfl ?_
          refine q_o (mz_fe (e := (109, .i2c, 1, (0, 0, 0), [])) (by decide +kernel)) (pc2 := 110) rfl ?_
          refine q_six (mz_fe (e := (110, .invokevirtual 67, 3, (9992, 0, 0), [])) (by decide +kernel)) (by decide) (Nat.le_of_ble_eq_true rfl) ?_
          refine q_s (mz_fe (e := (113, .istore_n 3, 1, (0, 0, 0), [])) (by decide +kernel)) (pc' := 114) (L' := [some (.ref 23), some (.int (mz_rd m 23 5)), some (.int v3), some (.int (mz_ixF (((v3 : Int32).toUInt32 % 65536).toInt32) (mz_sb 1000002) 0))]) (st' := []) rfl ?_
          refine q_o (mz_fe (e := (114, .aload_n 0, 1, (0, 0, 0), [])) (by decide +kernel)) (pc2 := 115) rfl ?_
          refine q_o (mz_fe (e := (115, .dup, 1, (0, 0, 0), [])) (by decide +kernel)) (pc2 := 116) rfl ?_
          refine q_getI (mz_fe (e := (116, .getfield 27, 79, (9, 5, 0), [])) (by decide +kernel)) rfl (by decide) tg_23 (by rw [ln_23]; decide) ?_
          refine q_ic (v := 1) (mz_fe (e := (119, .iconst 1, 1, (0, 0, 0), [])) (by decide +kernel)) (by decide) ?_
          refine q_o (mz_fe (e := (120, .iadd, 1, (0, 0, 0), [])) (by decide +kernel)) (pc2 := 121) rfl ?_
          refine q_putI (mz_fe (e := (121, .putfield 27, 79, (9, 5, 0), [])) (by decide +kernel)) rfl tg_23 (by rw [ln_23]; decide) ?_
          refine q_o (mz_fe (e := (124, .aload_n 0, 1, (0, 0, 0), [])) (by decide +kernel)) (pc2 := 125) rfl ?_
          refine q_o (mz_fe (e := (125, .iload_n 3, 1, (0, 0, 0), [])) (by decide +kernel)) (pc2 := 126) rfl ?_
          refine q_if (c := .ge) (off := 7) (t := 133) (x := (mz_ixF (((v3 : Int32).toUInt32 % 65536).toInt32) (mz_sb 1000002) 0)) (y := 0) (st := [.ref 23]) (mz_fe (e := (126, .ifCond .ge 7, 3, (0, 0, 0), [])) (by decide +kernel)) (fun _ => rfl) rfl rfl rfl (fun c14 => ?_) (fun c14 => ?_)
          · refine q_ic (v := 4) (mz_fe (e := (133, .iconst 4, 1, (0, 0, 0), [])) (by decide +kernel)) (by decide) ?_
            refine q_o (mz_fe (e := (134, .iload_n 3, 1, (0, 0, 0), [])) (by decide +kernel)) (pc2 := 135) rfl ?_
            refine q_o (mz_fe (e := (135, .iadd, 1, (0, 0, 0), [])) (by decide +kernel)) (pc2 := 136) rfl ?_
            refine q_o (mz_fe (e := (136, .iload_n 1, 1, (0, 0, 0), [])) (by decide +kernel)) (pc2 := 137) rfl ?_
            refine q_o (mz_fe (e := (137, .lconst 0, 1, (0, 0, 0), [])) (by decide +kernel)) (pc2 := 138) (st2 := [.long 0, .int (mz_rd m 23 5), .int ((4 : Int32) + (mz_ixF (((v3 : Int32).toUInt32 % 65536).toInt32) (mz_sb 1000002) 0)), .ref 23]) rfl ?_
            refine q_callV (N := 98) (vs := [.ref 23, .int ((4 : Int32) + (mz_ixF (((v3 : Int32).toUInt32 % 65536).toInt32) (mz_sb 1000002) 0)), .int (mz_rd m 23 5), .long 0]) (rest := []) (L' := [some (.ref 23), some (.int (mz_rd m 23 5)), some (.int v3), some (.int (mz_ixF (((v3 : Int32).toUInt32 % 65536).toInt32) (mz_sb 1000002) 0))]) rfl (mz_fe (e := (138, .invokevirtual 48, 83, (98, 4, 15), [])) (by decide +kernel)) rfl (mz_inv_virt (N := 98) (k := 4) (t := 15) (st := [.long 0, .int (mz_rd m 23 5), .int ((4 : Int32) + (mz_ixF (((v3 : Int32).toUInt32 % 65536).toInt32) (mz_sb 1000002) 0)), .ref 23]) (rest := []) (b := 23) (vs := [.int ((4 : Int32) + (mz_ixF (((v3 : Int32).toUInt32 % 65536).toInt32) (mz_sb 1000002) 0)), .int (mz_rd m 23 5), .long 0]) (h := (mz_S0, (mz_wr m10 23 5 ((mz_rd m10 23 5) + 1)))) rfl rfl (Nat.le_of_ble_eq_true rfl) (Nat.le_of_ble_eq_true rfl) tg_23 (by decide)) (mz_dc_lt (n := 5) rfl (by decide +kernel) (by decide +kernel)) (by decide +kernel) (by decide +kernel) (fun m15 => ?_)
            exact q_retV (mz_fe (e := (141, .return_, 1, (0, 0, 0), [])) (by decide +kernel)) (by decide +kernel)
          · refine q_ic (v := 1) (mz_fe (e := (129, .iconst 1, 1, (0, 0, 0), [])) (by decide +kernel)) (by decide) ?_
            refine q_o (mz_fe (e := (130, .goto 6, 3, (0, 0, 0), [])) (by decide +kernel)) (pc2 := 136) rfl ?_
            refine q_o (mz_fe (e := (136, .iload_n 1, 1, (0, 0, 0), [])) (by decide +kernel)) (pc2 := 137) rfl ?_
            refine q_o (mz_fe (e := (137, .lconst 0, 1, (0, 0, 0), [])) (by decide +kernel)) (pc2 := 138) (st2 := [.long 0, .int (mz_rd m 23 5), .int 1, .ref 23]) rfl ?_
            refine q_callV (N := 98) (vs := [.ref 23, .int 1, .int (mz_rd m 23 5), .long 0]) (rest := []) (L' := [some (.ref 23), some (.int (mz_rd m 23 5)), some (.int v3), some (.int (mz_ixF (((v3 : Int32).toUInt32 % 65536).toInt32) (mz_sb 1000002) 0))]) rfl (mz_fe (e := (138, .invokevirtual 48, 83, (98, 4, 15), [])) (by decide +kernel)) rfl (mz_inv_virt (N := 98) (k := 4) (t := 15) (st := [.long 0, .int (mz_rd m 23 5), .int 1, .ref 23]) (rest := []) (b := 23) (vs := [.int 1, .int (mz_rd m 23 5), .long 0]) (h := (mz_S0, (mz_wr m10 23 5 ((mz_rd m10 23 5) + 1)))) rfl rfl (Nat.le_of_ble_eq_true rfl) (Nat.le_of_ble_eq_true rfl) tg_23 (by decide)) (mz_dc_lt (n := 5) rfl (by decide +kernel) (by decide +kernel)) (by decide +kernel) (by decide +kernel) (fun m18 => ?_)
            exact q_retV (mz_fe (e := (141, .return_, 1, (0, 0, 0), [])) (by decide +kernel)) (by decide +kernel)
        · refine q_o (mz_fe (e := (98, .aload_n 0, 1, (0, 0, 0), [])) (by decide +kernel)) (pc2 := 99) rfl ?_
          refine q_o (mz_fe (e := (99, .iload_n 1, 1, (0, 0, 0), [])) (by decide +kernel)) (pc2 := 100) rfl ?_
          refine q_callV (N := 100) (vs := [.ref 23, .int (mz_rd m 23 5)]) (rest := []) (L' := [some (.ref 23), some (.int (mz_rd m 23 5)), some (.int v3), none]) rfl (mz_fe (e := (100, .invokevirtual 62, 87, (100, 2, 15), [])) (by decide +kernel)) rfl (mz_inv_virt (N := 100) (k := 2) (t := 15) (st := [.int (mz_rd m 23 5), .ref 23]) (rest := []) (b := 23) (vs := [.int (mz_rd m 23 5)]) (h := (mz_S0, m10)) rfl rfl (Nat.le_of_ble_eq_true rfl) (Nat.le_of_ble_eq_true rfl) tg_23 (by decide)) (mz_dc_lt (n := 2) rfl (by decide +kernel) (by decide +kernel)) (by decide +kernel) (by decide +kernel) (fun m21 => ?_)
          refine q_o (mz_fe (e := (103, .goto 38, 3, (0, 0, 0), [])) (by decide +kernel)) (pc2 := 141) rfl ?_
          exact q_retV (mz_fe (e := (141, .return_, 1, (0, 0, 0), [])) (by decide +kernel)) (by decide +kernel)
      · refine q_o (mz_fe (e := (83, .aload_n 0, 1, (0, 0, 0), [])) (by decide +kernel)) (pc2 := 84) rfl ?_
        refine q_o (mz_fe (e := (84, .iload_n 1, 1, (0, 0, 0), [])) (by decide +kernel)) (pc2 := 85) rfl ?_
        refine q_callV (N := 99) (vs := [.ref 23, .int (mz_rd m 23 5)]) (rest := []) (L' := [some (.ref 23), some (.int (mz_rd m 23 5)), some (.int v3), none]) rfl (mz_fe (e := (85, .invokevirtual 55, 85, (99, 2, 15), [])) (by decide +kernel)) rfl (mz_inv_virt (N := 99) (k := 2) (t := 15) (st := [.int (mz_rd m 23 5), .ref 23]) (rest := []) (b := 23) (vs := [.int (mz_rd m 23 5)]) (h := (mz_S0, m6)) rfl rfl (Nat.le_of_ble_eq_true rfl) (Nat.le_of_ble_eq_true rfl) tg_23 (by decide)) (mz_dc_lt (n := 2) rfl (by decide +kernel) (by decide +kernel)) (by decide +kernel) (by decide +kernel) (fun m24 => ?_)
        refine q_o (mz_fe (e := (88, .goto 53, 3, (0, 0, 0), [])) (by decide +kernel)) (pc2 := 141) rfl ?_
        exact q_retV (mz_fe (e := (141, .return_, 1, (0, 0, 0), [])) (by decide +kernel)) (by decide +kernel)
    · refine q_o (mz_fe (e := (66, .aload_n 0, 1, (0, 0, 0), [])) (by decide +kernel)) (pc2 := 67) rfl ?_
      refine q_ic (v := 0) (mz_fe (e := (67, .iconst 0, 1, (0, 0, 0), [])) (by decide +kernel)) (by decide) ?_
      refine q_o (mz_fe (e := (68, .iload_n 1, 1, (0, 0, 0), [])) (by decide +kernel)) (pc2 := 69) rfl ?_
      refine q_o (mz_fe (e := (69, .lconst 0, 1, (0, 0, 0), [])) (by decide +kernel)) (pc2 := 70) (st2 := [.long 0, .int (mz_rd m 23 5), .int 0, .ref 23]) rfl ?_
      refine q_callV (N := 98) (vs := [.ref 23, .int 0, .int (mz_rd m 23 5), .long 0]) (rest := []) (L' := [some (.ref 23), some (.int (mz_rd m 23 5)), some (.int v3), none]) rfl (mz_fe (e := (70, .invokevirtual 48, 83, (98, 4, 15), [])) (by decide +kernel)) rfl (mz_inv_virt (N := 98) (k := 4) (t := 15) (st := [.long 0, .int (mz_rd m 23 5), .int 0, .ref 23]) (rest := []) (b := 23) (vs := [.int 0, .int (mz_rd m 23 5), .long 0]) (h := (mz_S0, m2)) rfl rfl (Nat.le_of_ble_eq_true rfl) (Nat.le_of_ble_eq_true rfl) tg_23 (by decide)) (mz_dc_lt (n := 5) rfl (by decide +kernel) (by decide +kernel)) (by decide +kernel) (by decide +kernel) (fun m27 => ?_)
      refine q_o (mz_fe (e := (73, .goto 68, 3, (0, 0, 0), [])) (by decide +kernel)) (pc2 := 141) rfl ?_
      exact q_retV (mz_fe (e := (141, .return_, 1, (0, 0, 0), [])) (by decide +kernel)) (by decide +kernel)
  · refine q_o (mz_fe (e := (14, .aload_n 0, 1, (0, 0, 0), [])) (by decide +kernel)) (pc2 := 15) rfl ?_
    refine q_getR (b := 2) (mz_fe (e := (15, .getfield 23, 78, (9, 0, 2), [])) (by decide +kernel)) rfl tg_23 (by rw [ln_23]; decide) (mz_rfS (by decide +kernel)) ?_
    refine q_o (mz_fe (e := (18, .aload_n 0, 1, (0, 0, 0), [])) (by decide +kernel)) (pc2 := 19) rfl ?_
    refine q_getI (mz_fe (e := (19, .getfield 27, 79, (9, 5, 0), [])) (by decide +kernel)) rfl (by decide) tg_23 (by rw [ln_23]; decide) ?_
    refine q_callI (N := 80) (vs := [.ref 2, .int (mz_rd m 23 5)]) (rest := []) (L' := [some (.ref 23), none, none, none]) (f := fun v31 m30 => (R_X9_isBlank d v31 m30).bind (fun u35 => if u35.1 = 0 then ((R_X7_byteAt d (mz_rd u35.2 23 5) u35.2).bind (fun u39 => if ¬ u39.1 = (-1) then ((R_X9_isLetter d u39.1 u39.2).bind (fun u43 => if u43.1 = 0 then ((R_X9_isDigit d u39.1 u43.2).bind (fun u47 => if u47.1 = 0 then (if (0 : Int32) ≤ (mz_ixF (((u39.1 : Int32).toUInt32 % 65536).toInt32) (mz_sb 1000002) 0) then ((R_X9_keep d ((4 : Int32) + (mz_ixF (((u39.1 : Int32).toUInt32 % 65536).toInt32) (mz_sb 1000002) 0)) (mz_rd u35.2 23 5) 0 (mz_wr u47.2 23 5 ((mz_rd u47.2 23 5) + 1))).bind (fun m50 => some m50)) else ((R_X9_keep d 1 (mz_rd u35.2 23 5) 0 (mz_wr u47.2 23 5 ((mz_rd u47.2 23 5) + 1))).bind (fun m53 => some m53))) else ((R_X9_cutInt d (mz_rd u35.2 23 5) u47.2).bind (fun m56 => some m56)))) else ((R_X9_cutWord d (mz_rd u35.2 23 5) u43.2).bind (fun m59 => some m59)))) else ((R_X9_keep d 0 (mz_rd u35.2 23 5) 0 u39.2).bind (fun m62 => some m62)))) else (H_X9_cutOne_0 d  (mz_wr u35.2 23 5 ((mz_rd u35.2 23 5) + 1))))) rfl (mz_fe (e := (22, .invokevirtual 40, 81, (80, 2, 13), [])) (by decide +kernel)) rfl (mz_inv_virt (N := 80) (k := 2) (t := 13) (st := [.int (mz_rd m 23 5), .ref 2]) (rest := []) (b := 2) (vs := [.int (mz_rd m 23 5)]) (h := (mz_S0, m)) rfl rfl (Nat.le_of_ble_eq_true rfl) (Nat.le_of_ble_eq_true rfl) tg_2 (by decide)) (mz_dc_lt (n := 2) rfl (by decide +kernel) (by decide +kernel)) (by decide +kernel) (Or.inl (by decide +kernel)) (fun v31 m30 => ?_)
    refine q_callI (N := 103) (vs := [.int v31]) (rest := []) (L' := [some (.ref 23), none, none, none]) (f := fun v34 m33 => if v34 = 0 then ((R_X7_byteAt d (mz_rd m33 23 5) m33).bind (fun u39 => if ¬ u39.1 = (-1) then ((R_X9_isLetter d u39.1 u39.2).bind (fun u43 => if u43.1 = 0 then ((R_X9_isDigit d u39.1 u43.2).bind (fun u47 => if u47.1 = 0 then (if (0 : Int32) ≤ (mz_ixF (((u39.1 : Int32).toUInt32 % 65536).toInt32) (mz_sb 1000002) 0) then ((R_X9_keep d ((4 : Int32) + (mz_ixF (((u39.1 : Int32).toUInt32 % 65536).toInt32) (mz_sb 1000002) 0)) (mz_rd m33 23 5) 0 (mz_wr u47.2 23 5 ((mz_rd u47.2 23 5) + 1))).bind (fun m50 => some m50)) else ((R_X9_keep d 1 (mz_rd m33 23 5) 0 (mz_wr u47.2 23 5 ((mz_rd u47.2 23 5) + 1))).bind (fun m53 => some m53))) else ((R_X9_cutInt d (mz_rd m33 23 5) u47.2).bind (fun m56 => some m56)))) else ((R_X9_cutWord d (mz_rd m33 23 5) u43.2).bind (fun m59 => some m59)))) else ((R_X9_keep d 0 (mz_rd m33 23 5) 0 u39.2).bind (fun m62 => some m62)))) else (H_X9_cutOne_0 d  (mz_wr m33 23 5 ((mz_rd m33 23 5) + 1)))) rfl (mz_fe (e := (25, .invokestatic 44, 82, (103, 1, 1000), [])) (by decide +kernel)) rfl (mz_inv_stat (N := 103) (k := 1) (st := [.int v31]) (rest := []) (vs := [.int v31]) (h := (mz_S0, m30)) rfl rfl (Nat.le_of_ble_eq_true rfl) (Nat.le_of_ble_eq_true rfl)) (mz_dc_lt (n := 1) rfl (by decide +kernel) (by decide +kernel)) (by decide +kernel) (Or.inr (by decide +kernel)) (fun v34 m33 => ?_)
    refine q_if (c := .eq) (off := 16) (t := 44) (x := v34) (y := 0) (st := []) (mz_fe (e := (28, .ifCond .eq 16, 3, (0, 0, 0), [])) (by decide +kernel)) (fun _ => rfl) rfl rfl rfl (fun c36 => ?_) (fun c36 => ?_)
    · refine q_o (mz_fe (e := (44, .aload_n 0, 1, (0, 0, 0), [])) (by decide +kernel)) (pc2 := 45) rfl ?_
      refine q_getI (mz_fe (e := (45, .getfield 27, 79, (9, 5, 0), [])) (by decide +kernel)) rfl (by decide) tg_23 (by rw [ln_23]; decide) ?_
      refine q_s (mz_fe (e := (48, .istore_n 1, 1, (0, 0, 0), [])) (by decide +kernel)) (pc' := 49) (L' := [some (.ref 23), some (.int (mz_rd m33 23 5)), none, none]) (st' := []) rfl ?_
      refine q_o (mz_fe (e := (49, .aload_n 0, 1, (0, 0, 0), [])) (by decide +kernel)) (pc2 := 50) rfl ?_
      refine q_getR (b := 2) (mz_fe (e := (50, .getfield 23, 78, (9, 0, 2), [])) (by decide +kernel)) rfl tg_23 (by rw [ln_23]; decide) (mz_rfS (by decide +kernel)) ?_
      refine q_o (mz_fe (e := (53, .aload_n 0, 1, (0, 0, 0), [])) (by decide +kernel)) (pc2 := 54) rfl ?_
      refine q_getI (mz_fe (e := (54, .getfield 27, 79, (9, 5, 0), [])) (by decide +kernel)) rfl (by decide) tg_23 (by rw [ln_23]; decide) ?_
      refine q_callI (N := 80) (vs := [.ref 2, .int (mz_rd m33 23 5)]) (rest := []) (L' := [some (.ref 23), some (.int (mz_rd m33 23 5)), none, none]) (f := fun v38 m37 => if ¬ v38 = (-1) then ((R_X9_isLetter d v38 m37).bind (fun u43 => if u43.1 = 0 then ((R_X9_isDigit d v38 u43.2).bind (fun u47 => if u47.1 = 0 then (if (0 : Int32) ≤ (mz_ixF (((v38 : Int32).toUInt32 % 65536).toInt32) (mz_sb 1000002) 0) then ((R_X9_keep d ((4 : Int32) + (mz_ixF (((v38 : Int32).toUInt32 % 65536).toInt32) (mz_sb 1000002) 0)) (mz_rd m33 23 5) 0 (mz_wr u47.2 23 5 ((mz_rd u47.2 23 5) + 1))).bind (fun m50 => some m50)) else ((R_X9_keep d 1 (mz_rd m33 23 5) 0 (mz_wr u47.2 23 5 ((mz_rd u47.2 23 5) + 1))).bind (fun m53 => some m53))) else ((R_X9_cutInt d (mz_rd m33 23 5) u47.2).bind (fun m56 => some m56)))) else ((R_X9_cutWord d (mz_rd m33 23 5) u43.2).bind (fun m59 => some m59)))) else ((R_X9_keep d 0 (mz_rd m33 23 5) 0 m37).bind (fun m62 => some m62))) rfl (mz_fe (e := (57, .invokevirtual 40, 81, (80, 2, 13), [])) (by decide +kernel)) rfl (mz_inv_virt (N := 80) (k := 2) (t := 13) (st := [.int (mz_rd m33 23 5), .ref 2]) (rest := []) (b := 2) (vs := [.int (mz_rd m33 23 5)]) (h := (mz_S0, m33)) rfl rfl (Nat.le_of_ble_eq_true rfl) (Nat.le_of_ble_eq_true rfl) tg_2 (by decide)) (mz_dc_lt (n := 2) rfl (by decide +kernel) (by decide +kernel)) (by decide +kernel) (Or.inl (by decide +kernel)) (fun v38 m37 => ?_)
      refine q_s (mz_fe (e := (60, .istore_n 2, 1, (0, 0, 0), [])) (by decide +kernel)) (pc' := 61) (L' := [some (.ref 23), some (.int (mz_rd m33 23 5)), some (.int v38), none]) (st' := []) rfl ?_
      refine q_o (mz_fe (e := (61, .iload_n 2, 1, (0, 0, 0), [])) (by decide +kernel)) (pc2 := 62) rfl ?_
      refine q_ic (v := (-1)) (mz_fe (e := (62, .iconst (-1), 1, (0, 0, 0), [])) (by decide +kernel)) (by decide) ?_
      refine q_if (c := .ne) (off := 13) (t := 76) (x := v38) (y := (-1)) (st := []) (mz_fe (e := (63, .if_icmp .ne 13, 3, (0, 0, 0), [])) (by decide +kernel)) (fun _ => rfl) rfl rfl rfl (fun c40 => ?_) (fun c40 => ?_)
      · refine q_o (mz_fe (e := (76, .iload_n 2, 1, (0, 0, 0), [])) (by decide +kernel)) (pc2 := 77) rfl ?_
        refine q_callI (N := 104) (vs := [.int v38]) (rest := []) (L' := [some (.ref 23), some (.int (mz_rd m33 23 5)), some (.int v38), none]) (f := fun v42 m41 => if v42 = 0 then ((R_X9_isDigit d v38 m41).bind (fun u47 => if u47.1 = 0 then (if (0 : Int32) ≤ (mz_ixF (((v38 : Int32).toUInt32 % 65536).toInt32) (mz_sb 1000002) 0) then ((R_X9_keep d ((4 : Int32) + (mz_ixF (((v38 : Int32).toUInt32 % 65536).toInt32) (mz_sb 1000002) 0)) (mz_rd m33 23 5) 0 (mz_wr u47.2 23 5 ((mz_rd u47.2 23 5) + 1))).bind (fun m50 => some m50)) else ((R_X9_keep d 1 (mz_rd m33 23 5) 0 (mz_wr u47.2 23 5 ((mz_rd u47.2 23 5) + 1))).bind (fun m53 => some m53))) else ((R_X9_cutInt d (mz_rd m33 23 5) u47.2).bind (fun m56 => some m56)))) else ((R_X9_cutWord d (mz_rd m33 23 5) m41).bind (fun m59 => some m59))) rfl (mz_fe (e := (77, .invokestatic 52, 84, (104, 1, 1000), [])) (by decide +kernel)) rfl (mz_inv_stat (N := 104) (k := 1) (st := [.int v38]) (rest := []) (vs := [.int v38]) (h := (mz_S0, m37)) rfl rfl (Nat.le_of_ble_eq_true rfl) (Nat.le_of_ble_eq_true rfl)) (mz_dc_lt (n := 1) rfl (by decide +kernel) (by decide +kernel)) (by decide +kernel) (Or.inr (by decide +kernel)) (fun v42 m41 => ?_)
        refine q_if (c := .eq) (off := 11) (t := 91) (x := v42) (y := 0) (st := []) (mz_fe (e := (80, .ifCond .eq 11, 3, (0, 0, 0), [])) (by decide +kernel)) (fun _ => rfl) rfl rfl rfl (fun c44 => ?_) (fun c44 => ?_)
        · refine q_o (mz_fe (e := (91, .iload_n 2, 1, (0, 0, 0), [])) (by decide +kernel)) (pc2 := 92) rfl ?_
          refine q_callI (N := 105) (vs := [.int v38]) (rest := []) (L' := [some (.ref 23), some (.int (mz_rd m33 23 5)), some (.int v38), none]) (f := fun v46 m45 => if v46 = 0 then (if (0 : Int32) ≤ (mz_ixF (((v38 : Int32).toUInt32 % 65536).toInt32) (mz_sb 1000002) 0) then ((R_X9_keep d ((4 : Int32) + (mz_ixF (((v38 : Int32).toUInt32 % 65536).toInt32) (mz_sb 1000002) 0)) (mz_rd m33 23 5) 0 (mz_wr m45 23 5 ((mz_rd m45 23 5) + 1))).bind (fun m50 => some m50)) else ((R_X9_keep d 1 (mz_rd m33 23 5) 0 (mz_wr m45 23 5 ((mz_rd m45 23 5) + 1))).bind (fun m53 => some m53))) else ((R_X9_cutInt d (mz_rd m33 23 5) m45).bind (fun m56 => some m56))) rfl (mz_fe (e := (92, .invokestatic 59, 86, (105, 1, 1000), [])) (by decide +kernel)) rfl (mz_inv_stat (N := 105) (k := 1) (st := [.int v38]) (rest := []) (vs := [.int v38]) (h := (mz_S0, m41)) rfl rfl (Nat.le_of_ble_eq_true rfl) (Nat.le_of_ble_eq_true rfl)) (mz_dc_lt (n := 1) rfl (by decide +kernel) (by decide +kernel)) (by decide +kernel) (Or.inr (by decide +kernel)) (fun v46 m45 => ?_)
          refine q_if (c := .eq) (off := 11) (t := 106) (x := v46) (y := 0) (st := []) (mz_fe (e := (95, .ifCond .eq 11, 3, (0, 0, 0), [])) (by decide +kernel)) (fun _ => rfl) rfl rfl rfl (fun c48 => ?_) (fun c48 => ?_)
          · refine q_o (mz_fe (e := (106, .ldc 65, 2, (2, 0, 1), [])) (by decide +kernel)) (pc2 := 108) (st2 := [.ref 1000002]) rfl ?_
            refine q_o (mz_fe (e := (108, .iload_n 2, 1, (0, 0, 0), [])) (by decide +kernel)) (pc2 := 109) rfl ?_
            refine q_o (mz_fe (e := (109, .i2c, 1, (0, 0, 0), [])) (by decide +kernel)) (pc2 := 110) rfl ?_
            refine q_six (mz_fe (e := (110, .invokevirtual 67, 3, (9992, 0, 0), [])) (by decide +kernel)) (by decide) (Nat.le_of_ble_eq_true rfl) ?_
            refine q_s (mz_fe (e := (113, .istore_n 3, 1, (0, 0, 0), [])) (by decide +kernel)) (pc' := 114) (L' := [some (.ref 23), some (.int (mz_rd m33 23 5)), some (.int v38), some (.int (mz_ixF (((v38 : Int32).toUInt32 % 65536).toInt32) (mz_sb 1000002) 0))]) (st' := []) rfl ?_
            refine q_o (mz_fe (e := (114, .aload_n 0, 1, (0, 0, 0), [])) (by decide +kernel)) (pc2 := 115) rfl ?_
            refine q_o (mz_fe (e := (115, .dup, 1, (0, 0, 0), [])) (by decide +kernel)) (pc2 := 116) rfl ?_
            refine q_getI (mz_fe (e := (116, .getfield 27, 79, (9, 5, 0), [])) (by decide +kernel)) rfl (by decide) tg_23 (by rw [ln_23]; decide) ?_
            refine q_ic (v := 1) (mz_fe (e := (119, .iconst 1, 1, (0, 0, 0), [])) (by decide +kernel)) (by decide) ?_
            refine q_o (mz_fe (e := (120, .iadd, 1, (0, 0, 0), [])) (by decide +kernel)) (pc2 := 121) rfl ?_
            refine q_putI (mz_fe (e := (121, .putfield 27, 79, (9, 5, 0), [])) (by decide +kernel)) rfl tg_23 (by rw [ln_23]; decide) ?_
            refine q_o (mz_fe (e := (124, .aload_n 0, 1, (0, 0, 0), [])) (by decide +kernel)) (pc2 := 125) rfl ?_
            refine q_o (mz_fe (e := (125, .iload_n 3, 1, (0, 0, 0), [])) (by decide +kernel)) (pc2 := 126) rfl ?_
            refine q_if (c := .ge) (off := 7) (t := 133) (x := (mz_ixF (((v38 : Int32).toUInt32 % 65536).toInt32) (mz_sb 1000002) 0)) (y := 0) (st := [.ref 23]) (mz_fe (e := (126, .ifCond .ge 7, 3, (0, 0, 0), [])) (by decide +kernel)) (fun _ => rfl) rfl rfl rfl (fun c49 => ?_) (fun c49 => ?_)
            · refine q_ic (v := 4) (mz_fe (e := (133, .iconst 4, 1, (0, 0, 0), [])) (by decide +kernel)) (by decide) ?_
              refine q_o (mz_fe (e := (134, .iload_n 3, 1, (0, 0, 0), [])) (by decide +kernel)) (pc2 := 135) rfl ?_
              refine q_o (mz_fe (e := (135, .iadd, 1, (0, 0, 0), [])) (by decide +kernel)) (pc2 := 136) rfl ?_
              refine q_o (mz_fe (e := (136, .iload_n 1, 1, (0, 0, 0), [])) (by decide +kernel)) (pc2 := 137) rfl ?_
              refine q_o (mz_fe (e := (137, .lconst 0, 1, (0, 0, 0), [])) (by decide +kernel)) (pc2 := 138) (st2 := [.long 0, .int (mz_rd m33 23 5), .int ((4 : Int32) + (mz_ixF (((v38 : Int32).toUInt32 % 65536).toInt32) (mz_sb 1000002) 0)), .ref 23]) rfl ?_
              refine q_callV (N := 98) (vs := [.ref 23, .int ((4 : Int32) + (mz_ixF (((v38 : Int32).toUInt32 % 65536).toInt32) (mz_sb 1000002) 0)), .int (mz_rd m33 23 5), .long 0]) (rest := []) (L' := [some (.ref 23), some (.int (mz_rd m33 23 5)), some (.int v38), some (.int (mz_ixF (((v38 : Int32).toUInt32 % 65536).toInt32) (mz_sb 1000002) 0))]) rfl (mz_fe (e := (138, .invokevirtual 48, 83, (98, 4, 15), [])) (by decide +kernel)) rfl (mz_inv_virt (N := 98) (k := 4) (t := 15) (st := [.long 0, .int (mz_rd m33 23 5), .int ((4 : Int32) + (mz_ixF (((v38 : Int32).toUInt32 % 65536).toInt32) (mz_sb 1000002) 0)), .ref 23]) (rest := []) (b := 23) (vs := [.int ((4 : Int32) + (mz_ixF (((v38 : Int32).toUInt32 % 65536).toInt32) (mz_sb 1000002) 0)), .int (mz_rd m33 23 5), .long 0]) (h := (mz_S0, (mz_wr m45 23 5 ((mz_rd m45 23 5) + 1)))) rfl rfl (Nat.le_of_ble_eq_true rfl) (Nat.le_of_ble_eq_true rfl) tg_23 (by decide)) (mz_dc_lt (n := 5) rfl (by decide +kernel) (by decide +kernel)) (by decide +kernel) (by decide +kernel) (fun m50 => ?_)
              exact q_retV (mz_fe (e := (141, .return_, 1, (0, 0, 0), [])) (by decide +kernel)) (by decide +kernel)
            · refine q_ic (v := 1) (mz_fe (e := (129, .iconst 1, 1, (0, 0, 0), [])) (by decide +kernel)) (by decide) ?_
              refine q_o (mz_fe (e := (130, .goto 6, 3, (0, 0, 0), [])) (by decide +kernel)) (pc2 := 136) rfl ?_
              refine q_o (mz_fe (e := (136, .iload_n 1, 1, (0, 0, 0), [])) (by decide +kernel)) (pc2 := 137) rfl ?_
              refine q_o (mz_fe (e := (137, .lconst 0, 1, (0, 0, 0), [])) (by decide +kernel)) (pc2 := 138) (st2 := [.long 0, .int (mz_rd m33 23 5), .int 1, .ref 23]) rfl ?_
              refine q_callV (N := 98) (vs := [.ref 23, .int 1, .int (mz_rd m33 23 5), .long 0]) (rest := []) (L' := [some (.ref 23), some (.int (mz_rd m33 23 5)), some (.int v38), some (.int (mz_ixF (((v38 : Int32).toUInt32 % 65536).toInt32) (mz_sb 1000002) 0))]) rfl (mz_fe (e := (138, .invokevirtual 48, 83, (98, 4, 15), [])) (by decide +kernel)) rfl (mz_inv_virt (N := 98) (k := 4) (t := 15) (st := [.long 0, .int (mz_rd m33 23 5), .int 1, .ref 23]) (rest := []) (b := 23) (vs := [.int 1, .int (mz_rd m33 23 5), .long 0]) (h := (mz_S0, (mz_wr m45 23 5 ((mz_rd m45 23 5) + 1)))) rfl rfl (Nat.le_of_ble_eq_true rfl) (Nat.le_of_ble_eq_true rfl) tg_23 (by decide)) (mz_dc_lt (n := 5) rfl (by decide +kernel) (by decide +kernel)) (by decide +kernel) (by decide +kernel) (fun m53 => ?_)
              exact q_retV (mz_fe (e := (141, .return_, 1, (0, 0, 0), [])) (by decide +kernel)) (by decide +kernel)
          · refine q_o (mz_fe (e := (98, .aload_n 0, 1, (0, 0, 0), [])) (by decide +kernel)) (pc2 := 99) rfl ?_
            refine q_o (mz_fe (e := (99, .iload_n 1, 1, (0, 0, 0), [])) (by decide +kernel)) (pc2 := 100) rfl ?_
            refine q_callV (N := 100) (vs := [.ref 23, .int (mz_rd m33 23 5)]) (rest := []) (L' := [some (.ref 23), some (.int (mz_rd m33 23 5)), some (.int v38), none]) rfl (mz_fe (e := (100, .invokevirtual 62, 87, (100, 2, 15), [])) (by decide +kernel)) rfl (mz_inv_virt (N := 100) (k := 2) (t := 15) (st := [.int (mz_rd m33 23 5), .ref 23]) (rest := []) (b := 23) (vs := [.int (mz_rd m33 23 5)]) (h := (mz_S0, m45)) rfl rfl (Nat.le_of_ble_eq_true rfl) (Nat.le_of_ble_eq_true rfl) tg_23 (by decide)) (mz_dc_lt (n := 2) rfl (by decide +kernel) (by decide +kernel)) (by decide +kernel) (by decide +kernel) (fun m56 => ?_)
            refine q_o (mz_fe (e := (103, .goto 38, 3, (0, 0, 0), [])) (by decide +kernel)) (pc2 := 141) rfl ?_
            exact q_retV (mz_fe (e := (141, .return_, 1, (0, 0, 0), [])) (by decide +kernel)) (by decide +kernel)
        · refine q_o (mz_fe (e := (83, .aload_n 0, 1, (0, 0, 0), [])) (by decide +kernel)) (pc2 := 84) rfl ?_
          refine q_o (mz_fe (e := (84, .iload_n 1, 1, (0, 0, 0), [])) (by decide +kernel)) (pc2 := 85) rfl ?_
          refine q_callV (N := 99) (vs := [.ref 23, .int (mz_rd m33 23 5)]) (rest := []) (L' := [some (.ref 23), some (.int (mz_rd m33 23 5)), some (.int v38), none]) rfl (mz_fe (e := (85, .invokevirtual 55, 85, (99, 2, 15), [])) (by decide +kernel)) rfl (mz_inv_virt (N := 99) (k := 2) (t := 15) (st := [.int (mz_rd m33 23 5), .ref 23]) (rest := []) (b := 23) (vs := [.int (mz_rd m33 23 5)]) (h := (mz_S0, m41)) rfl rfl (Nat.le_of_ble_eq_true rfl) (Nat.le_of_ble_eq_true rfl) tg_23 (by decide)) (mz_dc_lt (n := 2) rfl (by decide +kernel) (by decide +kernel)) (by decide +kernel) (by decide +kernel) (fun m59 => ?_)
          refine q_o (mz_fe (e := (88, .goto 53, 3, (0, 0, 0), [])) (by decide +kernel)) (pc2 := 141) rfl ?_
          exact q_retV (mz_fe (e := (141, .return_, 1, (0, 0, 0), [])) (by decide +kernel)) (by decide +kernel)
      · refine q_o (mz_fe (e := (66, .aload_n 0, 1, (0, 0, 0), [])) (by decide +kernel)) (pc2 := 67) rfl ?_
        refine q_ic (v := 0) (mz_fe (e := (67, .iconst 0, 1, (0, 0, 0), [])) (by decide +kernel)) (by decide) ?_
        refine q_o (mz_fe (e := (68, .iload_n 1, 1, (0, 0, 0), [])) (by decide +kernel)) (pc2 := 69) rfl ?_
        refine q_o (mz_fe (e := (69, .lconst 0, 1, (0, 0, 0), [])) (by decide +kernel)) (pc2 := 70) (st2 := [.long 0, .int (mz_rd m33 23 5), .int 0, .ref 23]) rfl ?_
        refine q_callV (N := 98) (vs := [.ref 23, .int 0, .int (mz_rd m33 23 5), .long 0]) (rest := []) (L' := [some (.ref 23), some (.int (mz_rd m33 23 5)), some (.int v38), none]) rfl (mz_fe (e := (70, .invokevirtual 48, 83, (98, 4, 15), [])) (by decide +kernel)) rfl (mz_inv_virt (N := 98) (k := 4) (t := 15) (st := [.long 0, .int (mz_rd m33 23 5), .int 0, .ref 23]) (rest := []) (b := 23) (vs := [.int 0, .int (mz_rd m33 23 5), .long 0]) (h := (mz_S0, m37)) rfl rfl (Nat.le_of_ble_eq_true rfl) (Nat.le_of_ble_eq_true rfl) tg_23 (by decide)) (mz_dc_lt (n := 5) rfl (by decide +kernel) (by decide +kernel)) (by decide +kernel) (by decide +kernel) (fun m62 => ?_)
        refine q_o (mz_fe (e := (73, .goto 68, 3, (0, 0, 0), [])) (by decide +kernel)) (pc2 := 141) rfl ?_
        exact q_retV (mz_fe (e := (141, .return_, 1, (0, 0, 0), [])) (by decide +kernel)) (by decide +kernel)
    · refine q_o (mz_fe (e := (31, .aload_n 0, 1, (0, 0, 0), [])) (by decide +kernel)) (pc2 := 32) rfl ?_
      refine q_o (mz_fe (e := (32, .dup, 1, (0, 0, 0), [])) (by decide +kernel)) (pc2 := 33) rfl ?_
      refine q_getI (mz_fe (e := (33, .getfield 27, 79, (9, 5, 0), [])) (by decide +kernel)) rfl (by decide) tg_23 (by rw [ln_23]; decide) ?_
      refine q_ic (v := 1) (mz_fe (e := (36, .iconst 1, 1, (0, 0, 0), [])) (by decide +kernel)) (by decide) ?_
      refine q_o (mz_fe (e := (37, .iadd, 1, (0, 0, 0), [])) (by decide +kernel)) (pc2 := 38) rfl ?_
      refine q_putI (mz_fe (e := (38, .putfield 27, 79, (9, 5, 0), [])) (by decide +kernel)) rfl tg_23 (by rw [ln_23]; decide) ?_
      refine q_o (mz_fe (e := (41, .goto (-41), 3, (0, 0, 0), [])) (by decide +kernel)) (pc2 := 0) rfl ?_
      exact congrArg mz_cV (mz_At_msk (L := [some (.ref 23), none, none, none]) (L2 := [some (.ref 23), none, none, none]) (mz_fe (e := (0, .aload_n 0, 1, (0, 0, 0), [true, false, false, false])) (by decide +kernel)) rfl rfl)
set_option maxRecDepth 10000 in
theorem H_X9_cutOne_0_eq (d : Nat)  (m : MzM)  : H_X9_cutOne_0 d  m = if (mz_rd m 2 1) ≤ (mz_rd m 23 5) then ((R_X7_byteAt d (mz_rd m 23 5) m).bind (fun u68 => if ¬ u68.1 = (-1) then ((R_X9_isLetter d u68.1 u68.2).bind (fun u72 => if u72.1 = 0 then ((R_X9_isDigit d u68.1 u72.2).bind (fun u76 => if u76.1 = 0 then (if (0 : Int32) ≤ (mz_ixF (((u68.1 : Int32).toUInt32 % 65536).toInt32) (mz_sb 1000002) 0) then ((R_X9_keep d ((4 : Int32) + (mz_ixF (((u68.1 : Int32).toUInt32 % 65536).toInt32) (mz_sb 1000002) 0)) (mz_rd m 23 5) 0 (mz_wr u76.2 23 5 ((mz_rd u76.2 23 5) + 1))).bind (fun m79 => some m79)) else ((R_X9_keep d 1 (mz_rd m 23 5) 0 (mz_wr u76.2 23 5 ((mz_rd u76.2 23 5) + 1))).bind (fun m82 => some m82))) else ((R_X9_cutInt d (mz_rd m 23 5) u76.2).bind (fun m85 => some m85)))) else ((R_X9_cutWord d (mz_rd m 23 5) u72.2).bind (fun m88 => some m88)))) else ((R_X9_keep d 0 (mz_rd m 23 5) 0 u68.2).bind (fun m91 => some m91)))) else ((R_X7_byteAt d (mz_rd m 23 5) m).bind (fun u96 => (R_X9_isBlank d u96.1 u96.2).bind (fun u99 => if u99.1 = 0 then ((R_X7_byteAt d (mz_rd u99.2 23 5) u99.2).bind (fun u103 => if ¬ u103.1 = (-1) then ((R_X9_isLetter d u103.1 u103.2).bind (fun u107 => if u107.1 = 0 then ((R_X9_isDigit d u103.1 u107.2).bind (fun u111 => if u111.1 = 0 then (if (0 : Int32) ≤ (mz_ixF (((u103.1 : Int32).toUInt32 % 65536).toInt32) (mz_sb 1000002) 0) then ((R_X9_keep d ((4 : Int32) + (mz_ixF (((u103.1 : Int32).toUInt32 % 65536).toInt32) (mz_sb 1000002) 0)) (mz_rd u99.2 23 5) 0 (mz_wr u111.2 23 5 ((mz_rd u111.2 23 5) + 1))).bind (fun m114 => some m114)) else ((R_X9_keep d 1 (mz_rd u99.2 23 5) 0 (mz_wr u111.2 23 5 ((mz_rd u111.2 23 5) + 1))).bind (fun m117 => some m117))) else ((R_X9_cutInt d (mz_rd u99.2 23 5) u111.2).bind (fun m120 => some m120)))) else ((R_X9_cutWord d (mz_rd u99.2 23 5) u107.2).bind (fun m123 => some m123)))) else ((R_X9_keep d 0 (mz_rd u99.2 23 5) 0 u103.2).bind (fun m126 => some m126)))) else (H_X9_cutOne_0 d  (mz_wr u99.2 23 5 ((mz_rd u99.2 23 5) + 1)))))) := by
  show mz_cV (mz_T d 97 0 [some (.ref 23), none, none, none] [] m) = _
  refine q_s (mz_fe (e := (0, .aload_n 0, 1, (0, 0, 0), [true, false, false, false])) (by decide +kernel)) (pc' := 1) (L' := [some (.ref 23), none, none, none]) (st' := [.ref 23]) rfl ?_
  refine q_getI (mz_fe (e := (1, .getfield 27, 79, (9, 5, 0), [])) (by decide +kernel)) rfl (by decide) tg_23 (by rw [ln_23]; decide) ?_
  refine q_o (mz_fe (e := (4, .aload_n 0, 1, (0, 0, 0), [])) (by decide +kernel)) (pc2 := 5) rfl ?_
  refine q_getR (b := 2) (mz_fe (e := (5, .getfield 23, 78, (9, 0, 2), [])) (by decide +kernel)) rfl tg_23 (by rw [ln_23]; decide) (mz_rfS (by decide +kernel)) ?_
  refine q_getI (mz_fe (e := (8, .getfield 37, 81, (7, 1, 0), [])) (by decide +kernel)) rfl (by decide) tg_2 (by rw [ln_2]; decide) ?_
  refine q_if (c := .ge) (off := 33) (t := 44) (x := (mz_rd m 23 5)) (y := (mz_rd m 2 1)) (st := []) (mz_fe (e := (11, .if_icmp .ge 33, 3, (0, 0, 0), [])) (by decide +kernel)) (fun _ => rfl) rfl rfl rfl (fun c65 => ?_) (fun c65 => ?_)
  · refine q_o (mz_fe (e := (44, .aload_n 0, 1, (0, 0, 0), [])) (by decide +kernel)) (pc2 := 45) rfl ?_
    refine q_getI (mz_fe (e := (45, .getfield 27, 79, (9, 5, 0), [])) (by decide +kernel)) rfl (by decide) tg_23 (by rw [ln_23]; decide) ?_
    refine q_s (mz_fe (e := (48, .istore_n 1, 1, (0, 0, 0), [])) (by decide +kernel)) (pc' := 49) (L' := [some (.ref 23), some (.int (mz_rd m 23 5)), none, none]) (st' := []) rfl ?_
    refine q_o (mz_fe (e := (49, .aload_n 0, 1, (0, 0, 0), [])) (by decide +kernel)) (pc2 := 50) rfl ?_
    refine q_getR (b := 2) (mz_fe (e := (50, .getfield 23, 78, (9, 0, 2), [])) (by decide +kernel)) rfl tg_23 (by rw [ln_23]; decide) (mz_rfS (by decide +kernel)) ?_
    refine q_o (mz_fe (e := (53, .aload_n 0, 1, (0, 0, 0), [])) (by decide +kernel)) (pc2 := 54) rfl ?_
    refine q_getI (mz_fe (e := (54, .getfield 27, 79, (9, 5, 0), [])) (by decide +kernel)) rfl (by decide) tg_23 (by rw [ln_23]; decide) ?_
    refine q_callI (N := 80) (vs := [.ref 2, .int (mz_rd m 23 5)]) (rest := []) (L' := [some (.ref 23), some (.int (mz_rd m 23 5)), none, none]) (f := fun v67 m66 => if ¬ v67 = (-1) then ((R_X9_isLetter d v67 m66).bind (fun u72 => if u72.1 = 0 then ((R_X9_isDigit d v67 u72.2).bind (fun u76 => if u76.1 = 0 then (if (0 : Int32) ≤ (mz_ixF (((v67 : Int32).toUInt32 % 65536).toInt32) (mz_sb 1000002) 0) then ((R_X9_keep d ((4 : Int32) + (mz_ixF (((v67 : Int32).toUInt32 % 65536).toInt32) (mz_sb 1000002) 0)) (mz_rd m 23 5) 0 (mz_wr u76.2 23 5 ((mz_rd u76.2 23 5) + 1))).bind (fun m79 => some m79)) else ((R_X9_keep d 1 (mz_rd m 23 5) 0 (mz_wr u76.2 23 5 ((mz_rd u76.2 23 5) + 1))).bind (fun m82 => some m82))) else ((R_X9_cutInt d (mz_rd m 23 5) u76.2).bind (fun m85 => some m85)))) else ((R_X9_cutWord d (mz_rd m 23 5) u72.2).bind (fun m88 => some m88)))) else ((R_X9_keep d 0 (mz_rd m 23 5) 0 m66).bind (fun m91 => some m91))) rfl (mz_fe (e := (57, .invokevirtual 40, 81, (80, 2, 13), [])) (by decide +kernel)) rfl (mz_inv_virt (N := 80) (k := 2) (t := 13) (st := [.int (mz_rd m 23 5), .ref 2]) (rest := []) (b := 2) (vs := [.int (mz_rd m 23 5)]) (h := (mz_S0, m)) rfl rfl (Nat.le_of_ble_eq_true rfl) (Nat.le_of_ble_eq_true rfl) tg_2 (by decide)) (mz_dc_lt (n := 2) rfl (by decide +kernel) (by decide +kernel)) (by decide +kernel) (Or.inl (by decide +kernel)) (fun v67 m66 => ?_)
    refine q_s (mz_fe (e := (60, .istore_n 2, 1, (0, 0, 0), [])) (by decide +kernel)) (pc' := 61) (L' := [some (.ref 23), some (.int (mz_rd m 23 5)), some (.int v67), none]) (st' := []) rfl ?_
    refine q_o (mz_fe (e := (61, .iload_n 2, 1, (0, 0, 0), [])) (by decide +kernel)) (pc2 := 62) rfl ?_
    refine q_ic (v := (-1)) (mz_fe (e := (62, .iconst (-1), 1, (0, 0, 0), [])) (by decide +kernel)) (by decide) ?_
    refine q_if (c := .ne) (off := 13) (t := 76) (x := v67) (y := (-1)) (st := []) (mz_fe (e := (63, .if_icmp .ne 13, 3, (0, 0, 0), [])) (by decide +kernel)) (fun _ => rfl) rfl rfl rfl (fun c69 => ?_) (fun c69 => ?_)
    · refine q_o (mz_fe (e := (76, .iload_n 2, 1, (0, 0, 0), [])) (by decide +kernel)) (pc2 := 77) rfl ?_
      refine q_callI (N := 104) (vs := [.int v67]) (rest := []) (L' := [some (.ref 23), some (.int (mz_rd m 23 5)), some (.int v67), none]) (f := fun v71 m70 => if v71 = 0 then ((R_X9_isDigit d v67 m70).bind (fun u76 => if u76.1 = 0 then (if (0 : Int32) ≤ (mz_ixF (((v67 : Int32).toUInt32 % 65536).toInt32) (mz_sb 1000002) 0) then ((R_X9_keep d ((4 : Int32) + (mz_ixF (((v67 : Int32).toUInt32 % 65536).toInt32) (mz_sb 1000002) 0)) (mz_rd m 23 5) 0 (mz_wr u76.2 23 5 ((mz_rd u76.2 23 5) + 1))).bind (fun m79 => some m79)) else ((R_X9_keep d 1 (mz_rd m 23 5) 0 (mz_wr u76.2 23 5 ((mz_rd u76.2 23 5) + 1))).bind (fun m82 => some m82))) else ((R_X9_cutInt d (mz_rd m 23 5) u76.2).bind (fun m85 => some m85)))) else ((R_X9_cutWord d (mz_rd m 23 5) m70).bind (fun m88 => some m88))) rfl (mz_fe (e := (77, .invokestatic 52, 84, (104, 1, 1000), [])) (by decide +kernel)) rfl (mz_inv_stat (N := 104) (k := 1) (st := [.int v67]) (rest := []) (vs := [.int v67]) (h := (mz_S0, m66)) rfl rfl (Nat.le_of_ble_eq_true rfl) (Nat.le_of_ble_eq_true rfl)) (mz_dc_lt (n := 1) rfl (by decide +kernel) (by decide +kernel)) (by decide +kernel) (Or.inr (by decide +kernel)) (fun v71 m70 => ?_)
      refine q_if (c := .eq) (off := 11) (t := 91) (x := v71) (y := 0) (st := []) (mz_fe (e := (80, .ifCond .eq 11, 3, (0, 0, 0), [])) (by decide +kernel)) (fun _ => rfl) rfl rfl rfl (fun c73 => ?_) (fun c73 => ?_)
      · refine q_o (mz_fe (e := (91, .iload_n 2, 1, (0, 0, 0), [])) (by decide +kernel)) (pc2 := 92) rfl ?_
        refine q_callI (N := 105) (vs := [.int v67]) (rest := []) (L' := [some (.ref 23), some (.int (mz_rd m 23 5)), some (.int v67), none]) (f := fun v75 m74 => if v75 = 0 then (if (0 : Int32) ≤ (mz_ixF (((v67 : Int32).toUInt32 % 65536).toInt32) (mz_sb 1000002) 0) then ((R_X9_keep d ((4 : Int32) + (mz_ixF (((v67 : Int32).toUInt32 % 65536).toInt32) (mz_sb 1000002) 0)) (mz_rd m 23 5) 0 (mz_wr m74 23 5 ((mz_rd m74 23 5) + 1))).bind (fun m79 => some m79)) else ((R_X9_keep d 1 (mz_rd m 23 5) 0 (mz_wr m74 23 5 ((mz_rd m74 23 5) + 1))).bind (fun m82 => some m82))) else ((R_X9_cutInt d (mz_rd m 23 5) m74).bind (fun m85 => some m85))) rfl (mz_fe (e := (92, .invokestatic 59, 86, (105, 1, 1000), [])) (by decide +kernel)) rfl (mz_inv_stat (N := 105) (k := 1) (st := [.int v67]) (rest := []) (vs := [.int v67]) (h := (mz_S0, m70)) rfl rfl (Nat.le_of_ble_eq_true rfl) (Nat.le_of_ble_eq_true rfl)) (mz_dc_lt (n := 1) rfl (by decide +kernel) (by decide +kernel)) (by decide +kernel) (Or.inr (by decide +kernel)) (fun v75 m74 => ?_)
        refine q_if (c := .eq) (off := 11) (t := 106) (x := v75) (y := 0) (st := []) (mz_fe (e := (95, .ifCond .eq 11, 3, (0, 0, 0), [])) (by decide +kernel)) (fun _ => rfl) rfl rfl rfl (fun c77 => ?_) (fun c77 => ?_)
        · refine q_o (mz_fe (e := (106, .ldc 65, 2, (2, 0, 1), [])) (by decide +kernel)) (pc2 := 108) (st2 := [.ref 1000002]) rfl ?_
          refine q_o (mz_fe (e := (108, .iload_n 2, 1, (0, 0, 0), [])) (by decide +kernel)) (pc2 := 109) rfl ?_
          refine q_o (mz_fe (e := (109, .i2c, 1, (0, 0, 0), [])) (by decide +kernel)) (pc2 := 110) rfl ?_
          refine q_six (mz_fe (e := (110, .invokevirtual 67, 3, (9992, 0, 0), [])) (by decide +kernel)) (by decide) (Nat.le_of_ble_eq_true rfl) ?_
          refine q_s (mz_fe (e := (113, .istore_n 3, 1, (0, 0, 0), [])) (by decide +kernel)) (pc' := 114) (L' := [some (.ref 23), some (.int (mz_rd m 23 5)), some (.int v67), some (.int (mz_ixF (((v67 : Int32).toUInt32 % 65536).toInt32) (mz_sb 1000002) 0))]) (st' := []) rfl ?_
          refine q_o (mz_fe (e := (114, .aload_n 0, 1, (0, 0, 0), [])) (by decide +kernel)) (pc2 := 115) rfl ?_
          refine q_o (mz_fe (e := (115, .dup, 1, (0, 0, 0), [])) (by decide +kernel)) (pc2 := 116) rfl ?_
          refine q_getI (mz_fe (e := (116, .getfield 27, 79, (9, 5, 0), [])) (by decide +kernel)) rfl (by decide) tg_23 (by rw [ln_23]; decide) ?_
          refine q_ic (v := 1) (mz_fe (e := (119, .iconst 1, 1, (0, 0, 0), [])) (by decide +kernel)) (by decide) ?_
          refine q_o (mz_fe (e := (120, .iadd, 1, (0, 0, 0), [])) (by decide +kernel)) (pc2 := 121) rfl ?_
          refine q_putI (mz_fe (e := (121, .putfield 27, 79, (9, 5, 0), [])) (by decide +kernel)) rfl tg_23 (by rw [ln_23]; decide) ?_
          refine q_o (mz_fe (e := (124, .aload_n 0, 1, (0, 0, 0), [])) (by decide +kernel)) (pc2 := 125) rfl ?_
          refine q_o (mz_fe (e := (125, .iload_n 3, 1, (0, 0, 0), [])) (by decide +kernel)) (pc2 := 126) rfl ?_
          refine q_if (c := .ge) (off := 7) (t := 133) (x := (mz_ixF (((v67 : Int32).toUInt32 % 65536).toInt32) (mz_sb 1000002) 0)) (y := 0) (st := [.ref 23]) (mz_fe (e := (126, .ifCond .ge 7, 3, (0, 0, 0), [])) (by decide +kernel)) (fun _ => rfl) rfl rfl rfl (fun c78 => ?_) (fun c78 => ?_)
          · refine q_ic (v := 4) (mz_fe (e := (133, .iconst 4, 1, (0, 0, 0), [])) (by decide +kernel)) (by decide) ?_
            refine q_o (mz_fe (e := (134, .iload_n 3, 1, (0, 0, 0), [])) (by decide +kernel)) (pc2 := 135) rfl ?_
            refine q_o (mz_fe (e := (135, .iadd, 1, (0, 0, 0), [])) (by decide +kernel)) (pc2 := 136) rfl ?_
            refine q_o (mz_fe (e := (136, .iload_n 1, 1, (0, 0, 0), [])) (by decide +kernel)) (pc2 := 137) rfl ?_
            refine q_o (mz_fe (e := (137, .lconst 0, 1, (0, 0, 0), [])) (by decide +kernel)) (pc2 := 138) (st2 := [.long 0, .int (mz_rd m 23 5), .int ((4 : Int32) + (mz_ixF (((v67 : Int32).toUInt32 % 65536).toInt32) (mz_sb 1000002) 0)), .ref 23]) rfl ?_
            refine q_callV (N := 98) (vs := [.ref 23, .int ((4 : Int32) + (mz_ixF (((v67 : Int32).toUInt32 % 65536).toInt32) (mz_sb 1000002) 0)), .int (mz_rd m 23 5), .long 0]) (rest := []) (L' := [some (.ref 23), some (.int (mz_rd m 23 5)), some (.int v67), some (.int (mz_ixF (((v67 : Int32).toUInt32 % 65536).toInt32) (mz_sb 1000002) 0))]) rfl (mz_fe (e := (138, .invokevirtual 48, 83, (98, 4, 15), [])) (by decide +kernel)) rfl (mz_inv_virt (N := 98) (k := 4) (t := 15) (st := [.long 0, .int (mz_rd m 23 5), .int ((4 : Int32) + (mz_ixF (((v67 : Int32).toUInt32 % 65536).toInt32) (mz_sb 1000002) 0)), .ref 23]) (rest := []) (b := 23) (vs := [.int ((4 : Int32) + (mz_ixF (((v67 : Int32).toUInt32 % 65536).toInt32) (mz_sb 1000002) 0)), .int (mz_rd m 23 5), .long 0]) (h := (mz_S0, (mz_wr m74 23 5 ((mz_rd m74 23 5) + 1)))) rfl rfl (Nat.le_of_ble_eq_true rfl) (Nat.le_of_ble_eq_true rfl) tg_23 (by decide)) (mz_dc_lt (n := 5) rfl (by decide +kernel) (by decide +kernel)) (by decide +kernel) (by decide +kernel) (fun m79 => ?_)
            exact q_retV (mz_fe (e := (141, .return_, 1, (0, 0, 0), [])) (by decide +kernel)) (by decide +kernel)
          · refine q_ic (v := 1) (mz_fe (e := (129, .iconst 1, 1, (0, 0, 0), [])) (by decide +kernel)) (by decide) ?_
            refine q_o (mz_fe (e := (130, .goto 6, 3, (0, 0, 0), [])) (by decide +kernel)) (pc2 := 136) rfl ?_
            refine q_o (mz_fe (e := (136, .iload_n 1, 1, (0, 0, 0), [])) (by decide +kernel)) (pc2 := 137) rfl ?_
            refine q_o (mz_fe (e := (137, .lconst 0, 1, (0, 0, 0), [])) (by decide +kernel)) (pc2 := 138) (st2 := [.long 0, .int (mz_rd m 23 5), .int 1, .ref 23]) rfl ?_
            refine q_callV (N := 98) (vs := [.ref 23, .int 1, .int (mz_rd m 23 5), .long 0]) (rest := []) (L' := [some (.ref 23), some (.int (mz_rd m 23 5)), some (.int v67), some (.int (mz_ixF (((v67 : Int32).toUInt32 % 65536).toInt32) (mz_sb 1000002) 0))]) rfl (mz_fe (e := (138, .invokevirtual 48, 83, (98, 4, 15), [])) (by decide +kernel)) rfl (mz_inv_virt (N := 98) (k := 4) (t := 15) (st := [.long 0, .int (mz_rd m 23 5), .int 1, .ref 23]) (rest := []) (b := 23) (vs := [.int 1, .int (mz_rd m 23 5), .long 0]) (h := (mz_S0, (mz_wr m74 23 5 ((mz_rd m74 23 5) + 1)))) rfl rfl (Nat.le_of_ble_eq_true rfl) (Nat.le_of_ble_eq_true rfl) tg_23 (by decide)) (mz_dc_lt (n := 5) rfl (by decide +kernel) (by decide +kernel)) (by decide +kernel) (by decide +kernel) (fun m82 => ?_)
            exact q_retV (mz_fe (e := (141, .return_, 1, (0, 0, 0), [])) (by decide +kernel)) (by decide +kernel)
        · refine q_o (mz_fe (e := (98, .aload_n 0, 1, (0, 0, 0), [])) (by decide +kernel)) (pc2 := 99) rfl ?_
          refine q_o (mz_fe (e := (99, .iload_n 1, 1, (0, 0, 0), [])) (by decide +kernel)) (pc2 := 100) rfl ?_
          refine q_callV (N := 100) (vs := [.ref 23, .int (mz_rd m 23 5)]) (rest := []) (L' := [some (.ref 23), some (.int (mz_rd m 23 5)), some (.int v67), none]) rfl (mz_fe (e := (100, .invokevirtual 62, 87, (100, 2, 15), [])) (by decide +kernel)) rfl (mz_inv_virt (N := 100) (k := 2) (t := 15) (st := [.int (mz_rd m 23 5), .ref 23]) (rest := []) (b := 23) (vs := [.int (mz_rd m 23 5)]) (h := (mz_S0, m74)) rfl rfl (Nat.le_of_ble_eq_true rfl) (Nat.le_of_ble_eq_true rfl) tg_23 (by decide)) (mz_dc_lt (n := 2) rfl (by decide +kernel) (by decide +kernel)) (by decide +kernel) (by decide +kernel) (fun m85 => ?_)
          refine q_o (mz_fe (e := (103, .goto 38, 3, (0, 0, 0), [])) (by decide +kernel)) (pc2 := 141) rfl ?_
          exact q_retV (mz_fe (e := (141, .return_, 1, (0, 0, 0), [])) (by decide +kernel)) (by decide +kernel)
      · refine q_o (mz_fe (e := (83, .aload_n 0, 1, (0, 0, 0), [])) (by decide +kernel)) (pc2 := 84) rfl ?_
        refine q_o (mz_fe (e := (84, .iload_n 1, 1, (0, 0, 0), [])) (by decide +kernel)) (pc2 := 85) rfl ?_
        refine q_callV (N := 99) (vs := [.ref 23, .int (mz_rd m 23 5)]) (rest := []) (L' := [some (.ref 23), some (.int (mz_rd m 23 5)), some (.int v67), none]) rfl (mz_fe (e := (85, .invokevirtual 55, 85, (99, 2, 15), [])) (by decide +kernel)) rfl (mz_inv_virt (N := 99) (k := 2) (t := 15) (st := [.int (mz_rd m 23 5), .ref 23]) (rest := []) (b := 23) (vs := [.int (mz_rd m 23 5)]) (h := (mz_S0, m70)) rfl rfl (Nat.le_of_ble_eq_true rfl) (Nat.le_of_ble_eq_true rfl) tg_23 (by decide)) (mz_dc_lt (n := 2) rfl (by decide +kernel) (by decide +kernel)) (by decide +kernel) (by decide +kernel) (fun m88 => ?_)
        refine q_o (mz_fe (e := (88, .goto 53, 3, (0, 0, 0), [])) (by decide +kernel)) (pc2 := 141) rfl ?_
        exact q_retV (mz_fe (e := (141, .return_, 1, (0, 0, 0), [])) (by decide +kernel)) (by decide +kernel)
    · refine q_o (mz_fe (e := (66, .aload_n 0, 1, (0, 0, 0), [])) (by decide +kernel)) (pc2 := 67) rfl ?_
      refine q_ic (v := 0) (mz_fe (e := (67, .iconst 0, 1, (0, 0, 0), [])) (by decide +kernel)) (by decide) ?_
      refine q_o (mz_fe (e := (68, .iload_n 1, 1, (0, 0, 0), [])) (by decide +kernel)) (pc2 := 69) rfl ?_
      refine q_o (mz_fe (e := (69, .lconst 0, 1, (0, 0, 0), [])) (by decide +kernel)) (pc2 := 70) (st2 := [.long 0, .int (mz_rd m 23 5), .int 0, .ref 23]) rfl ?_
      refine q_callV (N := 98) (vs := [.ref 23, .int 0, .int (mz_rd m 23 5), .long 0]) (rest := []) (L' := [some (.ref 23), some (.int (mz_rd m 23 5)), some (.int v67), none]) rfl (mz_fe (e := (70, .invokevirtual 48, 83, (98, 4, 15), [])) (by decide +kernel)) rfl (mz_inv_virt (N := 98) (k := 4) (t := 15) (st := [.long 0, .int (mz_rd m 23 5), .int 0, .ref 23]) (rest := []) (b := 23) (vs := [.int 0, .int (mz_rd m 23 5), .long 0]) (h := (mz_S0, m66)) rfl rfl (Nat.le_of_ble_eq_true rfl) (Nat.le_of_ble_eq_true rfl) tg_23 (by decide)) (mz_dc_lt (n := 5) rfl (by decide +kernel) (by decide +kernel)) (by decide +kernel) (by decide +kernel) (fun m91 => ?_)
      refine q_o (mz_fe (e := (73, .goto 68, 3, (0, 0, 0), [])) (by decide +kernel)) (pc2 := 141) rfl ?_
      exact q_retV (mz_fe (e := (141, .return_, 1, (0, 0, 0), [])) (by decide +kernel)) (by decide +kernel)
  · refine q_o (mz_fe (e := (14, .aload_n 0, 1, (0, 0, 0), [])) (by decide +kernel)) (pc2 := 15) rfl ?_
    refine q_getR (b := 2) (mz_fe (e := (15, .getfield 23, 78, (9, 0, 2), [])) (by decide +kernel)) rfl tg_23 (by rw [ln_23]; decide) (mz_rfS (by decide +kernel)) ?_
    refine q_o (mz_fe (e := (18, .aload_n 0, 1, (0, 0, 0), [])) (by decide +kernel)) (pc2 := 19) rfl ?_
    refine q_getI (mz_fe (e := (19, .getfield 27, 79, (9, 5, 0), [])) (by decide +kernel)) rfl (by decide) tg_23 (by rw [ln_23]; decide) ?_
    refine q_callI (N := 80) (vs := [.ref 2, .int (mz_rd m 23 5)]) (rest := []) (L' := [some (.ref 23), none, none, none]) (f := fun v95 m94 => (R_X9_isBlank d v95 m94).bind (fun u99 => if u99.1 = 0 then ((R_X7_byteAt d (mz_rd u99.2 23 5) u99.2).bind (fun u103 => if ¬ u103.1 = (-1) then ((R_X9_isLetter d u103.1 u103.2).bind (fun u107 => if u107.1 = 0 then ((R_X9_isDigit d u103.1 u107.2).bind (fun u111 => if u111.1 = 0 then (if (0 : Int32) ≤ (mz_ixF (((u103.1 : Int32).toUInt32 % 65536).toInt32) (mz_sb 1000002) 0) then ((R_X9_keep d ((4 : Int32) + (mz_ixF (((u103.1 : Int32).toUInt32 % 65536).toInt32) (mz_sb 1000002) 0)) (mz_rd u99.2 23 5) 0 (mz_wr u111.2 23 5 ((mz_rd u111.2 23 5) + 1))).bind (fun m114 => some m114)) else ((R_X9_keep d 1 (mz_rd u99.2 23 5) 0 (mz_wr u111.2 23 5 ((mz_rd u111.2 23 5) + 1))).bind (fun m117 => some m117))) else ((R_X9_cutInt d (mz_rd u99.2 23 5) u111.2).bind (fun m120 => some m120)))) else ((R_X9_cutWord d (mz_rd u99.2 23 5) u107.2).bind (fun m123 => some m123)))) else ((R_X9_keep d 0 (mz_rd u99.2 23 5) 0 u103.2).bind (fun m126 => some m126)))) else (H_X9_cutOne_0 d  (mz_wr u99.2 23 5 ((mz_rd u99.2 23 5) + 1))))) rfl (mz_fe (e := (22, .invokevirtual 40, 81, (80, 2, 13), [])) (by decide +kernel)) rfl (mz_inv_virt (N := 80) (k := 2) (t := 13) (st := [.int (mz_rd m 23 5), .ref 2]) (rest := []) (b := 2) (vs := [.int (mz_rd m 23 5)]) (h := (mz_S0, m)) rfl rfl (Nat.le_of_ble_eq_true rfl) (Nat.le_of_ble_eq_true rfl) tg_2 (by decide)) (mz_dc_lt (n := 2) rfl (by decide +kernel) (by decide +kernel)) (by decide +kernel) (Or.inl (by decide +kernel)) (fun v95 m94 => ?_)
    refine q_callI (N := 103) (vs := [.int v95]) (rest := []) (L' := [some (.ref 23), none, none, none]) (f := fun v98 m97 => if v98 = 0 then ((R_X7_byteAt d (mz_rd m97 23 5) m97).bind (fun u103 => if ¬ u103.1 = (-1) then ((R_X9_isLetter d u103.1 u103.2).bind (fun u107 => if u107.1 = 0 then ((R_X9_isDigit d u103.1 u107.2).bind (fun u111 => if u111.1 = 0 then (if (0 : Int32) ≤ (mz_ixF (((u103.1 : Int32).toUInt32 % 65536).toInt32) (mz_sb 1000002) 0) then ((R_X9_keep d ((4 : Int32) + (mz_ixF (((u103.1 : Int32).toUInt32 % 65536).toInt32) (mz_sb 1000002) 0)) (mz_rd m97 23 5) 0 (mz_wr u111.2 23 5 ((mz_rd u111.2 23 5) + 1))).bind (fun m114 => some m114)) else ((R_X9_keep d 1 (mz_rd m97 23 5) 0 (mz_wr u111.2 23 5 ((mz_rd u111.2 23 5) + 1))).bind (fun m117 => some m117))) else ((R_X9_cutInt d (mz_rd m97 23 5) u111.2).bind (fun m120 => some m120)))) else ((R_X9_cutWord d (mz_rd m97 23 5) u107.2).bind (fun m123 => some m123)))) else ((R_X9_keep d 0 (mz_rd m97 23 5) 0 u103.2).bind (fun m126 => some m126)))) else (H_X9_cutOne_0 d  (mz_wr m97 23 5 ((mz_rd m97 23 5) + 1)))) rfl (mz_fe (e := (25, .invokestatic 44, 82, (103, 1, 1000), [])) (by decide +kernel)) rfl (mz_inv_stat (N := 103) (k := 1) (st := [.int v95]) (rest := []) (vs := [.int v95]) (h := (mz_S0, m94)) rfl rfl (Nat.le_of_ble_eq_true rfl) (Nat.le_of_ble_eq_true rfl)) (mz_dc_lt (n := 1) rfl (by decide +kernel) (by decide +kernel)) (by decide +kernel) (Or.inr (by decide +kernel)) (fun v98 m97 => ?_)
    refine q_if (c := .eq) (off := 16) (t := 44) (x := v98) (y := 0) (st := []) (mz_fe (e := (28, .ifCond .eq 16, 3, (0, 0, 0), [])) (by decide +kernel)) (fun _ => rfl) rfl rfl rfl (fun c100 => ?_) (fun c100 => ?_)
    · refine q_o (mz_fe (e := (44, .aload_n 0, 1, (0, 0, 0), [])) (by decide +kernel)) (pc2 := 45) rfl ?_
      refine q_getI (mz_fe (e := (45, .getfield 27, 79, (9, 5, 0), [])) (by decide +kernel)) rfl (by decide) tg_23 (by rw [ln_23]; decide) ?_
      refine q_s (mz_fe (e := (48, .istore_n 1, 1, (0, 0, 0), [])) (by decide +kernel)) (pc' := 49) (L' := [some (.ref 23), some (.int (mz_rd m97 23 5)), none, none]) (st' := []) rfl ?_
      refine q_o (mz_fe (e := (49, .aload_n 0, 1, (0, 0, 0), [])) (by decide +kernel)) (pc2 := 50) rfl ?_
      refine q_getR (b := 2) (mz_fe (e := (50, .getfield 23, 78, (9, 0, 2), [])) (by decide +kernel)) rfl tg_23 (by rw [ln_23]; decide) (mz_rfS (by decide +kernel)) ?_
      refine q_o (mz_fe (e := (53, .aload_n 0, 1, (0, 0, 0), [])) (by decide +kernel)) (pc2 := 54) rfl ?_
      refine q_getI (mz_fe (e := (54, .getfield 27, 79, (9, 5, 0), [])) (by decide +kernel)) rfl (by decide) tg_23 (by rw [ln_23]; decide) ?_
      refine q_callI (N := 80) (vs := [.ref 2, .int (mz_rd m97 23 5)]) (rest := []) (L' := [some (.ref 23), some (.int (mz_rd m97 23 5)), none, none]) (f := fun v102 m101 => if ¬ v102 = (-1) then ((R_X9_isLetter d v102 m101).bind (fun u107 => if u107.1 = 0 then ((R_X9_isDigit d v102 u107.2).bind (fun u111 => if u111.1 = 0 then (if (0 : Int32) ≤ (mz_ixF (((v102 : Int32).toUInt32 % 65536).toInt32) (mz_sb 1000002) 0) then ((R_X9_keep d ((4 : Int32) + (mz_ixF (((v102 : Int32).toUInt32 % 65536).toInt32) (mz_sb 1000002) 0)) (mz_rd m97 23 5) 0 (mz_wr u111.2 23 5 ((mz_rd u111.2 23 5) + 1))).bind (fun m114 => some m114)) else ((R_X9_keep d 1 (mz_rd m97 23 5) 0 (mz_wr u111.2 23 5 ((mz_rd u111.2 23 5) + 1))).bind (fun m117 => some m117))) else ((R_X9_cutInt d (mz_rd m97 23 5) u111.2).bind (fun m120 => some m120)))) else ((R_X9_cutWord d (mz_rd m97 23 5) u107.2).bind (fun m123 => some m123)))) else ((R_X9_keep d 0 (mz_rd m97 23 5) 0 m101).bind (fun m126 => some m126))) rfl (mz_fe (e := (57, .invokevirtual 40, 81, (80, 2, 13), [])) (by decide +kernel)) rfl (mz_inv_virt (N := 80) (k := 2) (t := 13) (st := [.int (mz_rd m97 23 5), .ref 2]) (rest := []) (b := 2) (vs := [.int (mz_rd m97 23 5)]) (h := (mz_S0, m97)) rfl rfl (Nat.le_of_ble_eq_true rfl) (Nat.le_of_ble_eq_true rfl) tg_2 (by decide)) (mz_dc_lt (n := 2) rfl (by decide +kernel) (by decide +kernel)) (by decide +kernel) (Or.inl (by decide +kernel)) (fun v102 m101 => ?_)
      refine q_s (mz_fe (e := (60, .istore_n 2, 1, (0, 0, 0), [])) (by decide +kernel)) (pc' := 61) (L' := [some (.ref 23), some (.int (mz_rd m97 23 5)), some (.int v102), none]) (st' := []) rfl ?_
      refine q_o (mz_fe (e := (61, .iload_n 2, 1, (0, 0, 0), [])) (by decide +kernel)) (pc2 := 62) rfl ?_
      refine q_ic (v := (-1)) (mz_fe (e := (62, .iconst (-1), 1, (0, 0, 0), [])) (by decide +kernel)) (by decide) ?_
      refine q_if (c := .ne) (off := 13) (t := 76) (x := v102) (y := (-1)) (st := []) (mz_fe (e := (63, .if_icmp .ne 13, 3, (0, 0, 0), [])) (by decide +kernel)) (fun _ => rfl) rfl rfl rfl (fun c104 => ?_) (fun c104 => ?_)
      · refine q_o (mz_fe (e := (76, .iload_n 2, 1, (0, 0, 0), [])) (by decide +kernel)) (pc2 := 77) rfl ?_
        refine q_callI (N := 104) (vs := [.int v102]) (rest := []) (L' := [some (.ref 23), some (.int (mz_rd m97 23 5)), some (.int v102), none]) (f := fun v106 m105 => if v106 = 0 then ((R_X9_isDigit d v102 m105).bind (fun u111 => if u111.1 = 0 then (if (0 : Int32) ≤ (mz_ixF (((v102 : Int32).toUInt32 % 65536).toInt32) (mz_sb 1000002) 0) then ((R_X9_keep d ((4 : Int32) + (mz_ixF (((v102 : Int32).toUInt32 % 65536).toInt32) (mz_sb 1000002) 0)) (mz_rd m97 23 5) 0 (mz_wr u111.2 23 5 ((mz_rd u111.2 23 5) + 1))).bind (fun m114 => some m114)) else ((R_X9_keep d 1 (mz_rd m97 23 5) 0 (mz_wr u111.2 23 5 ((mz_rd u111.2 23 5) + 1))).bind (fun m117 => some m117))) else ((R_X9_cutInt d (mz_rd m97 23 5) u111.2).bind (fun m120 => some m120)))) else ((R_X9_cutWord d (mz_rd m97 23 5) m105).bind (fun m123 => some m123))) rfl (mz_fe (e := (77, .invokestatic 52, 84, (104, 1, 1000), [])) (by decide +kernel)) rfl (mz_inv_stat (N := 104) (k := 1) (st := [.int v102]) (rest := []) (vs := [.int v102]) (h := (mz_S0, m101)) rfl rfl (Nat.le_of_ble_eq_true rfl) (Nat.le_of_ble_eq_true rfl)) (mz_dc_lt (n := 1) rfl (by decide +kernel) (by decide +kernel)) (by decide +kernel) (Or.inr (by decide +kernel)) (fun v106 m105 => ?_)
        refine q_if (c := .eq) (off := 11) (t := 91) (x := v106) (y := 0) (st := []) (mz_fe (e := (80, .ifCond .eq 11, 3, (0, 0, 0), [])) (by decide +kernel)) (fun _ => rfl) rfl rfl rfl (fun c108 => ?_) (fun c108 => ?_)
        · refine q_o (mz_fe (e := (91, .iload_n 2, 1, (0, 0, 0), [])) (by decide +kernel)) (pc2 := 92) rfl ?_
          refine q_callI (N := 105) (vs := [.int v102]) (rest := []) (L' := [some (.ref 23), some (.int (mz_rd m97 23 5)), some (.int v102), none]) (f := fun v110 m109 => if v110 = 0 then (if (0 : Int32) ≤ (mz_ixF (((v102 : Int32).toUInt32 % 65536).toInt32) (mz_sb 1000002) 0) then ((R_X9_keep d ((4 : Int32) + (mz_ixF (((v102 : Int32).toUInt32 % 65536).toInt32) (mz_sb 1000002) 0)) (mz_rd m97 23 5) 0 (mz_wr m109 23 5 ((mz_rd m109 23 5) + 1))).bind (fun m114 => some m114)) else ((R_X9_keep d 1 (mz_rd m97 23 5) 0 (mz_wr m109 23 5 ((mz_rd m109 23 5) + 1))).bind (fun m117 => some m117))) else ((R_X9_cutInt d (mz_rd m97 23 5) m109).bind (fun m120 => some m120))) rfl (mz_fe (e := (92, .invokestatic 59, 86, (105, 1, 1000), [])) (by decide +kernel)) rfl (mz_inv_stat (N := 105) (k := 1) (st := [.int v102]) (rest := []) (vs := [.int v102]) (h := (mz_S0, m105)) rfl rfl (Nat.le_of_ble_eq_true rfl) (Nat.le_of_ble_eq_true rfl)) (mz_dc_lt (n := 1) rfl (by decide +kernel) (by decide +kernel)) (by decide +kernel) (Or.inr (by decide +kernel)) (fun v110 m109 => ?_)
          refine q_if (c := .eq) (off := 11) (t := 106) (x := v110) (y := 0) (st := []) (mz_fe (e := (95, .ifCond .eq 11, 3, (0, 0, 0), [])) (by decide +kernel)) (fun _ => rfl) rfl rfl rfl (fun c112 => ?_) (fun c112 => ?_)
          · refine q_o (mz_fe (e := (106, .ldc 65, 2, (2, 0, 1), [])) (by decide +kernel)) (pc2 := 108) (st2 := [.ref 1000002]) rfl ?_
            refine q_o (mz_fe (e := (108, .iload_n 2, 1, (0, 0, 0), [])) (by decide +kernel)) (pc2 := 109) rfl ?_
            refine q_o (mz_fe (e := (109, .i2c, 1, (0, 0, 0), [])) (by decide +kernel)) (pc2 := 110) rfl ?_
            refine q_six (mz_fe (e := (110, .invokevirtual 67, 3, (9992, 0, 0), [])) (by decide +kernel)) (by decide) (Nat.le_of_ble_eq_true rfl) ?_
            refine q_s (mz_fe (e := (113, .istore_n 3, 1, (0, 0, 0), [])) (by decide +kernel)) (pc' := 114) (L' := [some (.ref 23), some (.int (mz_rd m97 23 5)), some (.int v102), some (.int (mz_ixF (((v102 : Int32).toUInt32 % 65536).toInt32) (mz_sb 1000002) 0))]) (st' := []) rfl ?_
            refine q_o (mz_fe (e := (114, .aload_n 0, 1, (0, 0, 0), [])) (by decide +kernel)) (pc2 := 115) rfl ?_
            refine q_o (mz_fe (e := (115, .dup, 1, (0, 0, 0), [])) (by decide +kernel)) (pc2 := 116) rfl ?_
            refine q_getI (mz_fe (e := (116, .getfield 27, 79, (9, 5, 0), [])) (by decide +kernel)) rfl (by decide) tg_23 (by rw [ln_23]; decide) ?_
            refine q_ic (v := 1) (mz_fe (e := (119, .iconst 1, 1, (0, 0, 0), [])) (by decide +kernel)) (by decide) ?_
            refine q_o (mz_fe (e := (120, .iadd, 1, (0, 0, 0), [])) (by decide +kernel)) (pc2 := 121) rfl ?_
            refine q_putI (mz_fe (e := (121, .putfield 27, 79, (9, 5, 0), [])) (by decide +kernel)) rfl tg_23 (by rw [ln_23]; decide) ?_
            refine q_o (mz_fe (e := (124, .aload_n 0, 1, (0, 0, 0), [])) (by decide +kernel)) (pc2 := 125) rfl ?_
            refine q_o (mz_fe (e := (125, .iload_n 3, 1, (0, 0, 0), [])) (by decide +kernel)) (pc2 := 126) rfl ?_
            refine q_if (c := .ge) (off := 7) (t := 133) (x := (mz_ixF (((v102 : Int32).toUInt32 % 65536).toInt32) (mz_sb 1000002) 0)) (y := 0) (st := [.ref 23]) (mz_fe (e := (126, .ifCond .ge 7, 3, (0, 0, 0), [])) (by decide +kernel)) (fun _ => rfl) rfl rfl rfl (fun c113 => ?_) (fun c113 => ?_)
            · refine q_ic (v := 4) (mz_fe (e := (133, .iconst 4, 1, (0, 0, 0), [])) (by decide +kernel)) (by decide) ?_
              refine q_o (mz_fe (e := (134, .iload_n 3, 1, (0, 0, 0), [])) (by decide +kernel)) (pc2 := 135) rfl ?_
              refine q_o (mz_fe (e := (135, .iadd, 1, (0, 0, 0), [])) (by decide +kernel)) (pc2 := 136) rfl ?_
              refine q_o (mz_fe (e := (136, .iload_n 1, 1, (0, 0, 0), [])) (by decide +kernel)) (pc2 := 137) rfl ?_
              refine q_o (mz_fe (e := (137, .lconst 0, 1, (0, 0, 0), [])) (by decide +kernel)) (pc2 := 138) (st2 := [.long 0, .int (mz_rd m97 23 5), .int ((4 : Int32) + (mz_ixF (((v102 : Int32).toUInt32 % 65536).toInt32) (mz_sb 1000002) 0)), .ref 23]) rfl ?_
              refine q_callV (N := 98) (vs := [.ref 23, .int ((4 : Int32) + (mz_ixF (((v102 : Int32).toUInt32 % 65536).toInt32) (mz_sb 1000002) 0)), .int (mz_rd m97 23 5), .long 0]) (rest := []) (L' := [some (.ref 23), some (.int (mz_rd m97 23 5)), some (.int v102), some (.int (mz_ixF (((v102 : Int32).toUInt32 % 65536).toInt32) (mz_sb 1000002) 0))]) rfl (mz_fe (e := (138, .invokevirtual 48, 83, (98, 4, 15), [])) (by decide +kernel)) rfl (mz_inv_virt (N := 98) (k := 4) (t := 15) (st := [.long 0, .int (mz_rd m97 23 5), .int ((4 : Int32) + (mz_ixF (((v102 : Int32).toUInt32 % 65536).toInt32) (mz_sb 1000002) 0)), .ref 23]) (rest := []) (b := 23) (vs := [.int ((4 : Int32) + (mz_ixF (((v102 : Int32).toUInt32 % 65536).toInt32) (mz_sb 1000002) 0)), .int (mz_rd m97 23 5), .long 0]) (h := (mz_S0, (mz_wr m109 23 5 ((mz_rd m109 23 5) + 1)))) rfl rfl (Nat.le_of_ble_eq_true rfl) (Nat.le_of_ble_eq_true rfl) tg_23 (by decide)) (mz_dc_lt (n := 5) rfl (by decide +kernel) (by decide +kernel)) (by decide +kernel) (by decide +kernel) (fun m114 => ?_)
              exact q_retV (mz_fe (e := (141, .return_, 1, (0, 0, 0), [])) (by decide +kernel)) (by decide +kernel)
            · refine q_ic (v := 1) (mz_fe (e := (129, .iconst 1, 1, (0, 0, 0), [])) (by decide +kernel)) (by decide) ?_
              refine q_o (mz_fe (e := (130, .goto 6, 3, (0, 0, 0), [])) (by decide +kernel)) (pc2 := 136) rfl ?_
              refine q_o (mz_fe (e := (136, .iload_n 1, 1, (0, 0, 0), [])) (by decide +kernel)) (pc2 := 137) rfl ?_
              refine q_o (mz_fe (e := (137, .lconst 0, 1, (0, 0, 0), [])) (by decide +kernel)) (pc2 := 138) (st2 := [.long 0, .int (mz_rd m97 23 5), .int 1, .ref 23]) rfl ?_
              refine q_callV (N := 98) (vs := [.ref 23, .int 1, .int (mz_rd m97 23 5), .long 0]) (rest := []) (L' := [some (.ref 23), some (.int (mz_rd m97 23 5)), some (.int v102), some (.int (mz_ixF (((v102 : Int32).toUInt32 % 65536).toInt32) (mz_sb 1000002) 0))]) rfl (mz_fe (e := (138, .invokevirtual 48, 83, (98, 4, 15), [])) (by decide +kernel)) rfl (mz_inv_virt (N := 98) (k := 4) (t := 15) (st := [.long 0, .int (mz_rd m97 23 5), .int 1, .ref 23]) (rest := []) (b := 23) (vs := [.int 1, .int (mz_rd m97 23 5), .long 0]) (h := (mz_S0, (mz_wr m109 23 5 ((mz_rd m109 23 5) + 1)))) rfl rfl (Nat.le_of_ble_eq_true rfl) (Nat.le_of_ble_eq_true rfl) tg_23 (by decide)) (mz_dc_lt (n := 5) rfl (by decide +kernel) (by decide +kernel)) (by decide +kernel) (by decide +kernel) (fun m117 => ?_)
              exact q_retV (mz_fe (e := (141, .return_, 1, (0, 0, 0), [])) (by decide +kernel)) (by decide +kernel)
          · refine q_o (mz_fe (e := (98, .aload_n 0, 1, (0, 0, 0), [])) (by decide +kernel)) (pc2 := 99) rfl ?_
            refine q_o (mz_fe (e := (99, .iload_n 1, 1, (0, 0, 0), [])) (by decide +kernel)) (pc2 := 100) rfl ?_
            refine q_callV (N := 100) (vs := [.ref 23, .int (mz_rd m97 23 5)]) (rest := []) (L' := [some (.ref 23), some (.int (mz_rd m97 23 5)), some (.int v102), none]) rfl (mz_fe (e := (100, .invokevirtual 62, 87, (100, 2, 15), [])) (by decide +kernel)) rfl (mz_inv_virt (N := 100) (k := 2) (t := 15) (st := [.int (mz_rd m97 23 5), .ref 23]) (rest := []) (b := 23) (vs := [.int (mz_rd m97 23 5)]) (h := (mz_S0, m109)) rfl rfl (Nat.le_of_ble_eq_true rfl) (Nat.le_of_ble_eq_true rfl) tg_23 (by decide)) (mz_dc_lt (n := 2) rfl (by decide +kernel) (by decide +kernel)) (by decide +kernel) (by decide +kernel) (fun m120 => ?_)
            refine q_o (mz_fe (e := (103, .goto 38, 3, (0, 0, 0), [])) (by decide +kernel)) (pc2 := 141) rfl ?_
            exact q_retV (mz_fe (e := (141, .return_, 1, (0, 0, 0), [])) (by decide +kernel)) (by decide +kernel)
        · refine q_o (mz_fe (e := (83, .aload_n 0, 1, (0, 0, 0), [])) (by decide +kernel)) (pc2 := 84) rfl ?_
          refine q_o (mz_fe (e := (84, .iload_n 1, 1, (0, 0, 0), [])) (by decide +kernel)) (pc2 := 85) rfl ?_
          refine q_callV (N := 99) (vs := [.ref 23, .int (mz_rd m97 23 5)]) (rest := []) (L' := [some (.ref 23), some (.int (mz_rd m97 23 5)), some (.int v102), none]) rfl (mz_fe (e := (85, .invokevirtual 55, 85, (99, 2, 15), [])) (by decide +kernel)) rfl (mz_inv_virt (N := 99) (k := 2) (t := 15) (st := [.int (mz_rd m97 23 5), .ref 23]) (rest := []) (b := 23) (vs := [.int (mz_rd m97 23 5)]) (h := (mz_S0, m105)) rfl rfl (Nat.le_of_ble_eq_true rfl) (Nat.le_of_ble_eq_true rfl) tg_23 (by decide)) (mz_dc_lt (n := 2) rfl (by decide +kernel) (by decide +kernel)) (by decide +kernel) (by decide +kernel) (fun m123 => ?_)
          refine q_o (mz_fe (e := (88, .goto 53, 3, (0, 0, 0), [])) (by decide +kernel)) (pc2 := 141) rfl ?_
          exact q_retV (mz_fe (e := (141, .return_, 1, (0, 0, 0), [])) (by decide +kernel)) (by decide +kernel)
      · refine q_o (mz_fe (e := (66, .aload_n 0, 1, (0, 0, 0), [])) (by decide +kernel)) (pc2 := 67) rfl ?_
        refine q_ic (v := 0) (mz_fe (e := (67, .iconst 0, 1, (0, 0, 0), [])) (by decide +kernel)) (by decide) ?_
        refine q_o (mz_fe (e := (68, .iload_n 1, 1, (0, 0, 0), [])) (by decide +kernel)) (pc2 := 69) rfl ?_
        refine q_o (mz_fe (e := (69, .lconst 0, 1, (0, 0, 0), [])) (by decide +kernel)) (pc2 := 70) (st2 := [.long 0, .int (mz_rd m97 23 5), .int 0, .ref 23]) rfl ?_
        refine q_callV (N := 98) (vs := [.ref 23, .int 0, .int (mz_rd m97 23 5), .long 0]) (rest := []) (L' := [some (.ref 23), some (.int (mz_rd m97 23 5)), some (.int v102), none]) rfl (mz_fe (e := (70, .invokevirtual 48, 83, (98, 4, 15), [])) (by decide +kernel)) rfl (mz_inv_virt (N := 98) (k := 4) (t := 15) (st := [.long 0, .int (mz_rd m97 23 5), .int 0, .ref 23]) (rest := []) (b := 23) (vs := [.int 0, .int (mz_rd m97 23 5), .long 0]) (h := (mz_S0, m101)) rfl rfl (Nat.le_of_ble_eq_true rfl) (Nat.le_of_ble_eq_true rfl) tg_23 (by decide)) (mz_dc_lt (n := 5) rfl (by decide +kernel) (by decide +kernel)) (by decide +kernel) (by decide +kernel) (fun m126 => ?_)
        refine q_o (mz_fe (e := (73, .goto 68, 3, (0, 0, 0), [])) (by decide +kernel)) (pc2 := 141) rfl ?_
        exact q_retV (mz_fe (e := (141, .return_, 1, (0, 0, 0), [])) (by decide +kernel)) (by decide +kernel)
    · refine q_o (mz_fe (e := (31, .aload_n 0, 1, (0, 0, 0), [])) (by decide +kernel)) (pc2 := 32) rfl ?_
      refine q_o (mz_fe (e := (32, .dup, 1, (0, 0, 0), [])) (by decide +kernel)) (pc2 := 33) rfl ?_
      refine q_getI (mz_fe (e := (33, .getfield 27, 79, (9, 5, 0), [])) (by decide +kernel)) rfl (by decide) tg_23 (by rw [ln_23]; decide) ?_
      refine q_ic (v := 1) (mz_fe (e := (36, .iconst 1, 1, (0, 0, 0), [])) (by decide +kernel)) (by decide) ?_
      refine q_o (mz_fe (e := (37, .iadd, 1, (0, 0, 0), [])) (by decide +kernel)) (pc2 := 38) rfl ?_
      refine q_putI (mz_fe (e := (38, .putfield 27, 79, (9, 5, 0), [])) (by decide +kernel)) rfl tg_23 (by rw [ln_23]; decide) ?_
      refine q_o (mz_fe (e := (41, .goto (-41), 3, (0, 0, 0), [])) (by decide +kernel)) (pc2 := 0) rfl ?_
      exact congrArg mz_cV (mz_At_msk (L := [some (.ref 23), none, none, none]) (L2 := [some (.ref 23), none, none, none]) (mz_fe (e := (0, .aload_n 0, 1, (0, 0, 0), [true, false, false, false])) (by decide +kernel)) rfl rfl)
set_option maxRecDepth 10000 in
theorem R_X9_keep_eq (d : Nat) (x0 : Int32) (x1 : Int32) (x2 : Int64) (m : MzM)  : R_X9_keep d x0 x1 x2 m = if (402 : Int32) ≤ (mz_rd m 23 4) then some m else (mz_g (mz_ok (mz_rd m 23 4) 402) (mz_g (mz_ok (mz_rd (mz_wr m 24 ((mz_rd m 23 4) : Int32).toNatClampNeg (vp_nar .byte (x0 : Int32).toInt8.toInt32)) 23 4) 402) (mz_g (mz_ok (mz_rd (mz_wr (mz_wr m 24 ((mz_rd m 23 4) : Int32).toNatClampNeg (vp_nar .byte (x0 : Int32).toInt8.toInt32)) 25 ((mz_rd (mz_wr m 24 ((mz_rd m 23 4) : Int32).toNatClampNeg (vp_nar .byte (x0 : Int32).toInt8.toInt32)) 23 4) : Int32).toNatClampNeg (vp_nar .short (x1 : Int32).toInt16.toInt32)) 23 4) 402) (some (mz_wr (mz_wl (mz_wr (mz_wr m 24 ((mz_rd m 23 4) : Int32).toNatClampNeg (vp_nar .byte (x0 : Int32).toInt8.toInt32)) 25 ((mz_rd (mz_wr m 24 ((mz_rd m 23 4) : Int32).toNatClampNeg (vp_nar .byte (x0 : Int32).toInt8.toInt32)) 23 4) : Int32).toNatClampNeg (vp_nar .short (x1 : Int32).toInt16.toInt32)) 26 ((mz_rd (mz_wr (mz_wr m 24 ((mz_rd m 23 4) : Int32).toNatClampNeg (vp_nar .byte (x0 : Int32).toInt8.toInt32)) 25 ((mz_rd (mz_wr m 24 ((mz_rd m 23 4) : Int32).toNatClampNeg (vp_nar .byte (x0 : Int32).toInt8.toInt32)) 23 4) : Int32).toNatClampNeg (vp_nar .short (x1 : Int32).toInt16.toInt32)) 23 4) : Int32).toNatClampNeg x2) 23 4 ((mz_rd (mz_wl (mz_wr (mz_wr m 24 ((mz_rd m 23 4) : Int32).toNatClampNeg (vp_nar .byte (x0 : Int32).toInt8.toInt32)) 25 ((mz_rd (mz_wr m 24 ((mz_rd m 23 4) : Int32).toNatClampNeg (vp_nar .byte (x0 : Int32).toInt8.toInt32)) 23 4) : Int32).toNatClampNeg (vp_nar .short (x1 : Int32).toInt16.toInt32)) 26 ((mz_rd (mz_wr (mz_wr m 24 ((mz_rd m 23 4) : Int32).toNatClampNeg (vp_nar .byte (x0 : Int32).toInt8.toInt32)) 25 ((mz_rd (mz_wr m 24 ((mz_rd m 23 4) : Int32).toNatClampNeg (vp_nar .byte (x0 : Int32).toInt8.toInt32)) 23 4) : Int32).toNatClampNeg (vp_nar .short (x1 : Int32).toInt16.toInt32)) 23 4) : Int32).toNatClampNeg x2) 23 4) + 1)))))) := by
  show mz_cV (mz_T d 98 0 (mz_en (mz_xl 98) [.ref 23, .int x0, .int x1, .long x2]) [] m) = _
  rw [show mz_en (mz_xl 98) [.ref 23, .int x0, .int x1, .long x2] = [some (.ref 23), some (.int x0), some (.int x1), some (.long x2), none] from by rw [show mz_xl 98 = 5 from by decide +kernel]; rfl]
  refine q_o (mz_fe (e := (0, .aload_n 0, 1, (0, 0, 0), [])) (by decide +kernel)) (pc2 := 1) rfl ?_
  refine q_getI (mz_fe (e := (1, .getfield 31, 80, (9, 4, 0), [])) (by decide +kernel)) rfl (by decide) tg_23 (by rw [ln_23]; decide) ?_
  refine q_o (mz_fe (e := (4, .aload_n 0, 1, (0, 0, 0), [])) (by decide +kernel)) (pc2 := 5) rfl ?_
  refine q_getR (b := 24) (mz_fe (e := (5, .getfield 11, 75, (9, 1, 2), [])) (by decide +kernel)) rfl tg_23 (by rw [ln_23]; decide) (mz_rfS (by decide +kernel)) ?_
  refine q_alen (v := 402) (mz_fe (e := (8, .arraylength, 1, (0, 0, 0), [])) (by decide +kernel)) rfl (by decide) (by rw [tg_24]; decide) ln_24 (by decide) ?_
  refine q_if (c := .ge) (off := 45) (t := 54) (x := (mz_rd m 23 4)) (y := 402) (st := []) (mz_fe (e := (9, .if_icmp .ge 45, 3, (0, 0, 0), [])) (by decide +kernel)) (fun _ => rfl) rfl rfl rfl (fun c1 => ?_) (fun c1 => ?_)
  · exact q_retV (mz_fe (e := (54, .return_, 1, (0, 0, 0), [])) (by decide +kernel)) (by decide +kernel)
  · refine q_o (mz_fe (e := (12, .aload_n 0, 1, (0, 0, 0), [])) (by decide +kernel)) (pc2 := 13) rfl ?_
    refine q_getR (b := 24) (mz_fe (e := (13, .getfield 11, 75, (9, 1, 2), [])) (by decide +kernel)) rfl tg_23 (by rw [ln_23]; decide) (mz_rfS (by decide +kernel)) ?_
    refine q_o (mz_fe (e := (16, .aload_n 0, 1, (0, 0, 0), [])) (by decide +kernel)) (pc2 := 17) rfl ?_
    refine q_getI (mz_fe (e := (17, .getfield 31, 80, (9, 4, 0), [])) (by decide +kernel)) rfl (by decide) tg_23 (by rw [ln_23]; decide) ?_
    refine q_o (mz_fe (e := (20, .iload_n 1, 1, (0, 0, 0), [])) (by decide +kernel)) (pc2 := 21) rfl ?_
    refine q_o (mz_fe (e := (21, .i2b, 1, (0, 0, 0), [])) (by decide +kernel)) (pc2 := 22) rfl ?_
    refine q_stAg (f := (vp_nar .byte)) rfl (mz_fe (e := (22, .bastore, 1, (0, 0, 0), [])) (by decide +kernel)) (q_actB tg_24) rfl tg_24 ln_24 (fun g2 => ?_)
    refine q_o (mz_fe (e := (23, .aload_n 0, 1, (0, 0, 0), [])) (by decide +kernel)) (pc2 := 24) rfl ?_
    refine q_getR (b := 25) (mz_fe (e := (24, .getfield 15, 76, (9, 2, 2), [])) (by decide +kernel)) rfl tg_23 (by rw [ln_23]; decide) (mz_rfS (by decide +kernel)) ?_
    refine q_o (mz_fe (e := (27, .aload_n 0, 1, (0, 0, 0), [])) (by decide +kernel)) (pc2 := 28) rfl ?_
    refine q_getI (mz_fe (e := (28, .getfield 31, 80, (9, 4, 0), [])) (by decide +kernel)) rfl (by decide) tg_23 (by rw [ln_23]; decide) ?_
    refine q_o (mz_fe (e := (31, .iload_n 2, 1, (0, 0, 0), [])) (by decide +kernel)) (pc2 := 32) rfl ?_
    refine q_o (mz_fe (e := (32, .i2s, 1, (0, 0, 0), [])) (by decide +kernel)) (pc2 := 33) rfl ?_
    refine q_stAg (f := (vp_nar .short)) rfl (mz_fe (e := (33, .sastore, 1, (0, 0, 0), [])) (by decide +kernel)) (fun _ => rfl) rfl tg_25 ln_25 (fun g3 => ?_)
    refine q_o (mz_fe (e := (34, .aload_n 0, 1, (0, 0, 0), [])) (by decide +kernel)) (pc2 := 35) rfl ?_
    refine q_getR (b := 26) (mz_fe (e := (35, .getfield 19, 77, (9, 3, 2), [])) (by decide +kernel)) rfl tg_23 (by rw [ln_23]; decide) (mz_rfS (by decide +kernel)) ?_
    refine q_o (mz_fe (e := (38, .aload_n 0, 1, (0, 0, 0), [])) (by decide +kernel)) (pc2 := 39) rfl ?_
    refine q_getI (mz_fe (e := (39, .getfield 31, 80, (9, 4, 0), [])) (by decide +kernel)) rfl (by decide) tg_23 (by rw [ln_23]; decide) ?_
    refine q_o (mz_fe (e := (42, .lload_n 3, 1, (0, 0, 0), [])) (by decide +kernel)) (pc2 := 43) rfl ?_
    refine q_lastg rfl (mz_fe (e := (43, .lastore, 1, (0, 0, 0), [])) (by decide +kernel)) rfl tg_26 ln_26 (fun g4 => ?_)
    refine q_o (mz_fe (e := (44, .aload_n 0, 1, (0, 0, 0), [])) (by decide +kernel)) (pc2 := 45) rfl ?_
    refine q_o (mz_fe (e := (45, .dup, 1, (0, 0, 0), [])) (by decide +kernel)) (pc2 := 46) rfl ?_
    refine q_getI (mz_fe (e := (46, .getfield 31, 80, (9, 4, 0), [])) (by decide +kernel)) rfl (by decide) tg_23 (by rw [ln_23]; decide) ?_
    refine q_ic (v := 1) (mz_fe (e := (49, .iconst 1, 1, (0, 0, 0), [])) (by decide +kernel)) (by decide) ?_
    refine q_o (mz_fe (e := (50, .iadd, 1, (0, 0, 0), [])) (by decide +kernel)) (pc2 := 51) rfl ?_
    refine q_putI (mz_fe (e := (51, .putfield 31, 80, (9, 4, 0), [])) (by decide +kernel)) rfl tg_23 (by rw [ln_23]; decide) ?_
    exact q_retV (mz_fe (e := (54, .return_, 1, (0, 0, 0), [])) (by decide +kernel)) (by decide +kernel)
set_option maxRecDepth 10000 in
theorem R_X9_cutWord_eq (d : Nat) (x0 : Int32) (m : MzM)  : R_X9_cutWord d x0 m = H_X9_cutWord_2 d x0 0 m := by
  show mz_cV (mz_T d 99 0 (mz_en (mz_xl 99) [.ref 23, .int x0]) [] m) = _
  rw [show mz_en (mz_xl 99) [.ref 23, .int x0] = [some (.ref 23), some (.int x0), none, none, none] from by rw [show mz_xl 99 = 5 from by decide +kernel]; rfl]
  refine q_o (mz_fe (e := (0, .lconst 0, 1, (0, 0, 0), [])) (by decide +kernel)) (pc2 := 1) (st2 := [.long 0]) rfl ?_
  refine q_s (mz_fe (e := (1, .lstore_n 2, 1, (0, 0, 0), [])) (by decide +kernel)) (pc' := 2) (L' := [some (.ref 23), some (.int x0), some (.long 0), none, none]) (st' := []) rfl ?_
  exact congrArg mz_cV (mz_At_msk (L := [some (.ref 23), some (.int x0), some (.long 0), none, none]) (L2 := [some (.ref 23), some (.int x0), some (.long 0), none, none]) (mz_fe (e := (2, .aload_n 0, 1, (0, 0, 0), [true, true, true, false, false])) (by decide +kernel)) rfl rfl)
set_option maxRecDepth 10000 in
theorem H_X9_cutWord_2_eq (d : Nat) (y1 : Int32) (y2 : Int64) (m : MzM)  : H_X9_cutWord_2 d y1 y2 m = if (mz_rd m 2 1) ≤ (mz_rd m 23 5) then (if ((mz_rd m 23 5) - y1) ≤ 8 then ((R_X9_wordNumber d y1 m).bind (fun u5 => if (0 : Int32) ≤ u5.1 then ((R_X9_keep d ((13 : Int32) + u5.1) y1 y2 u5.2).bind (fun m7 => some m7)) else ((R_X9_keep d 2 y1 y2 u5.2).bind (fun m10 => some m10)))) else ((R_X9_keep d 1 y1 0 m).bind (fun m13 => some m13))) else ((R_X7_byteAt d (mz_rd m 23 5) m).bind (fun u18 => (R_X9_isLetter d u18.1 u18.2).bind (fun u21 => if u21.1 = 0 then (if ((mz_rd u21.2 23 5) - y1) ≤ 8 then ((R_X9_wordNumber d y1 u21.2).bind (fun u26 => if (0 : Int32) ≤ u26.1 then ((R_X9_keep d ((13 : Int32) + u26.1) y1 y2 u26.2).bind (fun m28 => some m28)) else ((R_X9_keep d 2 y1 y2 u26.2).bind (fun m31 => some m31)))) else ((R_X9_keep d 1 y1 0 u21.2).bind (fun m34 => some m34))) else ((R_X7_byteAt d (mz_rd u21.2 23 5) u21.2).bind (fun u39 => H_X9_cutWord_2 d y1 ((y2 * 32) + (((u39.1 - 97) + 1) : Int32).toInt64) (mz_wr u39.2 23 5 ((mz_rd u39.2 23 5) + 1))))))) := by
  show mz_cV (mz_T d 99 2 [some (.ref 23), some (.int y1), some (.long y2), none, none] [] m) = _
  refine q_s (mz_fe (e := (2, .aload_n 0, 1, (0, 0, 0), [true, true, true, false, false])) (by decide +kernel)) (pc' := 3) (L' := [some (.ref 23), some (.int y1), some (.long y2), none, none]) (st' := [.ref 23]) rfl ?_
  refine q_getI (mz_fe (e := (3, .getfield 27, 79, (9, 5, 0), [])) (by decide +kernel)) rfl (by decide) tg_23 (by rw [ln_23]; decide) ?_
  refine q_o (mz_fe (e := (6, .aload_n 0, 1, (0, 0, 0), [])) (by decide +kernel)) (pc2 := 7) rfl ?_
  refine q_getR (b := 2) (mz_fe (e := (7, .getfield 23, 78, (9, 0, 2), [])) (by decide +kernel)) rfl tg_23 (by rw [ln_23]; decide) (mz_rfS (by decide +kernel)) ?_
  refine q_getI (mz_fe (e := (10, .getfield 37, 81, (7, 1, 0), [])) (by decide +kernel)) rfl (by decide) tg_2 (by rw [ln_2]; decide) ?_
  refine q_if (c := .ge) (off := 57) (t := 70) (x := (mz_rd m 23 5)) (y := (mz_rd m 2 1)) (st := []) (mz_fe (e := (13, .if_icmp .ge 57, 3, (0, 0, 0), [])) (by decide +kernel)) (fun _ => rfl) rfl rfl rfl (fun c1 => ?_) (fun c1 => ?_)
  · refine q_o (mz_fe (e := (70, .aload_n 0, 1, (0, 0, 0), [])) (by decide +kernel)) (pc2 := 71) rfl ?_
    refine q_getI (mz_fe (e := (71, .getfield 27, 79, (9, 5, 0), [])) (by decide +kernel)) rfl (by decide) tg_23 (by rw [ln_23]; decide) ?_
    refine q_o (mz_fe (e := (74, .iload_n 1, 1, (0, 0, 0), [])) (by decide +kernel)) (pc2 := 75) rfl ?_
    refine q_o (mz_fe (e := (75, .isub, 1, (0, 0, 0), [])) (by decide +kernel)) (pc2 := 76) rfl ?_
    refine q_bi (v := 8) (mz_fe (e := (76, .bipush 8, 2, (0, 0, 0), [])) (by decide +kernel)) (by decide) ?_
    refine q_if (c := .le) (off := 13) (t := 91) (x := ((mz_rd m 23 5) - y1)) (y := 8) (st := []) (mz_fe (e := (78, .if_icmp .le 13, 3, (0, 0, 0), [])) (by decide +kernel)) (fun _ => rfl) rfl rfl rfl (fun c2 => ?_) (fun c2 => ?_)
    · refine q_o (mz_fe (e := (91, .aload_n 0, 1, (0, 0, 0), [])) (by decide +kernel)) (pc2 := 92) rfl ?_
      refine q_o (mz_fe (e := (92, .iload_n 1, 1, (0, 0, 0), [])) (by decide +kernel)) (pc2 := 93) rfl ?_
      refine q_callI (N := 101) (vs := [.ref 23, .int y1]) (rest := []) (L' := [some (.ref 23), some (.int y1), some (.long y2), none, none]) (f := fun v4 m3 => if (0 : Int32) ≤ v4 then ((R_X9_keep d ((13 : Int32) + v4) y1 y2 m3).bind (fun m7 => some m7)) else ((R_X9_keep d 2 y1 y2 m3).bind (fun m10 => some m10))) rfl (mz_fe (e := (93, .invokevirtual 74, 88, (101, 2, 15), [])) (by decide +kernel)) rfl (mz_inv_virt (N := 101) (k := 2) (t := 15) (st := [.int y1, .ref 23]) (rest := []) (b := 23) (vs := [.int y1]) (h := (mz_S0, m)) rfl rfl (Nat.le_of_ble_eq_true rfl) (Nat.le_of_ble_eq_true rfl) tg_23 (by decide)) (mz_dc_lt (n := 2) rfl (by decide +kernel) (by decide +kernel)) (by decide +kernel) (Or.inl (by decide +kernel)) (fun v4 m3 => ?_)
      refine q_s (mz_fe (e := (96, .istore 4, 2, (0, 0, 0), [])) (by decide +kernel)) (pc' := 98) (L' := [some (.ref 23), some (.int y1), some (.long y2), none, some (.int v4)]) (st' := []) rfl ?_
      refine q_o (mz_fe (e := (98, .aload_n 0, 1, (0, 0, 0), [])) (by decide +kernel)) (pc2 := 99) rfl ?_
      refine q_o (mz_fe (e := (99, .iload 4, 2, (0, 0, 0), [])) (by decide +kernel)) (pc2 := 101) rfl ?_
      refine q_if (c := .ge) (off := 7) (t := 108) (x := v4) (y := 0) (st := [.ref 23]) (mz_fe (e := (101, .ifCond .ge 7, 3, (0, 0, 0), [])) (by decide +kernel)) (fun _ => rfl) rfl rfl rfl (fun c6 => ?_) (fun c6 => ?_)
      · refine q_bi (v := 13) (mz_fe (e := (108, .bipush 13, 2, (0, 0, 0), [])) (by decide +kernel)) (by decide) ?_
        refine q_o (mz_fe (e := (110, .iload 4, 2, (0, 0, 0), [])) (by decide +kernel)) (pc2 := 112) rfl ?_
        refine q_o (mz_fe (e := (112, .iadd, 1, (0, 0, 0), [])) (by decide +kernel)) (pc2 := 113) rfl ?_
        refine q_o (mz_fe (e := (113, .iload_n 1, 1, (0, 0, 0), [])) (by decide +kernel)) (pc2 := 114) rfl ?_
        refine q_o (mz_fe (e := (114, .lload_n 2, 1, (0, 0, 0), [])) (by decide +kernel)) (pc2 := 115) rfl ?_
        refine q_callV (N := 98) (vs := [.ref 23, .int ((13 : Int32) + v4), .int y1, .long y2]) (rest := []) (L' := [some (.ref 23), some (.int y1), some (.long y2), none, some (.int v4)]) rfl (mz_fe (e := (115, .invokevirtual 48, 83, (98, 4, 15), [])) (by decide +kernel)) rfl (mz_inv_virt (N := 98) (k := 4) (t := 15) (st := [.long y2, .int y1, .int ((13 : Int32) + v4), .ref 23]) (rest := []) (b := 23) (vs := [.int ((13 : Int32) + v4), .int y1, .long y2]) (h := (mz_S0, m3)) rfl rfl (Nat.le_of_ble_eq_true rfl) (Nat.le_of_ble_eq_true rfl) tg_23 (by decide)) (mz_dc_lt (n := 5) rfl (by decide +kernel) (by decide +kernel)) (by decide +kernel) (by decide +kernel) (fun m7 => ?_)
        exact q_retV (mz_fe (e := (118, .return_, 1, (0, 0, 0), [])) (by decide +kernel)) (by decide +kernel)
      · refine q_ic (v := 2) (mz_fe (e := (104, .iconst 2, 1, (0, 0, 0), [])) (by decide +kernel)) (by decide) ?_
        refine q_o (mz_fe (e := (105, .goto 8, 3, (0, 0, 0), [])) (by decide +kernel)) (pc2 := 113) rfl ?_
        refine q_o (mz_fe (e := (113, .iload_n 1, 1, (0, 0, 0), [])) (by decide +kernel)) (pc2 := 114) rfl ?_
        refine q_o (mz_fe (e := (114, .lload_n 2, 1, (0, 0, 0), [])) (by decide +kernel)) (pc2 := 115) rfl ?_
        refine q_callV (N := 98) (vs := [.ref 23, .int 2, .int y1, .long y2]) (rest := []) (L' := [some (.ref 23), some (.int y1), some (.long y2), none, some (.int v4)]) rfl (mz_fe (e := (115, .invokevirtual 48, 83, (98, 4, 15), [])) (by decide +kernel)) rfl (mz_inv_virt (N := 98) (k := 4) (t := 15) (st := [.long y2, .int y1, .int 2, .ref 23]) (rest := []) (b := 23) (vs := [.int 2, .int y1, .long y2]) (h := (mz_S0, m3)) rfl rfl (Nat.le_of_ble_eq_true rfl) (Nat.le_of_ble_eq_true rfl) tg_23 (by decide)) (mz_dc_lt (n := 5) rfl (by decide +kernel) (by decide +kernel)) (by decide +kernel) (by decide +kernel) (fun m10 => ?_)
        exact q_retV (mz_fe (e := (118, .return_, 1, (0, 0, 0), [])) (by decide +kernel)) (by decide +kernel)
    · refine q_o (mz_fe (e := (81, .aload_n 0, 1, (0, 0, 0), [])) (by decide +kernel)) (pc2 := 82) rfl ?_
      refine q_ic (v := 1) (mz_fe (e := (82, .iconst 1, 1, (0, 0, 0), [])) (by decide +kernel)) (by decide) ?_
      refine q_o (mz_fe (e := (83, .iload_n 1, 1, (0, 0, 0), [])) (by decide +kernel)) (pc2 := 84) rfl ?_
      refine q_o (mz_fe (e := (84, .lconst 0, 1, (0, 0, 0), [])) (by decide +kernel)) (pc2 := 85) (st2 := [.long 0, .int y1, .int 1, .ref 23]) rfl ?_
      refine q_callV (N := 98) (vs := [.ref 23, .int 1, .int y1, .long 0]) (rest := []) (L' := [some (.ref 23), some (.int y1), some (.long y2), none, none]) rfl (mz_fe (e := (85, .invokevirtual 48, 83, (98, 4, 15), [])) (by decide +kernel)) rfl (mz_inv_virt (N := 98) (k := 4) (t := 15) (st := [.long 0, .int y1, .int 1, .ref 23]) (rest := []) (b := 23) (vs := [.int 1, .int y1, .long 0]) (h := (mz_S0, m)) rfl rfl (Nat.le_of_ble_eq_true rfl) (Nat.le_of_ble_eq_true rfl) tg_23 (by decide)) (mz_dc_lt (n := 5) rfl (by decide +kernel) (by decide +kernel)) (by decide +kernel) (by decide +kernel) (fun m13 => ?_)
      refine q_o (mz_fe (e := (88, .goto 30, 3, (0, 0, 0), [])) (by decide +kernel)) (pc2 := 118) rfl ?_
      exact q_retV (mz_fe (e := (118, .return_, 1, (0, 0, 0), [])) (by decide +kernel)) (by decide +kernel)
  · refine q_o (mz_fe (e := (16, .aload_n 0, 1, (0, 0, 0), [])) (by decide +kernel)) (pc2 := 17) rfl ?_
    refine q_getR (b := 2) (mz_fe (e := (17, .getfield 23, 78, (9, 0, 2), [])) (by decide +kernel)) rfl tg_23 (by rw [ln_23]; decide) (mz_rfS (by decide +kernel)) ?_
    refine q_o (mz_fe (e := (20, .aload_n 0, 1, (0, 0, 0), [])) (by decide +kernel)) (pc2 := 21) rfl ?_
    refine q_getI (mz_fe (e := (21, .getfield 27, 79, (9, 5, 0), [])) (by decide +kernel)) rfl (by decide) tg_23 (by rw [ln_23]; decide) ?_
    refine q_callI (N := 80) (vs := [.ref 2, .int (mz_rd m 23 5)]) (rest := []) (L' := [some (.ref 23), some (.int y1), some (.long y2), none, none]) (f := fun v17 m16 => (R_X9_isLetter d v17 m16).bind (fun u21 => if u21.1 = 0 then (if ((mz_rd u21.2 23 5) - y1) ≤ 8 then ((R_X9_wordNumber d y1 u21.2).bind (fun u26 => if (0 : Int32) ≤ u26.1 then ((R_X9_keep d ((13 : Int32) + u26.1) y1 y2 u26.2).bind (fun m28 => some m28)) else ((R_X9_keep d 2 y1 y2 u26.2).bind (fun m31 => some m31)))) else ((R_X9_keep d 1 y1 0 u21.2).bind (fun m34 => some m34))) else ((R_X7_byteAt d (mz_rd u21.2 23 5) u21.2).bind (fun u39 => H_X9_cutWord_2 d y1 ((y2 * 32) + (((u39.1 - 97) + 1) : Int32).toInt64) (mz_wr u39.2 23 5 ((mz_rd u39.2 23 5) + 1)))))) rfl (mz_fe (e := (24, .invokevirtual 40, 81, (80, 2, 13), [])) (by decide +kernel)) rfl (mz_inv_virt (N := 80) (k := 2) (t := 13) (st := [.int (mz_rd m 23 5), .ref 2]) (rest := []) (b := 2) (vs := [.int (mz_rd m 23 5)]) (h := (mz_S0, m)) rfl rfl (Nat.le_of_ble_eq_true rfl) (Nat.le_of_ble_eq_true rfl) tg_2 (by decide)) (mz_dc_lt (n := 2) rfl (by decide +kernel) (by decide +kernel)) (by decide +kernel) (Or.inl (by decide +kernel)) (fun v17 m16 => ?_)
    refine q_callI (N := 104) (vs := [.int v17]) (rest := []) (L' := [some (.ref 23), some (.int y1), some (.long y2), none, none]) (f := fun v20 m19 => if v20 = 0 then (if ((mz_rd m19 23 5) - y1) ≤ 8 then ((R_X9_wordNumber d y1 m19).bind (fun u26 => if (0 : Int32) ≤ u26.1 then ((R_X9_keep d ((13 : Int32) + u26.1) y1 y2 u26.2).bind (fun m28 => some m28)) else ((R_X9_keep d 2 y1 y2 u26.2).bind (fun m31 => some m31)))) else ((R_X9_keep d 1 y1 0 m19).bind (fun m34 => some m34))) else ((R_X7_byteAt d (mz_rd m19 23 5) m19).bind (fun u39 => H_X9_cutWord_2 d y1 ((y2 * 32) + (((u39.1 - 97) + 1) : Int32).toInt64) (mz_wr u39.2 23 5 ((mz_rd u39.2 23 5) + 1))))) rfl (mz_fe (e := (27, .invokestatic 52, 84, (104, 1, 1000), [])) (by decide +kernel)) rfl (mz_inv_stat (N := 104) (k := 1) (st := [.int v17]) (rest := []) (vs := [.int v17]) (h := (mz_S0, m16)) rfl rfl (Nat.le_of_ble_eq_true rfl) (Nat.le_of_ble_eq_true rfl)) (mz_dc_lt (n := 1) rfl (by decide +kernel) (by decide +kernel)) (by decide +kernel) (Or.inr (by decide +kernel)) (fun v20 m19 => ?_)
    refine q_if (c := .eq) (off := 40) (t := 70) (x := v20) (y := 0) (st := []) (mz_fe (e := (30, .ifCond .eq 40, 3, (0, 0, 0), [])) (by decide +kernel)) (fun _ => rfl) rfl rfl rfl (fun c22 => ?_) (fun c22 => ?_)
    · refine q_o (mz_fe (e := (70, .aload_n 0, 1, (0, 0, 0), [])) (by decide +kernel)) (pc2 := 71) rfl ?_
      refine q_getI (mz_fe (e := (71, .getfield 27, 79, (9, 5, 0), [])) (by decide +kernel)) rfl (by decide) tg_23 (by rw [ln_23]; decide) ?_
      refine q_o (mz_fe (e := (74, .iload_n 1, 1, (0, 0, 0), [])) (by decide +kernel)) (pc2 := 75) rfl ?_
      refine q_o (mz_fe (e := (75, .isub, 1, (0, 0, 0), [])) (by decide +kernel)) (pc2 := 76) rfl ?_
      refine q_bi (v := 8) (mz_fe (e := (76, .bipush 8, 2, (0, 0, 0), [])) (by decide +kernel)) (by decide) ?_
      refine q_if (c := .le) (off := 13) (t := 91) (x := ((mz_rd m19 23 5) - y1)) (y := 8) (st := []) (mz_fe (e := (78, .if_icmp .le 13, 3, (0, 0, 0), [])) (by decide +kernel)) (fun _ => rfl) rfl rfl rfl (fun c23 => ?_) (fun c23 => ?_)
      · refine q_o (mz_fe (e := (91, .aload_n 0, 1, (0, 0, 0), [])) (by decide +kernel)) (pc2 := 92) rfl ?_
        refine q_o (mz_fe (e := (92, .iload_n 1, 1, (0, 0, 0), [])) (by decide +kernel)) (pc2 := 93) rfl ?_
        refine q_callI (N := 101) (vs := [.ref 23, .int y1]) (rest := []) (L' := [some (.ref 23), some (.int y1), some (.long y2), none, none]) (f := fun v25 m24 => if (0 : Int32) ≤ v25 then ((R_X9_keep d ((13 : Int32) + v25) y1 y2 m24).bind (fun m28 => some m28)) else ((R_X9_keep d 2 y1 y2 m24).bind (fun m31 => some m31))) rfl (mz_fe (e := (93, .invokevirtual 74, 88, (101, 2, 15), [])) (by decide +kernel)) rfl (mz_inv_virt (N := 101) (k := 2) (t := 15) (st := [.int y1, .ref 23]) (rest := []) (b := 23) (vs := [.int y1]) (h := (mz_S0, m19)) rfl rfl (Nat.le_of_ble_eq_true rfl) (Nat.le_of_ble_eq_true rfl) tg_23 (by decide)) (mz_dc_lt (n := 2) rfl (by decide +kernel) (by decide +kernel)) (by decide +kernel) (Or.inl (by decide +kernel)) (fun v25 m24 => ?_)
        refine q_s (mz_fe (e := (96, .istore 4, 2, (0, 0, 0), [])) (by decide +kernel)) (pc' := 98) (L' := [some (.ref 23), some (.int y1), some (.long y2), none, some (.int v25)]) (st' := []) rfl ?_
        refine q_o (mz_fe (e := (98, .aload_n 0, 1, (0, 0, 0), [])) (by decide +kernel)) (pc2 := 99) rfl ?_
        refine q_o (mz_fe (e := (99, .iload 4, 2, (0, 0, 0), [])) (by decide +kernel)) (pc2 := 101) rfl ?_
        refine q_if (c := .ge) (off := 7) (t := 108) (x := v25) (y := 0) (st := [.ref 23]) (mz_fe (e := (101, .ifCond .ge 7, 3, (0, 0, 0), [])) (by decide +kernel)) (fun _ => rfl) rfl rfl rfl (fun c27 => ?_) (fun c27 => ?_)
        · refine q_bi (v := 13) (mz_fe (e := (108, .bipush 13, 2, (0, 0, 0), [])) (by decide +kernel)) (by decide) ?_
          refine q_o (mz_fe (e := (110, .iload 4, 2, (0, 0, 0), [])) (by decide +kernel)) (pc2 := 112) rfl ?_
          refine q_o (mz_fe (e := (112, .iadd, 1, (0, 0, 0), [])) (by decide +kernel)) (pc2 := 113) rfl ?_
          refine q_o (mz_fe (e := (113, .iload_n 1, 1, (0, 0, 0), [])) (by decide +kernel)) (pc2 := 114) rfl ?_
          refine q_o (mz_fe (e := (114, .lload_n 2, 1, (0, 0, 0), [])) (by decide +kernel)) (pc2 := 115) rfl ?_
          refine q_callV (N := 98) (vs := [.ref 23, .int ((13 : Int32) + v25), .int y1, .long y2]) (rest := []) (L' := [some (.ref 23), some (.int y1), some (.long y2), none, some (.int v25)]) rfl (mz_fe (e := (115, .invokevirtual 48, 83, (98, 4, 15), [])) (by decide +kernel)) rfl (mz_inv_virt (N := 98) (k := 4) (t := 15) (st := [.long y2, .int y1, .int ((13 : Int32) + v25), .ref 23]) (rest := []) (b := 23) (vs := [.int ((13 : Int32) + v25), .int y1, .long y2]) (h := (mz_S0, m24)) rfl rfl (Nat.le_of_ble_eq_true rfl) (Nat.le_of_ble_eq_true rfl) tg_23 (by decide)) (mz_dc_lt (n := 5) rfl (by decide +kernel) (by decide +kernel)) (by decide +kernel) (by decide +kernel) (fun m28 => ?_)
          exact q_retV (mz_fe (e := (118, .return_, 1, (0, 0, 0), [])) (by decide +kernel)) (by decide +kernel)
        · refine q_ic (v := 2) (mz_fe (e := (104, .iconst 2, 1, (0, 0, 0), [])) (by decide +kernel)) (by decide) ?_
          refine q_o (mz_fe (e := (105, .goto 8, 3, (0, 0, 0), [])) (by decide +kernel)) (pc2 := 113) rfl ?_
          refine q_o (mz_fe (e := (113, .iload_n 1, 1, (0, 0, 0), [])) (by decide +kernel)) (pc2 := 114) rfl ?_
          refine q_o (mz_fe (e := (114, .lload_n 2, 1, (0, 0, 0), [])) (by decide +kernel)) (pc2 := 115) rfl ?_
          refine q_callV (N := 98) (vs := [.ref 23, .int 2, .int y1, .long y2]) (rest := []) (L' := [some (.ref 23), some (.int y1), some (.long y2), none, some (.int v25)]) rfl (mz_fe (e := (115, .invokevirtual 48, 83, (98, 4, 15), [])) (by decide +kernel)) rfl (mz_inv_virt (N := 98) (k := 4) (t := 15) (st := [.long y2, .int y1, .int 2, .ref 23]) (rest := []) (b := 23) (vs := [.int 2, .int y1, .long y2]) (h := (mz_S0, m24)) rfl rfl (Nat.le_of_ble_eq_true rfl) (Nat.le_of_ble_eq_true rfl) tg_23 (by decide)) (mz_dc_lt (n := 5) rfl (by decide +kernel) (by decide +kernel)) (by decide +kernel) (by decide +kernel) (fun m31 => ?_)
          exact q_retV (mz_fe (e := (118, .return_, 1, (0, 0, 0), [])) (by decide +kernel)) (by decide +kernel)
      · refine q_o (mz_fe (e := (81, .aload_n 0, 1, (0, 0, 0), [])) (by decide +kernel)) (pc2 := 82) rfl ?_
        refine q_ic (v := 1) (mz_fe (e := (82, .iconst 1, 1, (0, 0, 0), [])) (by decide +kernel)) (by decide) ?_
        refine q_o (mz_fe (e := (83, .iload_n 1, 1, (0, 0, 0), [])) (by decide +kernel)) (pc2 := 84) rfl ?_
        refine q_o (mz_fe (e := (84, .lconst 0, 1, (0, 0, 0), [])) (by decide +kernel)) (pc2 := 85) (st2 := [.long 0, .int y1, .int 1, .ref 23]) rfl ?_
        refine q_callV (N := 98) (vs := [.ref 23, .int 1, .int y1, .long 0]) (rest := []) (L' := [some (.ref 23), some (.int y1), some (.long y2), none, none]) rfl (mz_fe (e := (85, .invokevirtual 48, 83, (98, 4, 15), [])) (by decide +kernel)) rfl (mz_inv_virt (N := 98) (k := 4) (t := 15) (st := [.long 0, .int y1, .int 1, .ref 23]) (rest := []) (b := 23) (vs := [.int 1, .int y1, .long 0]) (h := (mz_S0, m19)) rfl rfl (Nat.le_of_ble_eq_true rfl) (Nat.le_of_ble_eq_true rfl) tg_23 (by decide)) (mz_dc_lt (n := 5) rfl (by decide +kernel) (by decide +kernel)) (by decide +kernel) (by decide +kernel) (fun m34 => ?_)
        refine q_o (mz_fe (e := (88, .goto 30, 3, (0, 0, 0), [])) (by decide +kernel)) (pc2 := 118) rfl ?_
        exact q_retV (mz_fe (e := (118, .return_, 1, (0, 0, 0), [])) (by decide +kernel)) (by decide +kernel)
    · refine q_o (mz_fe (e := (33, .lload_n 2, 1, (0, 0, 0), [])) (by decide +kernel)) (pc2 := 34) rfl ?_
      refine q_ld2 (v := 32) (mz_fe (e := (34, .ldc2_w 72, 1, (32, 0, 0), [])) (by decide +kernel)) (by decide) ?_
      refine q_o (mz_fe (e := (37, .lmul, 1, (0, 0, 0), [])) (by decide +kernel)) (pc2 := 38) rfl ?_
      refine q_o (mz_fe (e := (38, .aload_n 0, 1, (0, 0, 0), [])) (by decide +kernel)) (pc2 := 39) rfl ?_
      refine q_getR (b := 2) (mz_fe (e := (39, .getfield 23, 78, (9, 0, 2), [])) (by decide +kernel)) rfl tg_23 (by rw [ln_23]; decide) (mz_rfS (by decide +kernel)) ?_
      refine q_o (mz_fe (e := (42, .aload_n 0, 1, (0, 0, 0), [])) (by decide +kernel)) (pc2 := 43) rfl ?_
      refine q_getI (mz_fe (e := (43, .getfield 27, 79, (9, 5, 0), [])) (by decide +kernel)) rfl (by decide) tg_23 (by rw [ln_23]; decide) ?_
      refine q_callI (N := 80) (vs := [.ref 2, .int (mz_rd m19 23 5)]) (rest := [.long (y2 * 32)]) (L' := [some (.ref 23), some (.int y1), some (.long y2), none, none]) (f := fun v38 m37 => H_X9_cutWord_2 d y1 ((y2 * 32) + (((v38 - 97) + 1) : Int32).toInt64) (mz_wr m37 23 5 ((mz_rd m37 23 5) + 1))) rfl (mz_fe (e := (46, .invokevirtual 40, 81, (80, 2, 13), [])) (by decide +kernel)) rfl (mz_inv_virt (N := 80) (k := 2) (t := 13) (st := [.int (mz_rd m19 23 5), .ref 2, .long (y2 * 32)]) (rest := [.long (y2 * 32)]) (b := 2) (vs := [.int (mz_rd m19 23 5)]) (h := (mz_S0, m19)) rfl rfl (Nat.le_of_ble_eq_true rfl) (Nat.le_of_ble_eq_true rfl) tg_2 (by decide)) (mz_dc_lt (n := 2) rfl (by decide +kernel) (by decide +kernel)) (by decide +kernel) (Or.inl (by decide +kernel)) (fun v38 m37 => ?_)
      refine q_bi (v := 97) (mz_fe (e := (49, .bipush 97, 2, (0, 0, 0), [])) (by decide +kernel)) (by decide) ?_
      refine q_o (mz_fe (e := (51, .isub, 1, (0, 0, 0), [])) (by decide +kernel)) (pc2 := 52) rfl ?_
      refine q_ic (v := 1) (mz_fe (e := (52, .iconst 1, 1, (0, 0, 0), [])) (by decide +kernel)) (by decide) ?_
      refine q_o (mz_fe (e := (53, .iadd, 1, (0, 0, 0), [])) (by decide +kernel)) (pc2 := 54) rfl ?_
      refine q_o (mz_fe (e := (54, .i2l, 1, (0, 0, 0), [])) (by decide +kernel)) (pc2 := 55) rfl ?_
      refine q_o (mz_fe (e := (55, .ladd, 1, (0, 0, 0), [])) (by decide +kernel)) (pc2 := 56) rfl ?_
      refine q_s (mz_fe (e := (56, .lstore_n 2, 1, (0, 0, 0), [])) (by decide +kernel)) (pc' := 57) (L' := [some (.ref 23), some (.int y1), some (.long ((y2 * 32) + (((v38 - 97) + 1) : Int32).toInt64)), none, none]) (st' := []) rfl ?_
      refine q_o (mz_fe (e := (57, .aload_n 0, 1, (0, 0, 0), [])) (by decide +kernel)) (pc2 := 58) rfl ?_
      refine q_o (mz_fe (e := (58, .dup, 1, (0, 0, 0), [])) (by decide +kernel)) (pc2 := 59) rfl ?_
      refine q_getI (mz_fe (e := (59, .getfield 27, 79, (9, 5, 0), [])) (by decide +kernel)) rfl (by decide) tg_23 (by rw [ln_23]; decide) ?_
      refine q_ic (v := 1) (mz_fe (e := (62, .iconst 1, 1, (0, 0, 0), [])) (by decide +kernel)) (by decide) ?_
      refine q_o (mz_fe (e := (63, .iadd, 1, (0, 0, 0), [])) (by decide +kernel)) (pc2 := 64) rfl ?_
      refine q_putI (mz_fe (e := (64, .putfield 27, 79, (9, 5, 0), [])) (by decide +kernel)) rfl tg_23 (by rw [ln_23]; decide) ?_
      refine q_o (mz_fe (e := (67, .goto (-65), 3, (0, 0, 0), [])) (by decide +kernel)) (pc2 := 2) rfl ?_
      exact congrArg mz_cV (mz_At_msk (L := [some (.ref 23), some (.int y1), some (.long ((y2 * 32) + (((v38 - 97) + 1) : Int32).toInt64)), none, none]) (L2 := [some (.ref 23), some (.int y1), some (.long ((y2 * 32) + (((v38 - 97) + 1) : Int32).toInt64)), none, none]) (mz_fe (e := (2, .aload_n 0, 1, (0, 0, 0), [true, true, true, false, false])) (by decide +kernel)) rfl rfl)
set_option maxRecDepth 10000 in
theorem R_X9_cutInt_eq (d : Nat) (x0 : Int32) (m : MzM)  : R_X9_cutInt d x0 m = H_X9_cutInt_2 d x0 0 m := by
  show mz_cV (mz_T d 100 0 (mz_en (mz_xl 100) [.ref 23, .int x0]) [] m) = _
  rw [show mz_en (mz_xl 100) [.ref 23, .int x0] = [some (.ref 23), some (.int x0), none] from by rw [show mz_xl 100 = 3 from by decide +kernel]; rfl]
  refine q_ic (v := 0) (mz_fe (e := (0, .iconst 0, 1, (0, 0, 0), [])) (by decide +kernel)) (by decide) ?_
  refine q_s (mz_fe (e := (1, .istore_n 2, 1, (0, 0, 0), [])) (by decide +kernel)) (pc' := 2) (L' := [some (.ref 23), some (.int x0), some (.int 0)]) (st' := []) rfl ?_
  exact congrArg mz_cV (mz_At_msk (L := [some (.ref 23), some (.int x0), some (.int 0)]) (L2 := [some (.ref 23), some (.int x0), some (.int 0)]) (mz_fe (e := (2, .aload_n 0, 1, (0, 0, 0), [true, true, true])) (by decide +kernel)) rfl rfl)
set_option maxRecDepth 10000 in
theorem H_X9_cutInt_2_eq (d : Nat) (y1 : Int32) (y2 : Int32) (m : MzM)  : H_X9_cutInt_2 d y1 y2 m = if (mz_rd m 2 1) ≤ (mz_rd m 23 5) then (if ((mz_rd m 23 5) - y1) ≤ 4 then ((R_X9_keep d 3 y1 ((y2 : Int32).toInt64) m).bind (fun m3 => some m3)) else ((R_X9_keep d 1 y1 ((y2 : Int32).toInt64) m).bind (fun m6 => some m6))) else ((R_X7_byteAt d (mz_rd m 23 5) m).bind (fun u11 => (R_X9_isDigit d u11.1 u11.2).bind (fun u14 => if u14.1 = 0 then (if ((mz_rd u14.2 23 5) - y1) ≤ 4 then ((R_X9_keep d 3 y1 ((y2 : Int32).toInt64) u14.2).bind (fun m17 => some m17)) else ((R_X9_keep d 1 y1 ((y2 : Int32).toInt64) u14.2).bind (fun m20 => some m20))) else ((R_X7_byteAt d (mz_rd u14.2 23 5) u14.2).bind (fun u25 => H_X9_cutInt_2 d y1 ((y2 * 10) + (u25.1 - 48)) (mz_wr u25.2 23 5 ((mz_rd u25.2 23 5) + 1))))))) := by
  show mz_cV (mz_T d 100 2 [some (.ref 23), some (.int y1), some (.int y2)] [] m) = _
  refine q_s (mz_fe (e := (2, .aload_n 0, 1, (0, 0, 0), [true, true, true])) (by decide +kernel)) (pc' := 3) (L' := [some (.ref 23), some (.int y1), some (.int y2)]) (st' := [.ref 23]) rfl ?_
  refine q_getI (mz_fe (e := (3, .getfield 27, 79, (9, 5, 0), [])) (by decide +kernel)) rfl (by decide) tg_23 (by rw [ln_23]; decide) ?_
  refine q_o (mz_fe (e := (6, .aload_n 0, 1, (0, 0, 0), [])) (by decide +kernel)) (pc2 := 7) rfl ?_
  refine q_getR (b := 2) (mz_fe (e := (7, .getfield 23, 78, (9, 0, 2), [])) (by decide +kernel)) rfl tg_23 (by rw [ln_23]; decide) (mz_rfS (by decide +kernel)) ?_
  refine q_getI (mz_fe (e := (10, .getfield 37, 81, (7, 1, 0), [])) (by decide +kernel)) rfl (by decide) tg_2 (by rw [ln_2]; decide) ?_
  refine q_if (c := .ge) (off := 53) (t := 66) (x := (mz_rd m 23 5)) (y := (mz_rd m 2 1)) (st := []) (mz_fe (e := (13, .if_icmp .ge 53, 3, (0, 0, 0), [])) (by decide +kernel)) (fun _ => rfl) rfl rfl rfl (fun c1 => ?_) (fun c1 => ?_)
  · refine q_o (mz_fe (e := (66, .aload_n 0, 1, (0, 0, 0), [])) (by decide +kernel)) (pc2 := 67) rfl ?_
    refine q_o (mz_fe (e := (67, .aload_n 0, 1, (0, 0, 0), [])) (by decide +kernel)) (pc2 := 68) rfl ?_
    refine q_getI (mz_fe (e := (68, .getfield 27, 79, (9, 5, 0), [])) (by decide +kernel)) rfl (by decide) tg_23 (by rw [ln_23]; decide) ?_
    refine q_o (mz_fe (e := (71, .iload_n 1, 1, (0, 0, 0), [])) (by decide +kernel)) (pc2 := 72) rfl ?_
    refine q_o (mz_fe (e := (72, .isub, 1, (0, 0, 0), [])) (by decide +kernel)) (pc2 := 73) rfl ?_
    refine q_ic (v := 4) (mz_fe (e := (73, .iconst 4, 1, (0, 0, 0), [])) (by decide +kernel)) (by decide) ?_
    refine q_if (c := .le) (off := 7) (t := 81) (x := ((mz_rd m 23 5) - y1)) (y := 4) (st := [.ref 23]) (mz_fe (e := (74, .if_icmp .le 7, 3, (0, 0, 0), [])) (by decide +kernel)) (fun _ => rfl) rfl rfl rfl (fun c2 => ?_) (fun c2 => ?_)
    · refine q_ic (v := 3) (mz_fe (e := (81, .iconst 3, 1, (0, 0, 0), [])) (by decide +kernel)) (by decide) ?_
      refine q_o (mz_fe (e := (82, .iload_n 1, 1, (0, 0, 0), [])) (by decide +kernel)) (pc2 := 83) rfl ?_
      refine q_o (mz_fe (e := (83, .iload_n 2, 1, (0, 0, 0), [])) (by decide +kernel)) (pc2 := 84) rfl ?_
      refine q_o (mz_fe (e := (84, .i2l, 1, (0, 0, 0), [])) (by decide +kernel)) (pc2 := 85) rfl ?_
      refine q_callV (N := 98) (vs := [.ref 23, .int 3, .int y1, .long (y2 : Int32).toInt64]) (rest := []) (L' := [some (.ref 23), some (.int y1), some (.int y2)]) rfl (mz_fe (e := (85, .invokevirtual 48, 83, (98, 4, 15), [])) (by decide +kernel)) rfl (mz_inv_virt (N := 98) (k := 4) (t := 15) (st := [.long (y2 : Int32).toInt64, .int y1, .int 3, .ref 23]) (rest := []) (b := 23) (vs := [.int 3, .int y1, .long (y2 : Int32).toInt64]) (h := (mz_S0, m)) rfl rfl (Nat.le_of_ble_eq_true rfl) (Nat.le_of_ble_eq_true rfl) tg_23 (by decide)) (mz_dc_lt (n := 5) rfl (by decide +kernel) (by decide +kernel)) (by decide +kernel) (by decide +kernel) (fun m3 => ?_)
      exact q_retV (mz_fe (e := (88, .return_, 1, (0, 0, 0), [])) (by decide +kernel)) (by decide +kernel)
    · refine q_ic (v := 1) (mz_fe (e := (77, .iconst 1, 1, (0, 0, 0), [])) (by decide +kernel)) (by decide) ?_
      refine q_o (mz_fe (e := (78, .goto 4, 3, (0, 0, 0), [])) (by decide +kernel)) (pc2 := 82) rfl ?_
      refine q_o (mz_fe (e := (82, .iload_n 1, 1, (0, 0, 0), [])) (by decide +kernel)) (pc2 := 83) rfl ?_
      refine q_o (mz_fe (e := (83, .iload_n 2, 1, (0, 0, 0), [])) (by decide +kernel)) (pc2 := 84) rfl ?_
      refine q_o (mz_fe (e := (84, .i2l, 1, (0, 0, 0), [])) (by decide +kernel)) (pc2 := 85) rfl ?_
      refine q_callV (N := 98) (vs := [.ref 23, .int 1, .int y1, .long (y2 : Int32).toInt64]) (rest := []) (L' := [some (.ref 23), some (.int y1), some (.int y2)]) rfl (mz_fe (e := (85, .invokevirtual 48, 83, (98, 4, 15), [])) (by decide +kernel)) rfl (mz_inv_virt (N := 98) (k := 4) (t := 15) (st := [.long (y2 : Int32).toInt64, .int y1, .int 1, .ref 23]) (rest := []) (b := 23) (vs := [.int 1, .int y1, .long (y2 : Int32).toInt64]) (h := (mz_S0, m)) rfl rfl (Nat.le_of_ble_eq_true rfl) (Nat.le_of_ble_eq_true rfl) tg_23 (by decide)) (mz_dc_lt (n := 5) rfl (by decide +kernel) (by decide +kernel)) (by decide +kernel) (by decide +kernel) (fun m6 => ?_)
      exact q_retV (mz_fe (e := (88, .return_, 1, (0, 0, 0), [])) (by decide +kernel)) (by decide +kernel)
  · refine q_o (mz_fe (e := (16, .aload_n 0, 1, (0, 0, 0), [])) (by decide +kernel)) (pc2 := 17) rfl ?_
    refine q_getR (b := 2) (mz_fe (e := (17, .getfield 23, 78, (9, 0, 2), [])) (by decide +kernel)) rfl tg_23 (by rw [ln_23]; decide) (mz_rfS (by decide +kernel)) ?_
    refine q_o (mz_fe (e := (20, .aload_n 0, 1, (0, 0, 0), [])) (by decide +kernel)) (pc2 := 21) rfl ?_
    refine q_getI (mz_fe (e := (21, .getfield 27, 79, (9, 5, 0), [])) (by decide +kernel)) rfl (by decide) tg_23 (by rw [ln_23]; decide) ?_
    refine q_callI (N := 80) (vs := [.ref 2, .int (mz_rd m 23 5)]) (rest := []) (L' := [some (.ref 23), some (.int y1), some (.int y2)]) (f := fun v10 m9 => (R_X9_isDigit d v10 m9).bind (fun u14 => if u14.1 = 0 then (if ((mz_rd u14.2 23 5) - y1) ≤ 4 then ((R_X9_keep d 3 y1 ((y2 : Int32).toInt64) u14.2).bind (fun m17 => some m17)) else ((R_X9_keep d 1 y1 ((y2 : Int32).toInt64) u14.2).bind (fun m20 => some m20))) else ((R_X7_byteAt d (mz_rd u14.2 23 5) u14.2).bind (fun u25 => H_X9_cutInt_2 d y1 ((y2 * 10) + (u25.1 - 48)) (mz_wr u25.2 23 5 ((mz_rd u25.2 23 5) + 1)))))) rfl (mz_fe (e := (24, .invokevirtual 40, 81, (80, 2, 13), [])) (by decide +kernel)) rfl (mz_inv_virt (N := 80) (k := 2) (t := 13) (st := [.int (mz_rd m 23 5), .ref 2]) (rest := []) (b := 2) (vs := [.int (mz_rd m 23 5)]) (h := (mz_S0, m)) rfl rfl (Nat.le_of_ble_eq_true rfl) (Nat.le_of_ble_eq_true rfl) tg_2 (by decide)) (mz_dc_lt (n := 2) rfl (by decide +kernel) (by decide +kernel)) (by decide +kernel) (Or.inl (by decide +kernel)) (fun v10 m9 => ?_)
    refine q_callI (N := 105) (vs := [.int v10]) (rest := []) (L' := [some (.ref 23), some (.int y1), some (.int y2)]) (f := fun v13 m12 => if v13 = 0 then (if ((mz_rd m12 23 5) - y1) ≤ 4 then ((R_X9_keep d 3 y1 ((y2 : Int32).toInt64) m12).bind (fun m17 => some m17)) else ((R_X9_keep d 1 y1 ((y2 : Int32).toInt64) m12).bind (fun m20 => some m20))) else ((R_X7_byteAt d (mz_rd m12 23 5) m12).bind (fun u25 => H_X9_cutInt_2 d y1 ((y2 * 10) + (u25.1 - 48)) (mz_wr u25.2 23 5 ((mz_rd u25.2 23 5) + 1))))) rfl (mz_fe (e := (27, .invokestatic 59, 86, (105, 1, 1000), [])) (by decide +kernel)) rfl (mz_inv_stat (N := 105) (k := 1) (st := [.int v10]) (rest := []) (vs := [.int v10]) (h := (mz_S0, m9)) rfl rfl (Nat.le_of_ble_eq_true rfl) (Nat.le_of_ble_eq_true rfl)) (mz_dc_lt (n := 1) rfl (by decide +kernel) (by decide +kernel)) (by decide +kernel) (Or.inr (by decide +kernel)) (fun v13 m12 => ?_)
    refine q_if (c := .eq) (off := 36) (t := 66) (x := v13) (y := 0) (st := []) (mz_fe (e := (30, .ifCond .eq 36, 3, (0, 0, 0), [])) (by decide +kernel)) (fun _ => rfl) rfl rfl rfl (fun c15 => ?_) (fun c15 => ?_)
    · refine q_o (mz_fe (e := (66, .aload_n 0, 1, (0, 0, 0), [])) (by decide +kernel)) (pc2 := 67) rfl ?_
      refine q_o (mz_fe (e := (67, .aload_n 0, 1, (0, 0, 0), [])) (by decide +kernel)) (pc2 := 68) rfl ?_
      refine q_getI (mz_fe (e := (68, .getfield 27, 79, (9, 5, 0), [])) (by decide +kernel)) rfl (by decide) tg_23 (by rw [ln_23]; decide) ?_
      refine q_o (mz_fe (e := (71, .iload_n 1, 1, (0, 0, 0), [])) (by decide +kernel)) (pc2 := 72) rfl ?_
      refine q_o (mz_fe (e := (72, .isub, 1, (0, 0, 0), [])) (by decide +kernel)) (pc2 := 73) rfl ?_
      refine q_ic (v := 4) (mz_fe (e := (73, .iconst 4, 1, (0, 0, 0), [])) (by decide +kernel)) (by decide) ?_
      refine q_if (c := .le) (off := 7) (t := 81) (x := ((mz_rd m12 23 5) - y1)) (y := 4) (st := [.ref 23]) (mz_fe (e := (74, .if_icmp .le 7, 3, (0, 0, 0), [])) (by decide +kernel)) (fun _ => rfl) rfl rfl rfl (fun c16 => ?_) (fun c16 => ?_)
      · refine q_ic (v := 3) (mz_fe (e := (81, .iconst 3, 1, (0, 0, 0), [])) (by decide +kernel)) (by decide) ?_
        refine q_o (mz_fe (e := (82, .iload_n 1, 1, (0, 0, 0), [])) (by decide +kernel)) (pc2 := 83) rfl ?_
        refine q_o (mz_fe (e := (83, .iload_n 2, 1, (0, 0, 0), [])) (by decide +kernel)) (pc2 := 84) rfl ?_
        refine q_o (mz_fe (e := (84, .i2l, 1, (0, 0, 0), [])) (by decide +kernel)) (pc2 := 85) rfl ?_
        refine q_callV (N := 98) (vs := [.ref 23, .int 3, .int y1, .long (y2 : Int32).toInt64]) (rest := []) (L' := [some (.ref 23), some (.int y1), some (.int y2)]) rfl (mz_fe (e := (85, .invokevirtual 48, 83, (98, 4, 15), [])) (by decide +kernel)) rfl (mz_inv_virt (N := 98) (k := 4) (t := 15) (st := [.long (y2 : Int32).toInt64, .int y1, .int 3, .ref 23]) (rest := []) (b := 23) (vs := [.int 3, .int y1, .long (y2 : Int32).toInt64]) (h := (mz_S0, m12)) rfl rfl (Nat.le_of_ble_eq_true rfl) (Nat.le_of_ble_eq_true rfl) tg_23 (by decide)) (mz_dc_lt (n := 5) rfl (by decide +kernel) (by decide +kernel)) (by decide +kernel) (by decide +kernel) (fun m17 => ?_)
        exact q_retV (mz_fe (e := (88, .return_, 1, (0, 0, 0), [])) (by decide +kernel)) (by decide +kernel)
      · refine q_ic (v := 1) (mz_fe (e := (77, .iconst 1, 1, (0, 0, 0), [])) (by decide +kernel)) (by decide) ?_
        refine q_o (mz_fe (e := (78, .goto 4, 3, (0, 0, 0), [])) (by decide +kernel)) (pc2 := 82) rfl ?_
        refine q_o (mz_fe (e := (82, .iload_n 1, 1, (0, 0, 0), [])) (by decide +kernel)) (pc2 := 83) rfl ?_
        refine q_o (mz_fe (e := (83, .iload_n 2, 1, (0, 0, 0), [])) (by decide +kernel)) (pc2 := 84) rfl ?_
        refine q_o (mz_fe (e := (84, .i2l, 1, (0, 0, 0), [])) (by decide +kernel)) (pc2 := 85) rfl ?_
        refine q_callV (N := 98) (vs := [.ref 23, .int 1, .int y1, .long (y2 : Int32).toInt64]) (rest := []) (L' := [some (.ref 23), some (.int y1), some (.int y2)]) rfl (mz_fe (e := (85, .invokevirtual 48, 83, (98, 4, 15), [])) (by decide +kernel)) rfl (mz_inv_virt (N := 98) (k := 4) (t := 15) (st := [.long (y2 : Int32).toInt64, .int y1, .int 1, .ref 23]) (rest := []) (b := 23) (vs := [.int 1, .int y1, .long (y2 : Int32).toInt64]) (h := (mz_S0, m12)) rfl rfl (Nat.le_of_ble_eq_true rfl) (Nat.le_of_ble_eq_true rfl) tg_23 (by decide)) (mz_dc_lt (n := 5) rfl (by decide +kernel) (by decide +kernel)) (by decide +kernel) (by decide +kernel) (fun m20 => ?_)
        exact q_retV (mz_fe (e := (88, .return_, 1, (0, 0, 0), [])) (by decide +kernel)) (by decide +kernel)
    · refine q_o (mz_fe (e := (33, .iload_n 2, 1, (0, 0, 0), [])) (by decide +kernel)) (pc2 := 34) rfl ?_
      refine q_bi (v := 10) (mz_fe (e := (34, .bipush 10, 2, (0, 0, 0), [])) (by decide +kernel)) (by decide) ?_
      refine q_o (mz_fe (e := (36, .imul, 1, (0, 0, 0), [])) (by decide +kernel)) (pc2 := 37) rfl ?_
      refine q_o (mz_fe (e := (37, .aload_n 0, 1, (0, 0, 0), [])) (by decide +kernel)) (pc2 := 38) rfl ?_
      refine q_getR (b := 2) (mz_fe (e := (38, .getfield 23, 78, (9, 0, 2), [])) (by decide +kernel)) rfl tg_23 (by rw [ln_23]; decide) (mz_rfS (by decide +kernel)) ?_
      refine q_o (mz_fe (e := (41, .aload_n 0, 1, (0, 0, 0), [])) (by decide +kernel)) (pc2 := 42) rfl ?_
      refine q_getI (mz_fe (e := (42, .getfield 27, 79, (9, 5, 0), [])) (by decide +kernel)) rfl (by decide) tg_23 (by rw [ln_23]; decide) ?_
      refine q_callI (N := 80) (vs := [.ref 2, .int (mz_rd m12 23 5)]) (rest := [.int (y2 * 10)]) (L' := [some (.ref 23), some (.int y1), some (.int y2)]) (f := fun v24 m23 => H_X9_cutInt_2 d y1 ((y2 * 10) + (v24 - 48)) (mz_wr m23 23 5 ((mz_rd m23 23 5) + 1))) rfl (mz_fe (e := (45, .invokevirtual 40, 81, (80, 2, 13), [])) (by decide +kernel)) rfl (mz_inv_virt (N := 80) (k := 2) (t := 13) (st := [.int (mz_rd m12 23 5), .ref 2, .int (y2 * 10)]) (rest := [.int (y2 * 10)]) (b := 2) (vs := [.int (mz_rd m12 23 5)]) (h := (mz_S0, m12)) rfl rfl (Nat.le_of_ble_eq_true rfl) (Nat.le_of_ble_eq_true rfl) tg_2 (by decide)) (mz_dc_lt (n := 2) rfl (by decide +kernel) (by decide +kernel)) (by decide +kernel) (Or.inl (by decide +kernel)) (fun v24 m23 => ?_)
      refine q_bi (v := 48) (mz_fe (e := (48, .bipush 48, 2, (0, 0, 0), [])) (by decide +kernel)) (by decide) ?_
      refine q_o (mz_fe (e := (50, .isub, 1, (0, 0, 0), [])) (by decide +kernel)) (pc2 := 51) rfl ?_
      refine q_o (mz_fe (e := (51, .iadd, 1, (0, 0, 0), [])) (by decide +kernel)) (pc2 := 52) rfl ?_
      refine q_s (mz_fe (e := (52, .istore_n 2, 1, (0, 0, 0), [])) (by decide +kernel)) (pc' := 53) (L' := [some (.ref 23), some (.int y1), some (.int ((y2 * 10) + (v24 - 48)))]) (st' := []) rfl ?_
      refine q_o (mz_fe (e := (53, .aload_n 0, 1, (0, 0, 0), [])) (by decide +kernel)) (pc2 := 54) rfl ?_
      refine q_o (mz_fe (e := (54, .dup, 1, (0, 0, 0), [])) (by decide +kernel)) (pc2 := 55) rfl ?_
      refine q_getI (mz_fe (e := (55, .getfield 27, 79, (9, 5, 0), [])) (by decide +kernel)) rfl (by decide) tg_23 (by rw [ln_23]; decide) ?_
      refine q_ic (v := 1) (mz_fe (e := (58, .iconst 1, 1, (0, 0, 0), [])) (by decide +kernel)) (by decide) ?_
      refine q_o (mz_fe (e := (59, .iadd, 1, (0, 0, 0), [])) (by decide +kernel)) (pc2 := 60) rfl ?_
      refine q_putI (mz_fe (e := (60, .putfield 27, 79, (9, 5, 0), [])) (by decide +kernel)) rfl tg_23 (by rw [ln_23]; decide) ?_
      refine q_o (mz_fe (e := (63, .goto (-61), 3, (0, 0, 0), [])) (by decide +kernel)) (pc2 := 2) rfl ?_
      exact congrArg mz_cV (mz_At_msk (L := [some (.ref 23), some (.int y1), some (.int ((y2 * 10) + (v24 - 48)))]) (L2 := [some (.ref 23), some (.int y1), some (.int ((y2 * 10) + (v24 - 48)))]) (mz_fe (e := (2, .aload_n 0, 1, (0, 0, 0), [true, true, true])) (by decide +kernel)) rfl rfl)
set_option maxRecDepth 10000 in
theorem R_X9_wordNumber_eq (d : Nat) (x0 : Int32) (m : MzM)  : R_X9_wordNumber d x0 m = H_X9_wordNumber_2 d x0 0 m := by
  show mz_cI (mz_T d 101 0 (mz_en (mz_xl 101) [.ref 23, .int x0]) [] m) = _
  rw [show mz_en (mz_xl 101) [.ref 23, .int x0] = [some (.ref 23), some (.int x0), none] from by rw [show mz_xl 101 = 3 from by decide +kernel]; rfl]
  refine q_ic (v := 0) (mz_fe (e := (0, .iconst 0, 1, (0, 0, 0), [])) (by decide +kernel)) (by decide) ?_
  refine q_s (mz_fe (e := (1, .istore_n 2, 1, (0, 0, 0), [])) (by decide +kernel)) (pc' := 2) (L' := [some (.ref 23), some (.int x0), some (.int 0)]) (st' := []) rfl ?_
  exact congrArg mz_cI (mz_At_msk (L := [some (.ref 23), some (.int x0), some (.int 0)]) (L2 := [some (.ref 23), some (.int x0), some (.int 0)]) (mz_fe (e := (2, .iload_n 2, 1, (0, 0, 0), [true, true, true])) (by decide +kernel)) rfl rfl)
set_option maxRecDepth 10000 in
theorem H_X9_wordNumber_2_eq (d : Nat) (y1 : Int32) (y2 : Int32) (m : MzM)  : H_X9_wordNumber_2 d y1 y2 m = if (nI 168) < (y2 + 8) then (some ((-1), m)) else ((R_X9_isWord d y2 y1 m).bind (fun u4 => if u4.1 = 0 then (H_X9_wordNumber_2 d y1 (y2 + 8) u4.2) else (some ((y2 / 8), u4.2)))) := by
  show mz_cI (mz_T d 101 2 [some (.ref 23), some (.int y1), some (.int y2)] [] m) = _
  refine q_s (mz_fe (e := (2, .iload_n 2, 1, (0, 0, 0), [true, true, true])) (by decide +kernel)) (pc' := 3) (L' := [some (.ref 23), some (.int y1), some (.int y2)]) (st' := [.int y2]) rfl ?_
  refine q_bi (v := 8) (mz_fe (e := (3, .bipush 8, 2, (0, 0, 0), [])) (by decide +kernel)) (by decide) ?_
  refine q_o (mz_fe (e := (5, .iadd, 1, (0, 0, 0), [])) (by decide +kernel)) (pc2 := 6) rfl ?_
  refine q_o (mz_fe (e := (6, .ldc 77, 2, (1, 0, 1), [])) (by decide +kernel)) (pc2 := 8) (st2 := [.ref 1000001, .int (y2 + 8)]) rfl ?_
  refine q_sln (n := 168) (mz_fe (e := (8, .invokevirtual 79, 3, (9990, 0, 0), [])) (by decide +kernel)) (by decide) (by decide) (Nat.le_of_ble_eq_true rfl) ?_
  refine q_if (c := .gt) (off := 23) (t := 34) (x := (y2 + 8)) (y := (nI 168)) (st := []) (mz_fe (e := (11, .if_icmp .gt 23, 3, (0, 0, 0), [])) (by decide +kernel)) (fun _ => rfl) rfl rfl rfl (fun c1 => ?_) (fun c1 => ?_)
  · refine q_ic (v := (-1)) (mz_fe (e := (34, .iconst (-1), 1, (0, 0, 0), [])) (by decide +kernel)) (by decide) ?_
    exact q_retI (mz_fe (e := (35, .ireturn, 1, (0, 0, 0), [])) (by decide +kernel)) (by decide +kernel)
  · refine q_o (mz_fe (e := (14, .aload_n 0, 1, (0, 0, 0), [])) (by decide +kernel)) (pc2 := 15) rfl ?_
    refine q_o (mz_fe (e := (15, .iload_n 2, 1, (0, 0, 0), [])) (by decide +kernel)) (pc2 := 16) rfl ?_
    refine q_o (mz_fe (e := (16, .iload_n 1, 1, (0, 0, 0), [])) (by decide +kernel)) (pc2 := 17) rfl ?_
    refine q_callI (N := 102) (vs := [.ref 23, .int y2, .int y1]) (rest := []) (L' := [some (.ref 23), some (.int y1), some (.int y2)]) (f := fun v3 m2 => if v3 = 0 then (H_X9_wordNumber_2 d y1 (y2 + 8) m2) else (some ((y2 / 8), m2))) rfl (mz_fe (e := (17, .invokevirtual 83, 89, (102, 3, 15), [])) (by decide +kernel)) rfl (mz_inv_virt (N := 102) (k := 3) (t := 15) (st := [.int y1, .int y2, .ref 23]) (rest := []) (b := 23) (vs := [.int y2, .int y1]) (h := (mz_S0, m)) rfl rfl (Nat.le_of_ble_eq_true rfl) (Nat.le_of_ble_eq_true rfl) tg_23 (by decide)) (mz_dc_lt (n := 3) rfl (by decide +kernel) (by decide +kernel)) (by decide +kernel) (Or.inr (by decide +kernel)) (fun v3 m2 => ?_)
    refine q_if (c := .eq) (off := 8) (t := 28) (x := v3) (y := 0) (st := []) (mz_fe (e := (20, .ifCond .eq 8, 3, (0, 0, 0), [])) (by decide +kernel)) (fun _ => rfl) rfl rfl rfl (fun c5 => ?_) (fun c5 => ?_)
    · refine q_iinc (v := y2) (c := 8) (L3 := [some (.ref 23), some (.int y1), some (.int (y2 + 8))]) (mz_fe (e := (28, .iinc 2 8, 3, (0, 0, 0), [])) (by decide +kernel)) rfl rfl (by decide) rfl ?_
      refine q_o (mz_fe (e := (31, .goto (-29), 3, (0, 0, 0), [])) (by decide +kernel)) (pc2 := 2) rfl ?_
      exact congrArg mz_cI (mz_At_msk (L := [some (.ref 23), some (.int y1), some (.int (y2 + 8))]) (L2 := [some (.ref 23), some (.int y1), some (.int (y2 + 8))]) (mz_fe (e := (2, .iload_n 2, 1, (0, 0, 0), [true, true, true])) (by decide +kernel)) rfl rfl)
    · refine q_o (mz_fe (e := (23, .iload_n 2, 1, (0, 0, 0), [])) (by decide +kernel)) (pc2 := 24) rfl ?_
      refine q_bi (v := 8) (mz_fe (e := (24, .bipush 8, 2, (0, 0, 0), [])) (by decide +kernel)) (by decide) ?_
      refine q_o (mz_fe (e := (26, .idiv, 1, (0, 0, 0), [])) (by decide +kernel)) (pc2 := 27) rfl ?_
      exact q_retI (mz_fe (e := (27, .ireturn, 1, (0, 0, 0), [])) (by decide +kernel)) (by decide +kernel)
set_option maxRecDepth 10000 in
theorem R_X9_isWord_eq (d : Nat) (x0 : Int32) (x1 : Int32) (m : MzM)  : R_X9_isWord d x0 x1 m = H_X9_isWord_2 d x0 x1 0 m := by
  show mz_cI (mz_T d 102 0 (mz_en (mz_xl 102) [.ref 23, .int x0, .int x1]) [] m) = _
  rw [show mz_en (mz_xl 102) [.ref 23, .int x0, .int x1] = [some (.ref 23), some (.int x0), some (.int x1), none, none] from by rw [show mz_xl 102 = 5 from by decide +kernel]; rfl]
  refine q_ic (v := 0) (mz_fe (e := (0, .iconst 0, 1, (0, 0, 0), [])) (by decide +kernel)) (by decide) ?_
  refine q_s (mz_fe (e := (1, .istore_n 3, 1, (0, 0, 0), [])) (by decide +kernel)) (pc' := 2) (L' := [some (.ref 23), some (.int x0), some (.int x1), some (.int 0), none]) (st' := []) rfl ?_
  exact congrArg mz_cI (mz_At_msk (L := [some (.ref 23), some (.int x0), some (.int x1), some (.int 0), none]) (L2 := [some (.ref 23), some (.int x0), some (.int x1), some (.int 0), none]) (mz_fe (e := (2, .iload_n 3, 1, (0, 0, 0), [true, true, true, true, false])) (by decide +kernel)) rfl rfl)
set_option maxRecDepth 10000 in
theorem H_X9_isWord_2_eq (d : Nat) (y1 : Int32) (y2 : Int32) (y3 : Int32) (m : MzM)  : H_X9_isWord_2 d y1 y2 y3 m = if (8 : Int32) ≤ y3 then (some (1, m)) else (if (mz_rd m 23 5) ≤ (y2 + y3) then (mz_g (mz_ok (y1 + y3) 168) (if ((mz_sb 1000001).getD ((y1 + y3) : Int32).toNatClampNeg 0) = 32 then (H_X9_isWord_2 d y1 y2 (y3 + 1) m) else (some (0, m)))) else ((R_X7_byteAt d (y2 + y3) m).bind (fun u7 => mz_g (mz_ok (y1 + y3) 168) (if ((mz_sb 1000001).getD ((y1 + y3) : Int32).toNatClampNeg 0) = u7.1 then (H_X9_isWord_2 d y1 y2 (y3 + 1) u7.2) else (some (0, u7.2)))))) := by
  show mz_cI (mz_T d 102 2 [some (.ref 23), some (.int y1), some (.int y2), some (.int y3), none] [] m) = _
  refine q_s (mz_fe (e := (2, .iload_n 3, 1, (0, 0, 0), [true, true, true, true, false])) (by decide +kernel)) (pc' := 3) (L' := [some (.ref 23), some (.int y1), some (.int y2), some (.int y3), none]) (st' := [.int y3]) rfl ?_
  refine q_bi (v := 8) (mz_fe (e := (3, .bipush 8, 2, (0, 0, 0), [])) (by decide +kernel)) (by decide) ?_
  refine q_if (c := .ge) (off := 51) (t := 56) (x := y3) (y := 8) (st := []) (mz_fe (e := (5, .if_icmp .ge 51, 3, (0, 0, 0), [])) (by decide +kernel)) (fun _ => rfl) rfl rfl rfl (fun c1 => ?_) (fun c1 => ?_)
  · refine q_ic (v := 1) (mz_fe (e := (56, .iconst 1, 1, (0, 0, 0), [])) (by decide +kernel)) (by decide) ?_
    exact q_retZ (mz_fe (e := (57, .ireturn, 1, (0, 0, 0), [])) (by decide +kernel)) (by decide +kernel) (by decide)
  · refine q_o (mz_fe (e := (8, .iload_n 2, 1, (0, 0, 0), [])) (by decide +kernel)) (pc2 := 9) rfl ?_
    refine q_o (mz_fe (e := (9, .iload_n 3, 1, (0, 0, 0), [])) (by decide +kernel)) (pc2 := 10) rfl ?_
    refine q_o (mz_fe (e := (10, .iadd, 1, (0, 0, 0), [])) (by decide +kernel)) (pc2 := 11) rfl ?_
    refine q_o (mz_fe (e := (11, .aload_n 0, 1, (0, 0, 0), [])) (by decide +kernel)) (pc2 := 12) rfl ?_
    refine q_getI (mz_fe (e := (12, .getfield 27, 79, (9, 5, 0), [])) (by decide +kernel)) rfl (by decide) tg_23 (by rw [ln_23]; decide) ?_
    refine q_if (c := .ge) (off := 16) (t := 31) (x := (y2 + y3)) (y := (mz_rd m 23 5)) (st := []) (mz_fe (e := (15, .if_icmp .ge 16, 3, (0, 0, 0), [])) (by decide +kernel)) (fun _ => rfl) rfl rfl rfl (fun c2 => ?_) (fun c2 => ?_)
    · refine q_bi (v := 32) (mz_fe (e := (31, .bipush 32, 2, (0, 0, 0), [])) (by decide +kernel)) (by decide) ?_
      refine q_s (mz_fe (e := (33, .istore 4, 2, (0, 0, 0), [])) (by decide +kernel)) (pc' := 35) (L' := [some (.ref 23), some (.int y1), some (.int y2), some (.int y3), some (.int 32)]) (st' := []) rfl ?_
      refine q_o (mz_fe (e := (35, .ldc 77, 2, (1, 0, 1), [])) (by decide +kernel)) (pc2 := 37) (st2 := [.ref 1000001]) rfl ?_
      refine q_o (mz_fe (e := (37, .iload_n 1, 1, (0, 0, 0), [])) (by decide +kernel)) (pc2 := 38) rfl ?_
      refine q_o (mz_fe (e := (38, .iload_n 3, 1, (0, 0, 0), [])) (by decide +kernel)) (pc2 := 39) rfl ?_
      refine q_o (mz_fe (e := (39, .iadd, 1, (0, 0, 0), [])) (by decide +kernel)) (pc2 := 40) rfl ?_
      refine q_schg (n := 168) rfl (mz_fe (e := (40, .invokevirtual 87, 3, (9991, 0, 0), [])) (by decide +kernel)) (by decide) (by decide) (Nat.le_of_ble_eq_true rfl) (fun g3 => ?_)
      refine q_o (mz_fe (e := (43, .iload 4, 2, (0, 0, 0), [])) (by decide +kernel)) (pc2 := 45) rfl ?_
      refine q_if (c := .eq) (off := 5) (t := 50) (x := ((mz_sb 1000001).getD ((y1 + y3) : Int32).toNatClampNeg 0)) (y := 32) (st := []) (mz_fe (e := (45, .if_icmp .eq 5, 3, (0, 0, 0), [])) (by decide +kernel)) (fun _ => rfl) rfl rfl rfl (fun c4 => ?_) (fun c4 => ?_)
      · refine q_iinc (v := y3) (c := 1) (L3 := [some (.ref 23), some (.int y1), some (.int y2), some (.int (y3 + 1)), some (.int 32)]) (mz_fe (e := (50, .iinc 3 1, 3, (0, 0, 0), [])) (by decide +kernel)) rfl rfl (by decide) rfl ?_
        refine q_o (mz_fe (e := (53, .goto (-51), 3, (0, 0, 0), [])) (by decide +kernel)) (pc2 := 2) rfl ?_
        exact congrArg mz_cI (mz_At_msk (L := [some (.ref 23), some (.int y1), some (.int y2), some (.int (y3 + 1)), some (.int 32)]) (L2 := [some (.ref 23), some (.int y1), some (.int y2), some (.int (y3 + 1)), none]) (mz_fe (e := (2, .iload_n 3, 1, (0, 0, 0), [true, true, true, true, false])) (by decide +kernel)) rfl rfl)
      · refine q_ic (v := 0) (mz_fe (e := (48, .iconst 0, 1, (0, 0, 0), [])) (by decide +kernel)) (by decide) ?_
        exact q_retZ (mz_fe (e := (49, .ireturn, 1, (0, 0, 0), [])) (by decide +kernel)) (by decide +kernel) (by decide)
    · refine q_o (mz_fe (e := (18, .aload_n 0, 1, (0, 0, 0), [])) (by decide +kernel)) (pc2 := 19) rfl ?_
      refine q_getR (b := 2) (mz_fe (e := (19, .getfield 23, 78, (9, 0, 2), [])) (by decide +kernel)) rfl tg_23 (by rw [ln_23]; decide) (mz_rfS (by decide +kernel)) ?_
      refine q_o (mz_fe (e := (22, .iload_n 2, 1, (0, 0, 0), [])) (by decide +kernel)) (pc2 := 23) rfl ?_
      refine q_o (mz_fe (e := (23, .iload_n 3, 1, (0, 0, 0), [])) (by decide +kernel)) (pc2 := 24) rfl ?_
      refine q_o (mz_fe (e := (24, .iadd, 1, (0, 0, 0), [])) (by decide +kernel)) (pc2 := 25) rfl ?_
      refine q_callI (N := 80) (vs := [.ref 2, .int (y2 + y3)]) (rest := []) (L' := [some (.ref 23), some (.int y1), some (.int y2), some (.int y3), none]) (f := fun v6 m5 => mz_g (mz_ok (y1 + y3) 168) (if ((mz_sb 1000001).getD ((y1 + y3) : Int32).toNatClampNeg 0) = v6 then (H_X9_isWord_2 d y1 y2 (y3 + 1) m5) else (some (0, m5)))) rfl (mz_fe (e := (25, .invokevirtual 40, 81, (80, 2, 13), [])) (by decide +kernel)) rfl (mz_inv_virt (N := 80) (k := 2) (t := 13) (st := [.int (y2 + y3), .ref 2]) (rest := []) (b := 2) (vs := [.int (y2 + y3)]) (h := (mz_S0, m)) rfl rfl (Nat.le_of_ble_eq_true rfl) (Nat.le_of_ble_eq_true rfl) tg_2 (by decide)) (mz_dc_lt (n := 2) rfl (by decide +kernel) (by decide +kernel)) (by decide +kernel) (Or.inl (by decide +kernel)) (fun v6 m5 => ?_)
      refine q_o (mz_fe (e := (28, .goto 5, 3, (0, 0, 0), [])) (by decide +kernel)) (pc2 := 33) rfl ?_
      refine q_s (mz_fe (e := (33, .istore 4, 2, (0, 0, 0), [])) (by decide +kernel)) (pc' := 35) (L' := [some (.ref 23), some (.int y1), some (.int y2), some (.int y3), some (.int v6)]) (st' := []) rfl ?_
      refine q_o (mz_fe (e := (35, .ldc 77, 2, (1, 0, 1), [])) (by decide +kernel)) (pc2 := 37) (st2 := [.ref 1000001]) rfl ?_
      refine q_o (mz_fe (e := (37, .iload_n 1, 1, (0, 0, 0), [])) (by decide +kernel)) (pc2 := 38) rfl ?_
      refine q_o (mz_fe (e := (38, .iload_n 3, 1, (0, 0, 0), [])) (by decide +kernel)) (pc2 := 39) rfl ?_
      refine q_o (mz_fe (e := (39, .iadd, 1, (0, 0, 0), [])) (by decide +kernel)) (pc2 := 40) rfl ?_
      refine q_schg (n := 168) rfl (mz_fe (e := (40, .invokevirtual 87, 3, (9991, 0, 0), [])) (by decide +kernel)) (by decide) (by decide) (Nat.le_of_ble_eq_true rfl) (fun g8 => ?_)
      refine q_o (mz_fe (e := (43, .iload 4, 2, (0, 0, 0), [])) (by decide +kernel)) (pc2 := 45) rfl ?_
      refine q_if (c := .eq) (off := 5) (t := 50) (x := ((mz_sb 1000001).getD ((y1 + y3) : Int32).toNatClampNeg 0)) (y := v6) (st := []) (mz_fe (e := (45, .if_icmp .eq 5, 3, (0, 0, 0), [])) (by decide +kernel)) (fun _ => rfl) rfl rfl rfl (fun c9 => ?_) (fun c9 => ?_)
      · refine q_iinc (v := y3) (c := 1) (L3 := [some (.ref 23), some (.int y1), some (.int y2), some (.int (y3 + 1)), some (.int v6)]) (mz_fe (e := (50, .iinc 3 1, 3, (0, 0, 0), [])) (by decide +kernel)) rfl rfl (by decide) rfl ?_
        refine q_o (mz_fe (e := (53, .goto (-51), 3, (0, 0, 0), [])) (by decide +kernel)) (pc2 := 2) rfl ?_
        exact congrArg mz_cI (mz_At_msk (L := [some (.ref 23), some (.int y1), some (.int y2), some (.int (y3 + 1)), some (.int v6)]) (L2 := [some (.ref 23), some (.int y1), some (.int y2), some (.int (y3 + 1)), none]) (mz_fe (e := (2, .iload_n 3, 1, (0, 0, 0), [true, true, true, true, false])) (by decide +kernel)) rfl rfl)
      · refine q_ic (v := 0) (mz_fe (e := (48, .iconst 0, 1, (0, 0, 0), [])) (by decide +kernel)) (by decide) ?_
        exact q_retZ (mz_fe (e := (49, .ireturn, 1, (0, 0, 0), [])) (by decide +kernel)) (by decide +kernel) (by decide)
set_option maxRecDepth 10000 in
theorem R_X9_isBlank_eq (d : Nat) (x0 : Int32) (m : MzM)  : R_X9_isBlank d x0 m = if x0 = 9 then (some (1, m)) else (if x0 = 10 then (some (1, m)) else (if x0 = 13 then (some (1, m)) else (if ¬ x0 = 32 then (some (0, m)) else (some (1, m))))) := by
  show mz_cI (mz_T d 103 0 (mz_en (mz_xl 103) [.int x0]) [] m) = _
  rw [show mz_en (mz_xl 103) [.int x0] = [some (.int x0)] from by rw [show mz_xl 103 = 1 from by decide +kernel]; rfl]
  refine q_o (mz_fe (e := (0, .iload_n 0, 1, (0, 0, 0), [])) (by decide +kernel)) (pc2 := 1) rfl ?_
  refine q_bi (v := 9) (mz_fe (e := (1, .bipush 9, 2, (0, 0, 0), [])) (by decide +kernel)) (by decide) ?_
  refine q_if (c := .eq) (off := 21) (t := 24) (x := x0) (y := 9) (st := []) (mz_fe (e := (3, .if_icmp .eq 21, 3, (0, 0, 0), [])) (by decide +kernel)) (fun _ => rfl) rfl rfl rfl (fun c1 => ?_) (fun c1 => ?_)
  · refine q_ic (v := 1) (mz_fe (e := (24, .iconst 1, 1, (0, 0, 0), [])) (by decide +kernel)) (by decide) ?_
    refine q_o (mz_fe (e := (25, .goto 4, 3, (0, 0, 0), [])) (by decide +kernel)) (pc2 := 29) rfl ?_
    exact q_retZ (mz_fe (e := (29, .ireturn, 1, (0, 0, 0), [])) (by decide +kernel)) (by decide +kernel) (by decide)
  · refine q_o (mz_fe (e := (6, .iload_n 0, 1, (0, 0, 0), [])) (by decide +kernel)) (pc2 := 7) rfl ?_
    refine q_bi (v := 10) (mz_fe (e := (7, .bipush 10, 2, (0, 0, 0), [])) (by decide +kernel)) (by decide) ?_
    refine q_if (c := .eq) (off := 15) (t := 24) (x := x0) (y := 10) (st := []) (mz_fe (e := (9, .if_icmp .eq 15, 3, (0, 0, 0), [])) (by decide +kernel)) (fun _ => rfl) rfl rfl rfl (fun c2 => ?_) (fun c2 => ?_)
    · refine q_ic (v := 1) (mz_fe (e := (24, .iconst 1, 1, (0, 0, 0), [])) (by decide +kernel)) (by decide) ?_
      refine q_o (mz_fe (e := (25, .goto 4, 3, (0, 0, 0), [])) (by decide +kernel)) (pc2 := 29) rfl ?_
      exact q_retZ (mz_fe (e := (29, .ireturn, 1, (0, 0, 0), [])) (by decide +kernel)) (by decide +kernel) (by decide)
    · refine q_o (mz_fe (e := (12, .iload_n 0, 1, (0, 0, 0), [])) (by decide +kernel)) (pc2 := 13) rfl ?_
      refine q_bi (v := 13) (mz_fe (e := (13, .bipush 13, 2, (0, 0, 0), [])) (by decide +kernel)) (by decide) ?_
      refine q_if (c := .eq) (off := 9) (t := 24) (x := x0) (y := 13) (st := []) (mz_fe (e := (15, .if_icmp .eq 9, 3, (0, 0, 0), [])) (by decide +kernel)) (fun _ => rfl) rfl rfl rfl (fun c3 => ?_) (fun c3 => ?_)
      · refine q_ic (v := 1) (mz_fe (e := (24, .iconst 1, 1, (0, 0, 0), [])) (by decide +kernel)) (by decide) ?_
        refine q_o (mz_fe (e := (25, .goto 4, 3, (0, 0, 0), [])) (by decide +kernel)) (pc2 := 29) rfl ?_
        exact q_retZ (mz_fe (e := (29, .ireturn, 1, (0, 0, 0), [])) (by decide +kernel)) (by decide +kernel) (by decide)
      · refine q_o (mz_fe (e := (18, .iload_n 0, 1, (0, 0, 0), [])) (by decide +kernel)) (pc2 := 19) rfl ?_
        refine q_bi (v := 32) (mz_fe (e := (19, .bipush 32, 2, (0, 0, 0), [])) (by decide +kernel)) (by decide) ?_
        refine q_if (c := .ne) (off := 7) (t := 28) (x := x0) (y := 32) (st := []) (mz_fe (e := (21, .if_icmp .ne 7, 3, (0, 0, 0), [])) (by decide +kernel)) (fun _ => rfl) rfl rfl rfl (fun c4 => ?_) (fun c4 => ?_)
        · refine q_ic (v := 0) (mz_fe (e := (28, .iconst 0, 1, (0, 0, 0), [])) (by decide +kernel)) (by decide) ?_
          exact q_retZ (mz_fe (e := (29, .ireturn, 1, (0, 0, 0), [])) (by decide +kernel)) (by decide +kernel) (by decide)
        · refine q_ic (v := 1) (mz_fe (e := (24, .iconst 1, 1, (0, 0, 0), [])) (by decide +kernel)) (by decide) ?_
          refine q_o (mz_fe (e := (25, .goto 4, 3, (0, 0, 0), [])) (by decide +kernel)) (pc2 := 29) rfl ?_
          exact q_retZ (mz_fe (e := (29, .ireturn, 1, (0, 0, 0), [])) (by decide +kernel)) (by decide +kernel) (by decide)
set_option maxRecDepth 10000 in
theorem R_X9_isLetter_eq (d : Nat) (x0 : Int32) (m : MzM)  : R_X9_isLetter d x0 m = if x0 < 97 then (some (0, m)) else (if (122 : Int32) < x0 then (some (0, m)) else (some (1, m))) := by
  show mz_cI (mz_T d 104 0 (mz_en (mz_xl 104) [.int x0]) [] m) = _
  rw [show mz_en (mz_xl 104) [.int x0] = [some (.int x0)] from by rw [show mz_xl 104 = 1 from by decide +kernel]; rfl]
  refine q_o (mz_fe (e := (0, .iload_n 0, 1, (0, 0, 0), [])) (by decide +kernel)) (pc2 := 1) rfl ?_
  refine q_bi (v := 97) (mz_fe (e := (1, .bipush 97, 2, (0, 0, 0), [])) (by decide +kernel)) (by decide) ?_
  refine q_if (c := .lt) (off := 13) (t := 16) (x := x0) (y := 97) (st := []) (mz_fe (e := (3, .if_icmp .lt 13, 3, (0, 0, 0), [])) (by decide +kernel)) (fun _ => rfl) rfl rfl rfl (fun c1 => ?_) (fun c1 => ?_)
  · refine q_ic (v := 0) (mz_fe (e := (16, .iconst 0, 1, (0, 0, 0), [])) (by decide +kernel)) (by decide) ?_
    exact q_retZ (mz_fe (e := (17, .ireturn, 1, (0, 0, 0), [])) (by decide +kernel)) (by decide +kernel) (by decide)
  · refine q_o (mz_fe (e := (6, .iload_n 0, 1, (0, 0, 0), [])) (by decide +kernel)) (pc2 := 7) rfl ?_
    refine q_bi (v := 122) (mz_fe (e := (7, .bipush 122, 2, (0, 0, 0), [])) (by decide +kernel)) (by decide) ?_
    refine q_if (c := .gt) (off := 7) (t := 16) (x := x0) (y := 122) (st := []) (mz_fe (e := (9, .if_icmp .gt 7, 3, (0, 0, 0), [])) (by decide +kernel)) (fun _ => rfl) rfl rfl rfl (fun c2 => ?_) (fun c2 => ?_)
    · refine q_ic (v := 0) (mz_fe (e := (16, .iconst 0, 1, (0, 0, 0), [])) (by decide +kernel)) (by decide) ?_
      exact q_retZ (mz_fe (e := (17, .ireturn, 1, (0, 0, 0), [])) (by decide +kernel)) (by decide +kernel) (by decide)
    · refine q_ic (v := 1) (mz_fe (e := (12, .iconst 1, 1, (0, 0, 0), [])) (by decide +kernel)) (by decide) ?_
      refine q_o (mz_fe (e := (13, .goto 4, 3, (0, 0, 0), [])) (by decide +kernel)) (pc2 := 17) rfl ?_
      exact q_retZ (mz_fe (e := (17, .ireturn, 1, (0, 0, 0), [])) (by decide +kernel)) (by decide +kernel) (by decide)
set_option maxRecDepth 10000 in
theorem R_X9_isDigit_eq (d : Nat) (x0 : Int32) (m : MzM)  : R_X9_isDigit d x0 m = if x0 < 48 then (some (0, m)) else (if (57 : Int32) < x0 then (some (0, m)) else (some (1, m))) := by
  show mz_cI (mz_T d 105 0 (mz_en (mz_xl 105) [.int x0]) [] m) = _
  rw [show mz_en (mz_xl 105) [.int x0] = [some (.int x0)] from by rw [show mz_xl 105 = 1 from by decide +kernel]; rfl]
  refine q_o (mz_fe (e := (0, .iload_n 0, 1, (0, 0, 0), [])) (by decide +kernel)) (pc2 := 1) rfl ?_
  refine q_bi (v := 48) (mz_fe (e := (1, .bipush 48, 2, (0, 0, 0), [])) (by decide +kernel)) (by decide) ?_
  refine q_if (c := .lt) (off := 13) (t := 16) (x := x0) (y := 48) (st := []) (mz_fe (e := (3, .if_icmp .lt 13, 3, (0, 0, 0), [])) (by decide +kernel)) (fun _ => rfl) rfl rfl rfl (fun c1 => ?_) (fun c1 => ?_)
  · refine q_ic (v := 0) (mz_fe (e := (16, .iconst 0, 1, (0, 0, 0), [])) (by decide +kernel)) (by decide) ?_
    exact q_retZ (mz_fe (e := (17, .ireturn, 1, (0, 0, 0), [])) (by decide +kernel)) (by decide +kernel) (by decide)
  · refine q_o (mz_fe (e := (6, .iload_n 0, 1, (0, 0, 0), [])) (by decide +kernel)) (pc2 := 7) rfl ?_
    refine q_bi (v := 57) (mz_fe (e := (7, .bipush 57, 2, (0, 0, 0), [])) (by decide +kernel)) (by decide) ?_
    refine q_if (c := .gt) (off := 7) (t := 16) (x := x0) (y := 57) (st := []) (mz_fe (e := (9, .if_icmp .gt 7, 3, (0, 0, 0), [])) (by decide +kernel)) (fun _ => rfl) rfl rfl rfl (fun c2 => ?_) (fun c2 => ?_)
    · refine q_ic (v := 0) (mz_fe (e := (16, .iconst 0, 1, (0, 0, 0), [])) (by decide +kernel)) (by decide) ?_
      exact q_retZ (mz_fe (e := (17, .ireturn, 1, (0, 0, 0), [])) (by decide +kernel)) (by decide +kernel) (by decide)
    · refine q_ic (v := 1) (mz_fe (e := (12, .iconst 1, 1, (0, 0, 0), [])) (by decide +kernel)) (by decide) ?_
      refine q_o (mz_fe (e := (13, .goto 4, 3, (0, 0, 0), [])) (by decide +kernel)) (pc2 := 17) rfl ?_
      exact q_retZ (mz_fe (e := (17, .ireturn, 1, (0, 0, 0), [])) (by decide +kernel)) (by decide +kernel) (by decide)
