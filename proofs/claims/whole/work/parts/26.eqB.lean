set_option maxRecDepth 10000 in
theorem R_X0_lookAt_eq (d : Nat) (s : Nat) (m : MzM) (hs : mz_isS s = true) : R_X0_lookAt d s m = H_X0_lookAt_2 d s 0 m := by
  show mz_cV (mz_T d 1 0 (mz_en (mz_xl 1) [.ref 220, .ref s]) [] m) = _
  rw [show mz_en (mz_xl 1) [.ref 220, .ref s] = [some (.ref 220), some (.ref s), none] from by rw [show mz_xl 1 = 3 from by decide +kernel]; rfl]
  refine q_ic (v := 0) (mz_fe (e := (0, .iconst 0, 1, (0, 0, 0), [])) (by decide +kernel)) (by decide) ?_
  refine q_s (mz_fe (e := (1, .istore_n 2, 1, (0, 0, 0), [])) (by decide +kernel)) (pc' := 2) (L' := [some (.ref 220), some (.ref s), some (.int 0)]) (st' := []) rfl ?_
  exact congrArg mz_cV (mz_At_msk (L := [some (.ref 220), some (.ref s), some (.int 0)]) (L2 := [some (.ref 220), some (.ref s), some (.int 0)]) (mz_fe (e := (2, .iload_n 2, 1, (0, 0, 0), [true, true, true])) (by decide +kernel)) rfl rfl)
set_option maxRecDepth 10000 in
theorem H_X0_lookAt_2_eq (d : Nat) (a1 : Nat) (y2 : Int32) (m : MzM) (ha1 : mz_isS a1 = true) : H_X0_lookAt_2 d a1 y2 m = if (mz_rd m 4 4) ≤ y2 then some m else ((R_X3_foesOf d a1 y2 m).bind (fun u4 => mz_g (mz_ok y2 6) (H_X0_lookAt_2 d a1 (y2 + 1) (mz_wr u4.2 221 (y2 : Int32).toNatClampNeg u4.1)))) := by
  show mz_cV (mz_T d 1 2 [some (.ref 220), some (.ref a1), some (.int y2)] [] m) = _
  refine q_s (mz_fe (e := (2, .iload_n 2, 1, (0, 0, 0), [true, true, true])) (by decide +kernel)) (pc' := 3) (L' := [some (.ref 220), some (.ref a1), some (.int y2)]) (st' := [.int y2]) rfl ?_
  refine q_o (mz_fe (e := (3, .aload_n 0, 1, (0, 0, 0), [])) (by decide +kernel)) (pc2 := 4) rfl ?_
  refine q_getR (b := 4) (mz_fe (e := (4, .getfield 15, 1, (0, 0, 2), [])) (by decide +kernel)) rfl tg_220 (by rw [ln_220]; decide) (mz_rfS (by decide +kernel)) ?_
  refine q_getI (mz_fe (e := (7, .getfield 23, 3, (8, 4, 0), [])) (by decide +kernel)) rfl (by decide) tg_4 (by rw [ln_4]; decide) ?_
  refine q_if (c := .ge) (off := 24) (t := 34) (x := y2) (y := (mz_rd m 4 4)) (st := []) (mz_fe (e := (10, .if_icmp .ge 24, 3, (0, 0, 0), [])) (by decide +kernel)) (fun _ => rfl) rfl rfl rfl (fun c1 => ?_) (fun c1 => ?_)
  · exact q_retV (mz_fe (e := (34, .return_, 1, (0, 0, 0), [])) (by decide +kernel)) (by decide +kernel)
  · refine q_o (mz_fe (e := (13, .aload_n 0, 1, (0, 0, 0), [])) (by decide +kernel)) (pc2 := 14) rfl ?_
    refine q_getR (b := 221) (mz_fe (e := (14, .getfield 9, 0, (0, 2, 2), [])) (by decide +kernel)) rfl tg_220 (by rw [ln_220]; decide) (mz_rfS (by decide +kernel)) ?_
    refine q_o (mz_fe (e := (17, .iload_n 2, 1, (0, 0, 0), [])) (by decide +kernel)) (pc2 := 18) rfl ?_
    refine q_o (mz_fe (e := (18, .aload_n 0, 1, (0, 0, 0), [])) (by decide +kernel)) (pc2 := 19) rfl ?_
    refine q_getR (b := 27) (mz_fe (e := (19, .getfield 19, 2, (0, 1, 2), [])) (by decide +kernel)) rfl tg_220 (by rw [ln_220]; decide) (mz_rfS (by decide +kernel)) ?_
    refine q_o (mz_fe (e := (22, .aload_n 1, 1, (0, 0, 0), [])) (by decide +kernel)) (pc2 := 23) rfl ?_
    refine q_o (mz_fe (e := (23, .iload_n 2, 1, (0, 0, 0), [])) (by decide +kernel)) (pc2 := 24) rfl ?_
    refine q_callI (N := 40) (vs := [.ref 27, .ref a1, .int y2]) (rest := [.int y2, .ref 221]) (L' := [some (.ref 220), some (.ref a1), some (.int y2)]) (f := fun v3 m2 => mz_g (mz_ok y2 6) (H_X0_lookAt_2 d a1 (y2 + 1) (mz_wr m2 221 (y2 : Int32).toNatClampNeg v3))) rfl (mz_fe (e := (24, .invokevirtual 29, 0, (40, 3, 9), [])) (by decide +kernel)) rfl (mz_inv_virt (N := 40) (k := 3) (t := 9) (st := [.int y2, .ref a1, .ref 27, .int y2, .ref 221]) (rest := [.int y2, .ref 221]) (b := 27) (vs := [.ref a1, .int y2]) (h := (mz_S0, m)) rfl rfl (Nat.le_of_ble_eq_true rfl) (Nat.le_of_ble_eq_true rfl) tg_27 (by decide)) (mz_dc_lt (n := 3) rfl (by decide +kernel) (by decide +kernel)) (by decide +kernel) (Or.inl (by decide +kernel)) (fun v3 m2 => ?_)
    refine q_stAg (f := (fun x => x)) rfl (mz_fe (e := (27, .iastore, 1, (0, 0, 0), [])) (by decide +kernel)) (fun _ => rfl) rfl tg_221 ln_221 (fun g5 => ?_)
    refine q_iinc (v := y2) (c := 1) (L3 := [some (.ref 220), some (.ref a1), some (.int (y2 + 1))]) (mz_fe (e := (28, .iinc 2 1, 3, (0, 0, 0), [])) (by decide +kernel)) rfl rfl (by decide) rfl ?_
    refine q_o (mz_fe (e := (31, .goto (-29), 3, (0, 0, 0), [])) (by decide +kernel)) (pc2 := 2) rfl ?_
    exact congrArg mz_cV (mz_At_msk (L := [some (.ref 220), some (.ref a1), some (.int (y2 + 1))]) (L2 := [some (.ref 220), some (.ref a1), some (.int (y2 + 1))]) (mz_fe (e := (2, .iload_n 2, 1, (0, 0, 0), [true, true, true])) (by decide +kernel)) rfl rfl)
set_option maxRecDepth 10000 in
theorem R_X0_fewestGone_eq (d : Nat)  (m : MzM)  : R_X0_fewestGone d  m = (R_X0_everybody d  m).bind (fun u3 => H_X0_fewestGone_9 d u3.1 u3.1 0 u3.2) := by
  show mz_cI (mz_T d 2 0 (mz_en (mz_xl 2) [.ref 220]) [] m) = _
  rw [show mz_en (mz_xl 2) [.ref 220] = [some (.ref 220), none, none, none] from by rw [show mz_xl 2 = 4 from by decide +kernel]; rfl]
  refine q_o (mz_fe (e := (0, .aload_n 0, 1, (0, 0, 0), [])) (by decide +kernel)) (pc2 := 1) rfl ?_
  refine q_callI (N := 3) (vs := [.ref 220]) (rest := []) (L' := [some (.ref 220), none, none, none]) (f := fun v2 m1 => H_X0_fewestGone_9 d v2 v2 0 m1) rfl (mz_fe (e := (1, .invokevirtual 35, 1, (3, 1, 6), [])) (by decide +kernel)) rfl (mz_inv_virt (N := 3) (k := 1) (t := 6) (st := [.ref 220]) (rest := []) (b := 220) (vs := []) (h := (mz_S0, m)) rfl rfl (Nat.le_of_ble_eq_true rfl) (Nat.le_of_ble_eq_true rfl) tg_220 (by decide)) (mz_dc_lt (n := 1) rfl (by decide +kernel) (by decide +kernel)) (by decide +kernel) (Or.inl (by decide +kernel)) (fun v2 m1 => ?_)
  refine q_s (mz_fe (e := (4, .istore_n 1, 1, (0, 0, 0), [])) (by decide +kernel)) (pc' := 5) (L' := [some (.ref 220), some (.int v2), none, none]) (st' := []) rfl ?_
  refine q_o (mz_fe (e := (5, .iload_n 1, 1, (0, 0, 0), [])) (by decide +kernel)) (pc2 := 6) rfl ?_
  refine q_s (mz_fe (e := (6, .istore_n 2, 1, (0, 0, 0), [])) (by decide +kernel)) (pc' := 7) (L' := [some (.ref 220), some (.int v2), some (.int v2), none]) (st' := []) rfl ?_
  refine q_ic (v := 0) (mz_fe (e := (7, .iconst 0, 1, (0, 0, 0), [])) (by decide +kernel)) (by decide) ?_
  refine q_s (mz_fe (e := (8, .istore_n 3, 1, (0, 0, 0), [])) (by decide +kernel)) (pc' := 9) (L' := [some (.ref 220), some (.int v2), some (.int v2), some (.int 0)]) (st' := []) rfl ?_
  exact congrArg mz_cI (mz_At_msk (L := [some (.ref 220), some (.int v2), some (.int v2), some (.int 0)]) (L2 := [some (.ref 220), some (.int v2), some (.int v2), some (.int 0)]) (mz_fe (e := (9, .iload_n 3, 1, (0, 0, 0), [true, true, true, true])) (by decide +kernel)) rfl rfl)
set_option maxRecDepth 10000 in
theorem H_X0_fewestGone_9_eq (d : Nat) (y1 : Int32) (y2 : Int32) (y3 : Int32) (m : MzM)  : H_X0_fewestGone_9 d y1 y2 y3 m = if y1 < y3 then (some (y2, m)) else ((R_J6_bitCount_0f7a4 d y3 m).bind (fun u7 => (R_J6_bitCount_0f7a4 d y2 u7.2).bind (fun u10 => if u10.1 ≤ u7.1 then (H_X0_fewestGone_9 d y1 y2 (y3 + 1) u10.2) else ((R_X0_isPeaceWithout d y3 u10.2).bind (fun u14 => if u14.1 = 0 then (H_X0_fewestGone_9 d y1 y2 (y3 + 1) u14.2) else (H_X0_fewestGone_9 d y1 y3 (y3 + 1) u14.2)))))) := by
  show mz_cI (mz_T d 2 9 [some (.ref 220), some (.int y1), some (.int y2), some (.int y3)] [] m) = _
  refine q_s (mz_fe (e := (9, .iload_n 3, 1, (0, 0, 0), [true, true, true, true])) (by decide +kernel)) (pc' := 10) (L' := [some (.ref 220), some (.int y1), some (.int y2), some (.int y3)]) (st' := [.int y3]) rfl ?_
  refine q_o (mz_fe (e := (10, .iload_n 1, 1, (0, 0, 0), [])) (by decide +kernel)) (pc2 := 11) rfl ?_
  refine q_if (c := .gt) (off := 30) (t := 41) (x := y3) (y := y1) (st := []) (mz_fe (e := (11, .if_icmp .gt 30, 3, (0, 0, 0), [])) (by decide +kernel)) (fun _ => rfl) rfl rfl rfl (fun c4 => ?_) (fun c4 => ?_)
  · refine q_o (mz_fe (e := (41, .iload_n 2, 1, (0, 0, 0), [])) (by decide +kernel)) (pc2 := 42) rfl ?_
    exact q_retI (mz_fe (e := (42, .ireturn, 1, (0, 0, 0), [])) (by decide +kernel)) (by decide +kernel)
  · refine q_o (mz_fe (e := (14, .iload_n 3, 1, (0, 0, 0), [])) (by decide +kernel)) (pc2 := 15) rfl ?_
    refine q_callI (N := 290) (vs := [.int y3]) (rest := []) (L' := [some (.ref 220), some (.int y1), some (.int y2), some (.int y3)]) (f := fun v6 m5 => (R_J6_bitCount_0f7a4 d y2 m5).bind (fun u10 => if u10.1 ≤ v6 then (H_X0_fewestGone_9 d y1 y2 (y3 + 1) u10.2) else ((R_X0_isPeaceWithout d y3 u10.2).bind (fun u14 => if u14.1 = 0 then (H_X0_fewestGone_9 d y1 y2 (y3 + 1) u14.2) else (H_X0_fewestGone_9 d y1 y3 (y3 + 1) u14.2))))) rfl (mz_fe (e := (15, .invokestatic 39, 2, (290, 1, 1000), [])) (by decide +kernel)) rfl (mz_inv_stat (N := 290) (k := 1) (st := [.int y3]) (rest := []) (vs := [.int y3]) (h := (mz_S0, m)) rfl rfl (Nat.le_of_ble_eq_true rfl) (Nat.le_of_ble_eq_true rfl)) (mz_dc_lt (n := 1) rfl (by decide +kernel) (by decide +kernel)) (by decide +kernel) (Or.inl (by decide +kernel)) (fun v6 m5 => ?_)
    refine q_o (mz_fe (e := (18, .iload_n 2, 1, (0, 0, 0), [])) (by decide +kernel)) (pc2 := 19) rfl ?_
    refine q_callI (N := 290) (vs := [.int y2]) (rest := [.int v6]) (L' := [some (.ref 220), some (.int y1), some (.int y2), some (.int y3)]) (f := fun v9 m8 => if v9 ≤ v6 then (H_X0_fewestGone_9 d y1 y2 (y3 + 1) m8) else ((R_X0_isPeaceWithout d y3 m8).bind (fun u14 => if u14.1 = 0 then (H_X0_fewestGone_9 d y1 y2 (y3 + 1) u14.2) else (H_X0_fewestGone_9 d y1 y3 (y3 + 1) u14.2)))) rfl (mz_fe (e := (19, .invokestatic 39, 2, (290, 1, 1000), [])) (by decide +kernel)) rfl (mz_inv_stat (N := 290) (k := 1) (st := [.int y2, .int v6]) (rest := [.int v6]) (vs := [.int y2]) (h := (mz_S0, m5)) rfl rfl (Nat.le_of_ble_eq_true rfl) (Nat.le_of_ble_eq_true rfl)) (mz_dc_lt (n := 1) rfl (by decide +kernel) (by decide +kernel)) (by decide +kernel) (Or.inl (by decide +kernel)) (fun v9 m8 => ?_)
    refine q_if (c := .ge) (off := 13) (t := 35) (x := v6) (y := v9) (st := []) (mz_fe (e := (22, .if_icmp .ge 13, 3, (0, 0, 0), [])) (by decide +kernel)) (fun _ => rfl) rfl rfl rfl (fun c11 => ?_) (fun c11 => ?_)
    · refine q_iinc (v := y3) (c := 1) (L3 := [some (.ref 220), some (.int y1), some (.int y2), some (.int (y3 + 1))]) (mz_fe (e := (35, .iinc 3 1, 3, (0, 0, 0), [])) (by decide +kernel)) rfl rfl (by decide) rfl ?_
      refine q_o (mz_fe (e := (38, .goto (-29), 3, (0, 0, 0), [])) (by decide +kernel)) (pc2 := 9) rfl ?_
      exact congrArg mz_cI (mz_At_msk (L := [some (.ref 220), some (.int y1), some (.int y2), some (.int (y3 + 1))]) (L2 := [some (.ref 220), some (.int y1), some (.int y2), some (.int (y3 + 1))]) (mz_fe (e := (9, .iload_n 3, 1, (0, 0, 0), [true, true, true, true])) (by decide +kernel)) rfl rfl)
    · refine q_o (mz_fe (e := (25, .aload_n 0, 1, (0, 0, 0), [])) (by decide +kernel)) (pc2 := 26) rfl ?_
      refine q_o (mz_fe (e := (26, .iload_n 3, 1, (0, 0, 0), [])) (by decide +kernel)) (pc2 := 27) rfl ?_
      refine q_callI (N := 4) (vs := [.ref 220, .int y3]) (rest := []) (L' := [some (.ref 220), some (.int y1), some (.int y2), some (.int y3)]) (f := fun v13 m12 => if v13 = 0 then (H_X0_fewestGone_9 d y1 y2 (y3 + 1) m12) else (H_X0_fewestGone_9 d y1 y3 (y3 + 1) m12)) rfl (mz_fe (e := (27, .invokevirtual 45, 3, (4, 2, 6), [])) (by decide +kernel)) rfl (mz_inv_virt (N := 4) (k := 2) (t := 6) (st := [.int y3, .ref 220]) (rest := []) (b := 220) (vs := [.int y3]) (h := (mz_S0, m8)) rfl rfl (Nat.le_of_ble_eq_true rfl) (Nat.le_of_ble_eq_true rfl) tg_220 (by decide)) (mz_dc_lt (n := 2) rfl (by decide +kernel) (by decide +kernel)) (by decide +kernel) (Or.inr (by decide +kernel)) (fun v13 m12 => ?_)
      refine q_if (c := .eq) (off := 5) (t := 35) (x := v13) (y := 0) (st := []) (mz_fe (e := (30, .ifCond .eq 5, 3, (0, 0, 0), [])) (by decide +kernel)) (fun _ => rfl) rfl rfl rfl (fun c15 => ?_) (fun c15 => ?_)
      · refine q_iinc (v := y3) (c := 1) (L3 := [some (.ref 220), some (.int y1), some (.int y2), some (.int (y3 + 1))]) (mz_fe (e := (35, .iinc 3 1, 3, (0, 0, 0), [])) (by decide +kernel)) rfl rfl (by decide) rfl ?_
        refine q_o (mz_fe (e := (38, .goto (-29), 3, (0, 0, 0), [])) (by decide +kernel)) (pc2 := 9) rfl ?_
        exact congrArg mz_cI (mz_At_msk (L := [some (.ref 220), some (.int y1), some (.int y2), some (.int (y3 + 1))]) (L2 := [some (.ref 220), some (.int y1), some (.int y2), some (.int (y3 + 1))]) (mz_fe (e := (9, .iload_n 3, 1, (0, 0, 0), [true, true, true, true])) (by decide +kernel)) rfl rfl)
      · refine q_o (mz_fe (e := (33, .iload_n 3, 1, (0, 0, 0), [])) (by decide +kernel)) (pc2 := 34) rfl ?_
        refine q_s (mz_fe (e := (34, .istore_n 2, 1, (0, 0, 0), [])) (by decide +kernel)) (pc' := 35) (L' := [some (.ref 220), some (.int y1), some (.int y3), some (.int y3)]) (st' := []) rfl ?_
        refine q_iinc (v := y3) (c := 1) (L3 := [some (.ref 220), some (.int y1), some (.int y3), some (.int (y3 + 1))]) (mz_fe (e := (35, .iinc 3 1, 3, (0, 0, 0), [])) (by decide +kernel)) rfl rfl (by decide) rfl ?_
        refine q_o (mz_fe (e := (38, .goto (-29), 3, (0, 0, 0), [])) (by decide +kernel)) (pc2 := 9) rfl ?_
        exact congrArg mz_cI (mz_At_msk (L := [some (.ref 220), some (.int y1), some (.int y3), some (.int (y3 + 1))]) (L2 := [some (.ref 220), some (.int y1), some (.int y3), some (.int (y3 + 1))]) (mz_fe (e := (9, .iload_n 3, 1, (0, 0, 0), [true, true, true, true])) (by decide +kernel)) rfl rfl)
set_option maxRecDepth 10000 in
theorem R_X0_everybody_eq (d : Nat)  (m : MzM)  : R_X0_everybody d  m = some ((((1 : Int32) <<< ((mz_rd m 4 4) &&& 31)) - 1), m) := by
  show mz_cI (mz_T d 3 0 (mz_en (mz_xl 3) [.ref 220]) [] m) = _
  rw [show mz_en (mz_xl 3) [.ref 220] = [some (.ref 220)] from by rw [show mz_xl 3 = 1 from by decide +kernel]; rfl]
  refine q_ic (v := 1) (mz_fe (e := (0, .iconst 1, 1, (0, 0, 0), [])) (by decide +kernel)) (by decide) ?_
  refine q_o (mz_fe (e := (1, .aload_n 0, 1, (0, 0, 0), [])) (by decide +kernel)) (pc2 := 2) rfl ?_
  refine q_getR (b := 4) (mz_fe (e := (2, .getfield 15, 1, (0, 0, 2), [])) (by decide +kernel)) rfl tg_220 (by rw [ln_220]; decide) (mz_rfS (by decide +kernel)) ?_
  refine q_getI (mz_fe (e := (5, .getfield 23, 3, (8, 4, 0), [])) (by decide +kernel)) rfl (by decide) tg_4 (by rw [ln_4]; decide) ?_
  refine q_o (mz_fe (e := (8, .ishl, 1, (0, 0, 0), [])) (by decide +kernel)) (pc2 := 9) rfl ?_
  refine q_ic (v := 1) (mz_fe (e := (9, .iconst 1, 1, (0, 0, 0), [])) (by decide +kernel)) (by decide) ?_
  refine q_o (mz_fe (e := (10, .isub, 1, (0, 0, 0), [])) (by decide +kernel)) (pc2 := 11) rfl ?_
  exact q_retI (mz_fe (e := (11, .ireturn, 1, (0, 0, 0), [])) (by decide +kernel)) (by decide +kernel)
set_option maxRecDepth 10000 in
theorem R_X0_isPeaceWithout_eq (d : Nat) (x0 : Int32) (m : MzM)  : R_X0_isPeaceWithout d x0 m = H_X0_isPeaceWithout_2 d x0 0 m := by
  show mz_cI (mz_T d 4 0 (mz_en (mz_xl 4) [.ref 220, .int x0]) [] m) = _
  rw [show mz_en (mz_xl 4) [.ref 220, .int x0] = [some (.ref 220), some (.int x0), none] from by rw [show mz_xl 4 = 3 from by decide +kernel]; rfl]
  refine q_ic (v := 0) (mz_fe (e := (0, .iconst 0, 1, (0, 0, 0), [])) (by decide +kernel)) (by decide) ?_
  refine q_s (mz_fe (e := (1, .istore_n 2, 1, (0, 0, 0), [])) (by decide +kernel)) (pc' := 2) (L' := [some (.ref 220), some (.int x0), some (.int 0)]) (st' := []) rfl ?_
  exact congrArg mz_cI (mz_At_msk (L := [some (.ref 220), some (.int x0), some (.int 0)]) (L2 := [some (.ref 220), some (.int x0), some (.int 0)]) (mz_fe (e := (2, .iload_n 2, 1, (0, 0, 0), [true, true, true])) (by decide +kernel)) rfl rfl)
set_option maxRecDepth 10000 in
theorem H_X0_isPeaceWithout_2_eq (d : Nat) (y1 : Int32) (y2 : Int32) (m : MzM)  : H_X0_isPeaceWithout_2 d y1 y2 m = if (mz_rd m 4 4) ≤ y2 then (some (1, m)) else ((R_X0_isBit d y1 y2 m).bind (fun u4 => if ¬ u4.1 = 0 then (H_X0_isPeaceWithout_2 d y1 (y2 + 1) u4.2) else (mz_g (mz_ok y2 6) (if ((mz_rd u4.2 221 (y2 : Int32).toNatClampNeg) &&& (y1 ^^^ (-1))) = 0 then (H_X0_isPeaceWithout_2 d y1 (y2 + 1) u4.2) else (some (0, u4.2)))))) := by
  show mz_cI (mz_T d 4 2 [some (.ref 220), some (.int y1), some (.int y2)] [] m) = _
  refine q_s (mz_fe (e := (2, .iload_n 2, 1, (0, 0, 0), [true, true, true])) (by decide +kernel)) (pc' := 3) (L' := [some (.ref 220), some (.int y1), some (.int y2)]) (st' := [.int y2]) rfl ?_
  refine q_o (mz_fe (e := (3, .aload_n 0, 1, (0, 0, 0), [])) (by decide +kernel)) (pc2 := 4) rfl ?_
  refine q_getR (b := 4) (mz_fe (e := (4, .getfield 15, 1, (0, 0, 2), [])) (by decide +kernel)) rfl tg_220 (by rw [ln_220]; decide) (mz_rfS (by decide +kernel)) ?_
  refine q_getI (mz_fe (e := (7, .getfield 23, 3, (8, 4, 0), [])) (by decide +kernel)) rfl (by decide) tg_4 (by rw [ln_4]; decide) ?_
  refine q_if (c := .ge) (off := 32) (t := 42) (x := y2) (y := (mz_rd m 4 4)) (st := []) (mz_fe (e := (10, .if_icmp .ge 32, 3, (0, 0, 0), [])) (by decide +kernel)) (fun _ => rfl) rfl rfl rfl (fun c1 => ?_) (fun c1 => ?_)
  · refine q_ic (v := 1) (mz_fe (e := (42, .iconst 1, 1, (0, 0, 0), [])) (by decide +kernel)) (by decide) ?_
    exact q_retZ (mz_fe (e := (43, .ireturn, 1, (0, 0, 0), [])) (by decide +kernel)) (by decide +kernel) (by decide)
  · refine q_o (mz_fe (e := (13, .iload_n 1, 1, (0, 0, 0), [])) (by decide +kernel)) (pc2 := 14) rfl ?_
    refine q_o (mz_fe (e := (14, .iload_n 2, 1, (0, 0, 0), [])) (by decide +kernel)) (pc2 := 15) rfl ?_
    refine q_callI (N := 7) (vs := [.int y1, .int y2]) (rest := []) (L' := [some (.ref 220), some (.int y1), some (.int y2)]) (f := fun v3 m2 => if ¬ v3 = 0 then (H_X0_isPeaceWithout_2 d y1 (y2 + 1) m2) else (mz_g (mz_ok y2 6) (if ((mz_rd m2 221 (y2 : Int32).toNatClampNeg) &&& (y1 ^^^ (-1))) = 0 then (H_X0_isPeaceWithout_2 d y1 (y2 + 1) m2) else (some (0, m2))))) rfl (mz_fe (e := (15, .invokestatic 49, 4, (7, 2, 1000), [])) (by decide +kernel)) rfl (mz_inv_stat (N := 7) (k := 2) (st := [.int y2, .int y1]) (rest := []) (vs := [.int y1, .int y2]) (h := (mz_S0, m)) rfl rfl (Nat.le_of_ble_eq_true rfl) (Nat.le_of_ble_eq_true rfl)) (mz_dc_lt (n := 2) rfl (by decide +kernel) (by decide +kernel)) (by decide +kernel) (Or.inr (by decide +kernel)) (fun v3 m2 => ?_)
    refine q_if (c := .ne) (off := 18) (t := 36) (x := v3) (y := 0) (st := []) (mz_fe (e := (18, .ifCond .ne 18, 3, (0, 0, 0), [])) (by decide +kernel)) (fun _ => rfl) rfl rfl rfl (fun c5 => ?_) (fun c5 => ?_)
    · refine q_iinc (v := y2) (c := 1) (L3 := [some (.ref 220), some (.int y1), some (.int (y2 + 1))]) (mz_fe (e := (36, .iinc 2 1, 3, (0, 0, 0), [])) (by decide +kernel)) rfl rfl (by decide) rfl ?_
      refine q_o (mz_fe (e := (39, .goto (-37), 3, (0, 0, 0), [])) (by decide +kernel)) (pc2 := 2) rfl ?_
      exact congrArg mz_cI (mz_At_msk (L := [some (.ref 220), some (.int y1), some (.int (y2 + 1))]) (L2 := [some (.ref 220), some (.int y1), some (.int (y2 + 1))]) (mz_fe (e := (2, .iload_n 2, 1, (0, 0, 0), [true, true, true])) (by decide +kernel)) rfl rfl)
    · refine q_o (mz_fe (e := (21, .aload_n 0, 1, (0, 0, 0), [])) (by decide +kernel)) (pc2 := 22) rfl ?_
      refine q_getR (b := 221) (mz_fe (e := (22, .getfield 9, 0, (0, 2, 2), [])) (by decide +kernel)) rfl tg_220 (by rw [ln_220]; decide) (mz_rfS (by decide +kernel)) ?_
      refine q_o (mz_fe (e := (25, .iload_n 2, 1, (0, 0, 0), [])) (by decide +kernel)) (pc2 := 26) rfl ?_
      refine q_ialdg rfl (mz_fe (e := (26, .iaload, 1, (0, 0, 0), [])) (by decide +kernel)) rfl (by decide) tg_221 ln_221 (fun g6 => ?_)
      refine q_o (mz_fe (e := (27, .iload_n 1, 1, (0, 0, 0), [])) (by decide +kernel)) (pc2 := 28) rfl ?_
      refine q_ic (v := (-1)) (mz_fe (e := (28, .iconst (-1), 1, (0, 0, 0), [])) (by decide +kernel)) (by decide) ?_
      refine q_o (mz_fe (e := (29, .ixor, 1, (0, 0, 0), [])) (by decide +kernel)) (pc2 := 30) rfl ?_
      refine q_o (mz_fe (e := (30, .iand, 1, (0, 0, 0), [])) (by decide +kernel)) (pc2 := 31) rfl ?_
      refine q_if (c := .eq) (off := 5) (t := 36) (x := ((mz_rd m2 221 (y2 : Int32).toNatClampNeg) &&& (y1 ^^^ (-1)))) (y := 0) (st := []) (mz_fe (e := (31, .ifCond .eq 5, 3, (0, 0, 0), [])) (by decide +kernel)) (fun _ => rfl) rfl rfl rfl (fun c7 => ?_) (fun c7 => ?_)
      · refine q_iinc (v := y2) (c := 1) (L3 := [some (.ref 220), some (.int y1), some (.int (y2 + 1))]) (mz_fe (e := (36, .iinc 2 1, 3, (0, 0, 0), [])) (by decide +kernel)) rfl rfl (by decide) rfl ?_
        refine q_o (mz_fe (e := (39, .goto (-37), 3, (0, 0, 0), [])) (by decide +kernel)) (pc2 := 2) rfl ?_
        exact congrArg mz_cI (mz_At_msk (L := [some (.ref 220), some (.int y1), some (.int (y2 + 1))]) (L2 := [some (.ref 220), some (.int y1), some (.int (y2 + 1))]) (mz_fe (e := (2, .iload_n 2, 1, (0, 0, 0), [true, true, true])) (by decide +kernel)) rfl rfl)
      · refine q_ic (v := 0) (mz_fe (e := (34, .iconst 0, 1, (0, 0, 0), [])) (by decide +kernel)) (by decide) ?_
        exact q_retZ (mz_fe (e := (35, .ireturn, 1, (0, 0, 0), [])) (by decide +kernel)) (by decide +kernel) (by decide)
set_option maxRecDepth 10000 in
theorem R_X0_mostPairs_eq (d : Nat)  (m : MzM)  : R_X0_mostPairs d  m = (R_X0_everybody d  m).bind (fun u3 => (R_X0_mostPairsFrom d 0 u3.1 u3.2).bind (fun u6 => some (u6.1, u6.2))) := by
  show mz_cI (mz_T d 5 0 (mz_en (mz_xl 5) [.ref 220]) [] m) = _
  rw [show mz_en (mz_xl 5) [.ref 220] = [some (.ref 220)] from by rw [show mz_xl 5 = 1 from by decide +kernel]; rfl]
  refine q_o (mz_fe (e := (0, .aload_n 0, 1, (0, 0, 0), [])) (by decide +kernel)) (pc2 := 1) rfl ?_
  refine q_ic (v := 0) (mz_fe (e := (1, .iconst 0, 1, (0, 0, 0), [])) (by decide +kernel)) (by decide) ?_
  refine q_o (mz_fe (e := (2, .aload_n 0, 1, (0, 0, 0), [])) (by decide +kernel)) (pc2 := 3) rfl ?_
  refine q_callI (N := 3) (vs := [.ref 220]) (rest := [.int 0, .ref 220]) (L' := [some (.ref 220)]) (f := fun v2 m1 => (R_X0_mostPairsFrom d 0 v2 m1).bind (fun u6 => some (u6.1, u6.2))) rfl (mz_fe (e := (3, .invokevirtual 35, 1, (3, 1, 6), [])) (by decide +kernel)) rfl (mz_inv_virt (N := 3) (k := 1) (t := 6) (st := [.ref 220, .int 0, .ref 220]) (rest := [.int 0, .ref 220]) (b := 220) (vs := []) (h := (mz_S0, m)) rfl rfl (Nat.le_of_ble_eq_true rfl) (Nat.le_of_ble_eq_true rfl) tg_220 (by decide)) (mz_dc_lt (n := 1) rfl (by decide +kernel) (by decide +kernel)) (by decide +kernel) (Or.inl (by decide +kernel)) (fun v2 m1 => ?_)
  refine q_callI (N := 6) (vs := [.ref 220, .int 0, .int v2]) (rest := []) (L' := [some (.ref 220)]) (f := fun v5 m4 => some (v5, m4)) rfl (mz_fe (e := (6, .invokevirtual 53, 5, (6, 3, 6), [])) (by decide +kernel)) rfl (mz_inv_virt (N := 6) (k := 3) (t := 6) (st := [.int v2, .int 0, .ref 220]) (rest := []) (b := 220) (vs := [.int 0, .int v2]) (h := (mz_S0, m1)) rfl rfl (Nat.le_of_ble_eq_true rfl) (Nat.le_of_ble_eq_true rfl) tg_220 (by decide)) (mz_dc_lt (n := 3) rfl (by decide +kernel) (by decide +kernel)) (by decide +kernel) (Or.inl (by decide +kernel)) (fun v5 m4 => ?_)
  exact q_retI (mz_fe (e := (9, .ireturn, 1, (0, 0, 0), [])) (by decide +kernel)) (by decide +kernel)
set_option maxRecDepth 10000 in
theorem R_X0_mostPairsFrom_eq (d' : Nat) (x0 : Int32) (x1 : Int32) (m : MzM)  : R_X0_mostPairsFrom (d' + 1) x0 x1 m = if x0 < (mz_rd m 4 4) then ((R_X0_mostPairsFrom d' (x0 + 1) x1 m).bind (fun u4 => H_X0_mostPairsFrom_27 (d' + 1) x0 x1 u4.1 (x0 + 1) u4.2)) else (some (0, m)) := by
  show mz_cI (mz_T (d' + 1) 6 0 (mz_en (mz_xl 6) [.ref 220, .int x0, .int x1]) [] m) = _
  rw [show mz_en (mz_xl 6) [.ref 220, .int x0, .int x1] = [some (.ref 220), some (.int x0), some (.int x1), none, none] from by rw [show mz_xl 6 = 5 from by decide +kernel]; rfl]
  refine q_o (mz_fe (e := (0, .iload_n 1, 1, (0, 0, 0), [])) (by decide +kernel)) (pc2 := 1) rfl ?_
  refine q_o (mz_fe (e := (1, .aload_n 0, 1, (0, 0, 0), [])) (by decide +kernel)) (pc2 := 2) rfl ?_
  refine q_getR (b := 4) (mz_fe (e := (2, .getfield 15, 1, (0, 0, 2), [])) (by decide +kernel)) rfl tg_220 (by rw [ln_220]; decide) (mz_rfS (by decide +kernel)) ?_
  refine q_getI (mz_fe (e := (5, .getfield 23, 3, (8, 4, 0), [])) (by decide +kernel)) rfl (by decide) tg_4 (by rw [ln_4]; decide) ?_
  refine q_if (c := .lt) (off := 5) (t := 13) (x := x0) (y := (mz_rd m 4 4)) (st := []) (mz_fe (e := (8, .if_icmp .lt 5, 3, (0, 0, 0), [])) (by decide +kernel)) (fun _ => rfl) rfl rfl rfl (fun c1 => ?_) (fun c1 => ?_)
  · refine q_o (mz_fe (e := (13, .aload_n 0, 1, (0, 0, 0), [])) (by decide +kernel)) (pc2 := 14) rfl ?_
    refine q_o (mz_fe (e := (14, .iload_n 1, 1, (0, 0, 0), [])) (by decide +kernel)) (pc2 := 15) rfl ?_
    refine q_ic (v := 1) (mz_fe (e := (15, .iconst 1, 1, (0, 0, 0), [])) (by decide +kernel)) (by decide) ?_
    refine q_o (mz_fe (e := (16, .iadd, 1, (0, 0, 0), [])) (by decide +kernel)) (pc2 := 17) rfl ?_
    refine q_o (mz_fe (e := (17, .iload_n 2, 1, (0, 0, 0), [])) (by decide +kernel)) (pc2 := 18) rfl ?_
    refine q_callI (N := 6) (vs := [.ref 220, .int (x0 + 1), .int x1]) (rest := []) (L' := [some (.ref 220), some (.int x0), some (.int x1), none, none]) (f := fun v3 m2 => H_X0_mostPairsFrom_27 (d' + 1) x0 x1 v3 (x0 + 1) m2) rfl (mz_fe (e := (18, .invokevirtual 53, 5, (6, 3, 6), [])) (by decide +kernel)) rfl (mz_inv_virt (N := 6) (k := 3) (t := 6) (st := [.int x1, .int (x0 + 1), .ref 220]) (rest := []) (b := 220) (vs := [.int (x0 + 1), .int x1]) (h := (mz_S0, m)) rfl rfl (Nat.le_of_ble_eq_true rfl) (Nat.le_of_ble_eq_true rfl) tg_220 (by decide)) (mz_dc_rec (n := 3) rfl (by decide +kernel) (by decide +kernel) (by decide +kernel)) (by decide +kernel) (Or.inl (by decide +kernel)) (fun v3 m2 => ?_)
    refine q_s (mz_fe (e := (21, .istore_n 3, 1, (0, 0, 0), [])) (by decide +kernel)) (pc' := 22) (L' := [some (.ref 220), some (.int x0), some (.int x1), some (.int v3), none]) (st' := []) rfl ?_
    refine q_o (mz_fe (e := (22, .iload_n 1, 1, (0, 0, 0), [])) (by decide +kernel)) (pc2 := 23) rfl ?_
    refine q_ic (v := 1) (mz_fe (e := (23, .iconst 1, 1, (0, 0, 0), [])) (by decide +kernel)) (by decide) ?_
    refine q_o (mz_fe (e := (24, .iadd, 1, (0, 0, 0), [])) (by decide +kernel)) (pc2 := 25) rfl ?_
    refine q_s (mz_fe (e := (25, .istore 4, 2, (0, 0, 0), [])) (by decide +kernel)) (pc' := 27) (L' := [some (.ref 220), some (.int x0), some (.int x1), some (.int v3), some (.int (x0 + 1))]) (st' := []) rfl ?_
    exact congrArg mz_cI (mz_At_msk (L := [some (.ref 220), some (.int x0), some (.int x1), some (.int v3), some (.int (x0 + 1))]) (L2 := [some (.ref 220), some (.int x0), some (.int x1), some (.int v3), some (.int (x0 + 1))]) (mz_fe (e := (27, .iload_n 2, 1, (0, 0, 0), [true, true, true, true, true])) (by decide +kernel)) rfl rfl)
  · refine q_ic (v := 0) (mz_fe (e := (11, .iconst 0, 1, (0, 0, 0), [])) (by decide +kernel)) (by decide) ?_
    exact q_retI (mz_fe (e := (12, .ireturn, 1, (0, 0, 0), [])) (by decide +kernel)) (by decide +kernel)
set_option maxRecDepth 10000 in
theorem H_X0_mostPairsFrom_27_eq (d' : Nat) (y1 : Int32) (y2 : Int32) (y3 : Int32) (y4 : Int32) (m : MzM)  : H_X0_mostPairsFrom_27 (d' + 1) y1 y2 y3 y4 m = (R_X0_isBit (d' + 1) y2 y1 m).bind (fun u7 => if u7.1 = 0 then (some (y3, u7.2)) else (if (mz_rd u7.2 4 4) ≤ y4 then (some (y3, u7.2)) else (mz_g (mz_ok y1 6) ((R_X0_isBit (d' + 1) ((mz_rd u7.2 221 (y1 : Int32).toNatClampNeg) &&& y2) y4 u7.2).bind (fun u13 => if u13.1 = 0 then (H_X0_mostPairsFrom_27 (d' + 1) y1 y2 y3 (y4 + 1) u13.2) else ((R_X0_mostPairsFrom d' (y1 + 1) (y2 &&& (((1 : Int32) <<< (y4 &&& 31)) ^^^ (-1))) u13.2).bind (fun u17 => H_X0_mostPairsFrom_27 (d' + 1) y1 y2 (if y3 < ((1 : Int32) + u17.1) then ((1 : Int32) + u17.1) else y3) (y4 + 1) u17.2))))))) := by
  show mz_cI (mz_T (d' + 1) 6 27 [some (.ref 220), some (.int y1), some (.int y2), some (.int y3), some (.int y4)] [] m) = _
  refine q_s (mz_fe (e := (27, .iload_n 2, 1, (0, 0, 0), [true, true, true, true, true])) (by decide +kernel)) (pc' := 28) (L' := [some (.ref 220), some (.int y1), some (.int y2), some (.int y3), some (.int y4)]) (st' := [.int y2]) rfl ?_
  refine q_o (mz_fe (e := (28, .iload_n 1, 1, (0, 0, 0), [])) (by decide +kernel)) (pc2 := 29) rfl ?_
  refine q_callI (N := 7) (vs := [.int y2, .int y1]) (rest := []) (L' := [some (.ref 220), some (.int y1), some (.int y2), some (.int y3), some (.int y4)]) (f := fun v6 m5 => if v6 = 0 then (some (y3, m5)) else (if (mz_rd m5 4 4) ≤ y4 then (some (y3, m5)) else (mz_g (mz_ok y1 6) ((R_X0_isBit (d' + 1) ((mz_rd m5 221 (y1 : Int32).toNatClampNeg) &&& y2) y4 m5).bind (fun u13 => if u13.1 = 0 then (H_X0_mostPairsFrom_27 (d' + 1) y1 y2 y3 (y4 + 1) u13.2) else ((R_X0_mostPairsFrom d' (y1 + 1) (y2 &&& (((1 : Int32) <<< (y4 &&& 31)) ^^^ (-1))) u13.2).bind (fun u17 => H_X0_mostPairsFrom_27 (d' + 1) y1 y2 (if y3 < ((1 : Int32) + u17.1) then ((1 : Int32) + u17.1) else y3) (y4 + 1) u17.2))))))) rfl (mz_fe (e := (29, .invokestatic 49, 4, (7, 2, 1000), [])) (by decide +kernel)) rfl (mz_inv_stat (N := 7) (k := 2) (st := [.int y1, .int y2]) (rest := []) (vs := [.int y2, .int y1]) (h := (mz_S0, m)) rfl rfl (Nat.le_of_ble_eq_true rfl) (Nat.le_of_ble_eq_true rfl)) (mz_dc_lt (n := 2) rfl (by decide +kernel) (by decide +kernel)) (by decide +kernel) (Or.inr (by decide +kernel)) (fun v6 m5 => ?_)
  refine q_if (c := .eq) (off := 59) (t := 91) (x := v6) (y := 0) (st := []) (mz_fe (e := (32, .ifCond .eq 59, 3, (0, 0, 0), [])) (by decide +kernel)) (fun _ => rfl) rfl rfl rfl (fun c8 => ?_) (fun c8 => ?_)
  · refine q_o (mz_fe (e := (91, .iload_n 3, 1, (0, 0, 0), [])) (by decide +kernel)) (pc2 := 92) rfl ?_
    exact q_retI (mz_fe (e := (92, .ireturn, 1, (0, 0, 0), [])) (by decide +kernel)) (by decide +kernel)
  · refine q_o (mz_fe (e := (35, .iload 4, 2, (0, 0, 0), [])) (by decide +kernel)) (pc2 := 37) rfl ?_
    refine q_o (mz_fe (e := (37, .aload_n 0, 1, (0, 0, 0), [])) (by decide +kernel)) (pc2 := 38) rfl ?_
    refine q_getR (b := 4) (mz_fe (e := (38, .getfield 15, 1, (0, 0, 2), [])) (by decide +kernel)) rfl tg_220 (by rw [ln_220]; decide) (mz_rfS (by decide +kernel)) ?_
    refine q_getI (mz_fe (e := (41, .getfield 23, 3, (8, 4, 0), [])) (by decide +kernel)) rfl (by decide) tg_4 (by rw [ln_4]; decide) ?_
    refine q_if (c := .ge) (off := 47) (t := 91) (x := y4) (y := (mz_rd m5 4 4)) (st := []) (mz_fe (e := (44, .if_icmp .ge 47, 3, (0, 0, 0), [])) (by decide +kernel)) (fun _ => rfl) rfl rfl rfl (fun c9 => ?_) (fun c9 => ?_)
    · refine q_o (mz_fe (e := (91, .iload_n 3, 1, (0, 0, 0), [])) (by decide +kernel)) (pc2 := 92) rfl ?_
      exact q_retI (mz_fe (e := (92, .ireturn, 1, (0, 0, 0), [])) (by decide +kernel)) (by decide +kernel)
    · refine q_o (mz_fe (e := (47, .aload_n 0, 1, (0, 0, 0), [])) (by decide +kernel)) (pc2 := 48) rfl ?_
      refine q_getR (b := 221) (mz_fe (e := (48, .getfield 9, 0, (0, 2, 2), [])) (by decide +kernel)) rfl tg_220 (by rw [ln_220]; decide) (mz_rfS (by decide +kernel)) ?_
      refine q_o (mz_fe (e := (51, .iload_n 1, 1, (0, 0, 0), [])) (by decide +kernel)) (pc2 := 52) rfl ?_
      refine q_ialdg rfl (mz_fe (e := (52, .iaload, 1, (0, 0, 0), [])) (by decide +kernel)) rfl (by decide) tg_221 ln_221 (fun g10 => ?_)
      refine q_o (mz_fe (e := (53, .iload_n 2, 1, (0, 0, 0), [])) (by decide +kernel)) (pc2 := 54) rfl ?_
      refine q_o (mz_fe (e := (54, .iand, 1, (0, 0, 0), [])) (by decide +kernel)) (pc2 := 55) rfl ?_
      refine q_o (mz_fe (e := (55, .iload 4, 2, (0, 0, 0), [])) (by decide +kernel)) (pc2 := 57) rfl ?_
      refine q_callI (N := 7) (vs := [.int ((mz_rd m5 221 (y1 : Int32).toNatClampNeg) &&& y2), .int y4]) (rest := []) (L' := [some (.ref 220), some (.int y1), some (.int y2), some (.int y3), some (.int y4)]) (f := fun v12 m11 => if v12 = 0 then (H_X0_mostPairsFrom_27 (d' + 1) y1 y2 y3 (y4 + 1) m11) else ((R_X0_mostPairsFrom d' (y1 + 1) (y2 &&& (((1 : Int32) <<< (y4 &&& 31)) ^^^ (-1))) m11).bind (fun u17 => H_X0_mostPairsFrom_27 (d' + 1) y1 y2 (if y3 < ((1 : Int32) + u17.1) then ((1 : Int32) + u17.1) else y3) (y4 + 1) u17.2))) rfl (mz_fe (e := (57, .invokestatic 49, 4, (7, 2, 1000), [])) (by decide +kernel)) rfl (mz_inv_stat (N := 7) (k := 2) (st := [.int y4, .int ((mz_rd m5 221 (y1 : Int32).toNatClampNeg) &&& y2)]) (rest := []) (vs := [.int ((mz_rd m5 221 (y1 : Int32).toNatClampNeg) &&& y2), .int y4]) (h := (mz_S0, m5)) rfl rfl (Nat.le_of_ble_eq_true rfl) (Nat.le_of_ble_eq_true rfl)) (mz_dc_lt (n := 2) rfl (by decide +kernel) (by decide +kernel)) (by decide +kernel) (Or.inr (by decide +kernel)) (fun v12 m11 => ?_)
      refine q_if (c := .eq) (off := 25) (t := 85) (x := v12) (y := 0) (st := []) (mz_fe (e := (60, .ifCond .eq 25, 3, (0, 0, 0), [])) (by decide +kernel)) (fun _ => rfl) rfl rfl rfl (fun c14 => ?_) (fun c14 => ?_)
      · refine q_iinc (v := y4) (c := 1) (L3 := [some (.ref 220), some (.int y1), some (.int y2), some (.int y3), some (.int (y4 + 1))]) (mz_fe (e := (85, .iinc 4 1, 3, (0, 0, 0), [])) (by decide +kernel)) rfl rfl (by decide) rfl ?_
        refine q_o (mz_fe (e := (88, .goto (-61), 3, (0, 0, 0), [])) (by decide +kernel)) (pc2 := 27) rfl ?_
        exact congrArg mz_cI (mz_At_msk (L := [some (.ref 220), some (.int y1), some (.int y2), some (.int y3), some (.int (y4 + 1))]) (L2 := [some (.ref 220), some (.int y1), some (.int y2), some (.int y3), some (.int (y4 + 1))]) (mz_fe (e := (27, .iload_n 2, 1, (0, 0, 0), [true, true, true, true, true])) (by decide +kernel)) rfl rfl)
      · refine q_o (mz_fe (e := (63, .iload_n 3, 1, (0, 0, 0), [])) (by decide +kernel)) (pc2 := 64) rfl ?_
        refine q_ic (v := 1) (mz_fe (e := (64, .iconst 1, 1, (0, 0, 0), [])) (by decide +kernel)) (by decide) ?_
        refine q_o (mz_fe (e := (65, .aload_n 0, 1, (0, 0, 0), [])) (by decide +kernel)) (pc2 := 66) rfl ?_
        refine q_o (mz_fe (e := (66, .iload_n 1, 1, (0, 0, 0), [])) (by decide +kernel)) (pc2 := 67) rfl ?_
        refine q_ic (v := 1) (mz_fe (e := (67, .iconst 1, 1, (0, 0, 0), [])) (by decide +kernel)) (by decide) ?_
        refine q_o (mz_fe (e := (68, .iadd, 1, (0, 0, 0), [])) (by decide +kernel)) (pc2 := 69) rfl ?_
        refine q_o (mz_fe (e := (69, .iload_n 2, 1, (0, 0, 0), [])) (by decide +kernel)) (pc2 := 70) rfl ?_
        refine q_ic (v := 1) (mz_fe (e := (70, .iconst 1, 1, (0, 0, 0), [])) (by decide +kernel)) (by decide) ?_
        refine q_o (mz_fe (e := (71, .iload 4, 2, (0, 0, 0), [])) (by decide +kernel)) (pc2 := 73) rfl ?_
        refine q_o (mz_fe (e := (73, .ishl, 1, (0, 0, 0), [])) (by decide +kernel)) (pc2 := 74) rfl ?_
        refine q_ic (v := (-1)) (mz_fe (e := (74, .iconst (-1), 1, (0, 0, 0), [])) (by decide +kernel)) (by decide) ?_
        refine q_o (mz_fe (e := (75, .ixor, 1, (0, 0, 0), [])) (by decide +kernel)) (pc2 := 76) rfl ?_
        refine q_o (mz_fe (e := (76, .iand, 1, (0, 0, 0), [])) (by decide +kernel)) (pc2 := 77) rfl ?_
        refine q_callI (N := 6) (vs := [.ref 220, .int (y1 + 1), .int (y2 &&& (((1 : Int32) <<< (y4 &&& 31)) ^^^ (-1)))]) (rest := [.int 1, .int y3]) (L' := [some (.ref 220), some (.int y1), some (.int y2), some (.int y3), some (.int y4)]) (f := fun v16 m15 => H_X0_mostPairsFrom_27 (d' + 1) y1 y2 (if y3 < ((1 : Int32) + v16) then ((1 : Int32) + v16) else y3) (y4 + 1) m15) rfl (mz_fe (e := (77, .invokevirtual 53, 5, (6, 3, 6), [])) (by decide +kernel)) rfl (mz_inv_virt (N := 6) (k := 3) (t := 6) (st := [.int (y2 &&& (((1 : Int32) <<< (y4 &&& 31)) ^^^ (-1))), .int (y1 + 1), .ref 220, .int 1, .int y3]) (rest := [.int 1, .int y3]) (b := 220) (vs := [.int (y1 + 1), .int (y2 &&& (((1 : Int32) <<< (y4 &&& 31)) ^^^ (-1)))]) (h := (mz_S0, m11)) rfl rfl (Nat.le_of_ble_eq_true rfl) (Nat.le_of_ble_eq_true rfl) tg_220 (by decide)) (mz_dc_rec (n := 3) rfl (by decide +kernel) (by decide +kernel) (by decide +kernel)) (by decide +kernel) (Or.inl (by decide +kernel)) (fun v16 m15 => ?_)
        refine q_o (mz_fe (e := (80, .iadd, 1, (0, 0, 0), [])) (by decide +kernel)) (pc2 := 81) rfl ?_
        refine q_max (mz_fe (e := (81, .invokestatic 57, 1, (9997, 0, 0), [])) (by decide +kernel)) rfl (Nat.le_of_ble_eq_true rfl) ?_
        refine q_s (mz_fe (e := (84, .istore_n 3, 1, (0, 0, 0), [])) (by decide +kernel)) (pc' := 85) (L' := [some (.ref 220), some (.int y1), some (.int y2), some (.int (if y3 < ((1 : Int32) + v16) then ((1 : Int32) + v16) else y3)), some (.int y4)]) (st' := []) rfl ?_
        refine q_iinc (v := y4) (c := 1) (L3 := [some (.ref 220), some (.int y1), some (.int y2), some (.int (if y3 < ((1 : Int32) + v16) then ((1 : Int32) + v16) else y3)), some (.int (y4 + 1))]) (mz_fe (e := (85, .iinc 4 1, 3, (0, 0, 0), [])) (by decide +kernel)) rfl rfl (by decide) rfl ?_
        refine q_o (mz_fe (e := (88, .goto (-61), 3, (0, 0, 0), [])) (by decide +kernel)) (pc2 := 27) rfl ?_
        exact congrArg mz_cI (mz_At_msk (L := [some (.ref 220), some (.int y1), some (.int y2), some (.int (if y3 < ((1 : Int32) + v16) then ((1 : Int32) + v16) else y3)), some (.int (y4 + 1))]) (L2 := [some (.ref 220), some (.int y1), some (.int y2), some (.int (if y3 < ((1 : Int32) + v16) then ((1 : Int32) + v16) else y3)), some (.int (y4 + 1))]) (mz_fe (e := (27, .iload_n 2, 1, (0, 0, 0), [true, true, true, true, true])) (by decide +kernel)) rfl rfl)
set_option maxRecDepth 10000 in
theorem R_X0_isBit_eq (d : Nat) (x0 : Int32) (x1 : Int32) (m : MzM)  : R_X0_isBit d x0 x1 m = if ((x0 >>> (x1 &&& 31)) &&& 1) = 0 then (some (0, m)) else (some (1, m)) := by
  show mz_cI (mz_T d 7 0 (mz_en (mz_xl 7) [.int x0, .int x1]) [] m) = _
  rw [show mz_en (mz_xl 7) [.int x0, .int x1] = [some (.int x0), some (.int x1)] from by rw [show mz_xl 7 = 2 from by decide +kernel]; rfl]
  refine q_o (mz_fe (e := (0, .iload_n 0, 1, (0, 0, 0), [])) (by decide +kernel)) (pc2 := 1) rfl ?_
  refine q_o (mz_fe (e := (1, .iload_n 1, 1, (0, 0, 0), [])) (by decide +kernel)) (pc2 := 2) rfl ?_
  refine q_o (mz_fe (e := (2, .ishr, 1, (0, 0, 0), [])) (by decide +kernel)) (pc2 := 3) rfl ?_
  refine q_ic (v := 1) (mz_fe (e := (3, .iconst 1, 1, (0, 0, 0), [])) (by decide +kernel)) (by decide) ?_
  refine q_o (mz_fe (e := (4, .iand, 1, (0, 0, 0), [])) (by decide +kernel)) (pc2 := 5) rfl ?_
  refine q_if (c := .eq) (off := 7) (t := 12) (x := ((x0 >>> (x1 &&& 31)) &&& 1)) (y := 0) (st := []) (mz_fe (e := (5, .ifCond .eq 7, 3, (0, 0, 0), [])) (by decide +kernel)) (fun _ => rfl) rfl rfl rfl (fun c1 => ?_) (fun c1 => ?_)
  · refine q_ic (v := 0) (mz_fe (e := (12, .iconst 0, 1, (0, 0, 0), [])) (by decide +kernel)) (by decide) ?_
    exact q_retZ (mz_fe (e := (13, .ireturn, 1, (0, 0, 0), [])) (by decide +kernel)) (by decide +kernel) (by decide)
  · refine q_ic (v := 1) (mz_fe (e := (8, .iconst 1, 1, (0, 0, 0), [])) (by decide +kernel)) (by decide) ?_
    refine q_o (mz_fe (e := (9, .goto 4, 3, (0, 0, 0), [])) (by decide +kernel)) (pc2 := 13) rfl ?_
    exact q_retZ (mz_fe (e := (13, .ireturn, 1, (0, 0, 0), [])) (by decide +kernel)) (by decide +kernel) (by decide)
set_option maxRecDepth 10000 in
theorem R_X0_partnerOf_eq (d : Nat) (x0 : Int32) (m : MzM)  : R_X0_partnerOf d x0 m = (R_X0_everybody d  m).bind (fun u3 => H_X0_partnerOf_7 d x0 u3.1 0 u3.2) := by
  show mz_cI (mz_T d 8 0 (mz_en (mz_xl 8) [.ref 220, .int x0]) [] m) = _
  rw [show mz_en (mz_xl 8) [.ref 220, .int x0] = [some (.ref 220), some (.int x0), none, none, none] from by rw [show mz_xl 8 = 5 from by decide +kernel]; rfl]
  refine q_o (mz_fe (e := (0, .aload_n 0, 1, (0, 0, 0), [])) (by decide +kernel)) (pc2 := 1) rfl ?_
  refine q_callI (N := 3) (vs := [.ref 220]) (rest := []) (L' := [some (.ref 220), some (.int x0), none, none, none]) (f := fun v2 m1 => H_X0_partnerOf_7 d x0 v2 0 m1) rfl (mz_fe (e := (1, .invokevirtual 35, 1, (3, 1, 6), [])) (by decide +kernel)) rfl (mz_inv_virt (N := 3) (k := 1) (t := 6) (st := [.ref 220]) (rest := []) (b := 220) (vs := []) (h := (mz_S0, m)) rfl rfl (Nat.le_of_ble_eq_true rfl) (Nat.le_of_ble_eq_true rfl) tg_220 (by decide)) (mz_dc_lt (n := 1) rfl (by decide +kernel) (by decide +kernel)) (by decide +kernel) (Or.inl (by decide +kernel)) (fun v2 m1 => ?_)
  refine q_s (mz_fe (e := (4, .istore_n 2, 1, (0, 0, 0), [])) (by decide +kernel)) (pc' := 5) (L' := [some (.ref 220), some (.int x0), some (.int v2), none, none]) (st' := []) rfl ?_
  refine q_ic (v := 0) (mz_fe (e := (5, .iconst 0, 1, (0, 0, 0), [])) (by decide +kernel)) (by decide) ?_
  refine q_s (mz_fe (e := (6, .istore_n 3, 1, (0, 0, 0), [])) (by decide +kernel)) (pc' := 7) (L' := [some (.ref 220), some (.int x0), some (.int v2), some (.int 0), none]) (st' := []) rfl ?_
  exact congrArg mz_cI (mz_At_msk (L := [some (.ref 220), some (.int x0), some (.int v2), some (.int 0), none]) (L2 := [some (.ref 220), some (.int x0), some (.int v2), some (.int 0), none]) (mz_fe (e := (7, .iload_n 3, 1, (0, 0, 0), [true, true, true, true, false])) (by decide +kernel)) rfl rfl)
set_option maxRecDepth 10000 in
theorem H_X0_partnerOf_7_eq (d : Nat) (y1 : Int32) (y2 : Int32) (y3 : Int32) (m : MzM)  : H_X0_partnerOf_7 d y1 y2 y3 m = if (mz_rd m 4 4) ≤ y3 then (some ((-2), m)) else ((R_X0_isBit d y2 y3 m).bind (fun u7 => if u7.1 = 0 then (H_X0_partnerOf_7 d y1 y2 (y3 + 1) u7.2) else ((R_X0_firstPartner d y3 y2 u7.2).bind (fun u11 => if ¬ y3 = y1 then (if ¬ u11.1 = y1 then (if u11.1 = (-2) then (H_X0_partnerOf_7 d y1 y2 (y3 + 1) u11.2) else (H_X0_partnerOf_7 d y1 (y2 &&& (((1 : Int32) <<< (u11.1 &&& 31)) ^^^ (-1))) (y3 + 1) u11.2)) else (some (y3, u11.2))) else (some (u11.1, u11.2)))))) := by
  show mz_cI (mz_T d 8 7 [some (.ref 220), some (.int y1), some (.int y2), some (.int y3), none] [] m) = _
  refine q_s (mz_fe (e := (7, .iload_n 3, 1, (0, 0, 0), [true, true, true, true, false])) (by decide +kernel)) (pc' := 8) (L' := [some (.ref 220), some (.int y1), some (.int y2), some (.int y3), none]) (st' := [.int y3]) rfl ?_
  refine q_o (mz_fe (e := (8, .aload_n 0, 1, (0, 0, 0), [])) (by decide +kernel)) (pc2 := 9) rfl ?_
  refine q_getR (b := 4) (mz_fe (e := (9, .getfield 15, 1, (0, 0, 2), [])) (by decide +kernel)) rfl tg_220 (by rw [ln_220]; decide) (mz_rfS (by decide +kernel)) ?_
  refine q_getI (mz_fe (e := (12, .getfield 23, 3, (8, 4, 0), [])) (by decide +kernel)) rfl (by decide) tg_4 (by rw [ln_4]; decide) ?_
  refine q_if (c := .ge) (off := 57) (t := 72) (x := y3) (y := (mz_rd m 4 4)) (st := []) (mz_fe (e := (15, .if_icmp .ge 57, 3, (0, 0, 0), [])) (by decide +kernel)) (fun _ => rfl) rfl rfl rfl (fun c4 => ?_) (fun c4 => ?_)
  · refine q_bi (v := (-2)) (mz_fe (e := (72, .bipush (-2), 2, (0, 0, 0), [])) (by decide +kernel)) (by decide) ?_
    exact q_retI (mz_fe (e := (74, .ireturn, 1, (0, 0, 0), [])) (by decide +kernel)) (by decide +kernel)
  · refine q_o (mz_fe (e := (18, .iload_n 2, 1, (0, 0, 0), [])) (by decide +kernel)) (pc2 := 19) rfl ?_
    refine q_o (mz_fe (e := (19, .iload_n 3, 1, (0, 0, 0), [])) (by decide +kernel)) (pc2 := 20) rfl ?_
    refine q_callI (N := 7) (vs := [.int y2, .int y3]) (rest := []) (L' := [some (.ref 220), some (.int y1), some (.int y2), some (.int y3), none]) (f := fun v6 m5 => if v6 = 0 then (H_X0_partnerOf_7 d y1 y2 (y3 + 1) m5) else ((R_X0_firstPartner d y3 y2 m5).bind (fun u11 => if ¬ y3 = y1 then (if ¬ u11.1 = y1 then (if u11.1 = (-2) then (H_X0_partnerOf_7 d y1 y2 (y3 + 1) u11.2) else (H_X0_partnerOf_7 d y1 (y2 &&& (((1 : Int32) <<< (u11.1 &&& 31)) ^^^ (-1))) (y3 + 1) u11.2)) else (some (y3, u11.2))) else (some (u11.1, u11.2))))) rfl (mz_fe (e := (20, .invokestatic 49, 4, (7, 2, 1000), [])) (by decide +kernel)) rfl (mz_inv_stat (N := 7) (k := 2) (st := [.int y3, .int y2]) (rest := []) (vs := [.int y2, .int y3]) (h := (mz_S0, m)) rfl rfl (Nat.le_of_ble_eq_true rfl) (Nat.le_of_ble_eq_true rfl)) (mz_dc_lt (n := 2) rfl (by decide +kernel) (by decide +kernel)) (by decide +kernel) (Or.inr (by decide +kernel)) (fun v6 m5 => ?_)
    refine q_if (c := .eq) (off := 43) (t := 66) (x := v6) (y := 0) (st := []) (mz_fe (e := (23, .ifCond .eq 43, 3, (0, 0, 0), [])) (by decide +kernel)) (fun _ => rfl) rfl rfl rfl (fun c8 => ?_) (fun c8 => ?_)
    · refine q_iinc (v := y3) (c := 1) (L3 := [some (.ref 220), some (.int y1), some (.int y2), some (.int (y3 + 1)), none]) (mz_fe (e := (66, .iinc 3 1, 3, (0, 0, 0), [])) (by decide +kernel)) rfl rfl (by decide) rfl ?_
      refine q_o (mz_fe (e := (69, .goto (-62), 3, (0, 0, 0), [])) (by decide +kernel)) (pc2 := 7) rfl ?_
      exact congrArg mz_cI (mz_At_msk (L := [some (.ref 220), some (.int y1), some (.int y2), some (.int (y3 + 1)), none]) (L2 := [some (.ref 220), some (.int y1), some (.int y2), some (.int (y3 + 1)), none]) (mz_fe (e := (7, .iload_n 3, 1, (0, 0, 0), [true, true, true, true, false])) (by decide +kernel)) rfl rfl)
    · refine q_o (mz_fe (e := (26, .aload_n 0, 1, (0, 0, 0), [])) (by decide +kernel)) (pc2 := 27) rfl ?_
      refine q_o (mz_fe (e := (27, .iload_n 3, 1, (0, 0, 0), [])) (by decide +kernel)) (pc2 := 28) rfl ?_
      refine q_o (mz_fe (e := (28, .iload_n 2, 1, (0, 0, 0), [])) (by decide +kernel)) (pc2 := 29) rfl ?_
      refine q_callI (N := 9) (vs := [.ref 220, .int y3, .int y2]) (rest := []) (L' := [some (.ref 220), some (.int y1), some (.int y2), some (.int y3), none]) (f := fun v10 m9 => if ¬ y3 = y1 then (if ¬ v10 = y1 then (if v10 = (-2) then (H_X0_partnerOf_7 d y1 y2 (y3 + 1) m9) else (H_X0_partnerOf_7 d y1 (y2 &&& (((1 : Int32) <<< (v10 &&& 31)) ^^^ (-1))) (y3 + 1) m9)) else (some (y3, m9))) else (some (v10, m9))) rfl (mz_fe (e := (29, .invokevirtual 62, 6, (9, 3, 6), [])) (by decide +kernel)) rfl (mz_inv_virt (N := 9) (k := 3) (t := 6) (st := [.int y2, .int y3, .ref 220]) (rest := []) (b := 220) (vs := [.int y3, .int y2]) (h := (mz_S0, m5)) rfl rfl (Nat.le_of_ble_eq_true rfl) (Nat.le_of_ble_eq_true rfl) tg_220 (by decide)) (mz_dc_lt (n := 3) rfl (by decide +kernel) (by decide +kernel)) (by decide +kernel) (Or.inl (by decide +kernel)) (fun v10 m9 => ?_)
      refine q_s (mz_fe (e := (32, .istore 4, 2, (0, 0, 0), [])) (by decide +kernel)) (pc' := 34) (L' := [some (.ref 220), some (.int y1), some (.int y2), some (.int y3), some (.int v10)]) (st' := []) rfl ?_
      refine q_o (mz_fe (e := (34, .iload_n 3, 1, (0, 0, 0), [])) (by decide +kernel)) (pc2 := 35) rfl ?_
      refine q_o (mz_fe (e := (35, .iload_n 1, 1, (0, 0, 0), [])) (by decide +kernel)) (pc2 := 36) rfl ?_
      refine q_if (c := .ne) (off := 6) (t := 42) (x := y3) (y := y1) (st := []) (mz_fe (e := (36, .if_icmp .ne 6, 3, (0, 0, 0), [])) (by decide +kernel)) (fun _ => rfl) rfl rfl rfl (fun c12 => ?_) (fun c12 => ?_)
      · refine q_o (mz_fe (e := (42, .iload 4, 2, (0, 0, 0), [])) (by decide +kernel)) (pc2 := 44) rfl ?_
        refine q_o (mz_fe (e := (44, .iload_n 1, 1, (0, 0, 0), [])) (by decide +kernel)) (pc2 := 45) rfl ?_
        refine q_if (c := .ne) (off := 5) (t := 50) (x := v10) (y := y1) (st := []) (mz_fe (e := (45, .if_icmp .ne 5, 3, (0, 0, 0), [])) (by decide +kernel)) (fun _ => rfl) rfl rfl rfl (fun c13 => ?_) (fun c13 => ?_)
        · refine q_o (mz_fe (e := (50, .iload 4, 2, (0, 0, 0), [])) (by decide +kernel)) (pc2 := 52) rfl ?_
          refine q_bi (v := (-2)) (mz_fe (e := (52, .bipush (-2), 2, (0, 0, 0), [])) (by decide +kernel)) (by decide) ?_
          refine q_if (c := .eq) (off := 12) (t := 66) (x := v10) (y := (-2)) (st := []) (mz_fe (e := (54, .if_icmp .eq 12, 3, (0, 0, 0), [])) (by decide +kernel)) (fun _ => rfl) rfl rfl rfl (fun c14 => ?_) (fun c14 => ?_)
          · refine q_iinc (v := y3) (c := 1) (L3 := [some (.ref 220), some (.int y1), some (.int y2), some (.int (y3 + 1)), some (.int v10)]) (mz_fe (e := (66, .iinc 3 1, 3, (0, 0, 0), [])) (by decide +kernel)) rfl rfl (by decide) rfl ?_
            refine q_o (mz_fe (e := (69, .goto (-62), 3, (0, 0, 0), [])) (by decide +kernel)) (pc2 := 7) rfl ?_
            exact congrArg mz_cI (mz_At_msk (L := [some (.ref 220), some (.int y1), some (.int y2), some (.int (y3 + 1)), some (.int v10)]) (L2 := [some (.ref 220), some (.int y1), some (.int y2), some (.int (y3 + 1)), none]) (mz_fe (e := (7, .iload_n 3, 1, (0, 0, 0), [true, true, true, true, false])) (by decide +kernel)) rfl rfl)
          · refine q_o (mz_fe (e := (57, .iload_n 2, 1, (0, 0, 0), [])) (by decide +kernel)) (pc2 := 58) rfl ?_
            refine q_ic (v := 1) (mz_fe (e := (58, .iconst 1, 1, (0, 0, 0), [])) (by decide +kernel)) (by decide) ?_
            refine q_o (mz_fe (e := (59, .iload 4, 2, (0, 0, 0), [])) (by decide +kernel)) (pc2 := 61) rfl ?_
            refine q_o (mz_fe (e := (61, .ishl, 1, (0, 0, 0), [])) (by decide +kernel)) (pc2 := 62) rfl ?_
            refine q_ic (v := (-1)) (mz_fe (e := (62, .iconst (-1), 1, (0, 0, 0), [])) (by decide +kernel)) (by decide) ?_
            refine q_o (mz_fe (e := (63, .ixor, 1, (0, 0, 0), [])) (by decide +kernel)) (pc2 := 64) rfl ?_
            refine q_o (mz_fe (e := (64, .iand, 1, (0, 0, 0), [])) (by decide +kernel)) (pc2 := 65) rfl ?_
            refine q_s (mz_fe (e := (65, .istore_n 2, 1, (0, 0, 0), [])) (by decide +kernel)) (pc' := 66) (L' := [some (.ref 220), some (.int y1), some (.int (y2 &&& (((1 : Int32) <<< (v10 &&& 31)) ^^^ (-1)))), some (.int y3), some (.int v10)]) (st' := []) rfl ?_
            refine q_iinc (v := y3) (c := 1) (L3 := [some (.ref 220), some (.int y1), some (.int (y2 &&& (((1 : Int32) <<< (v10 &&& 31)) ^^^ (-1)))), some (.int (y3 + 1)), some (.int v10)]) (mz_fe (e := (66, .iinc 3 1, 3, (0, 0, 0), [])) (by decide +kernel)) rfl rfl (by decide) rfl ?_
            refine q_o (mz_fe (e := (69, .goto (-62), 3, (0, 0, 0), [])) (by decide +kernel)) (pc2 := 7) rfl ?_
            exact congrArg mz_cI (mz_At_msk (L := [some (.ref 220), some (.int y1), some (.int (y2 &&& (((1 : Int32) <<< (v10 &&& 31)) ^^^ (-1)))), some (.int (y3 + 1)), some (.int v10)]) (L2 := [some (.ref 220), some (.int y1), some (.int (y2 &&& (((1 : Int32) <<< (v10 &&& 31)) ^^^ (-1)))), some (.int (y3 + 1)), none]) (mz_fe (e := (7, .iload_n 3, 1, (0, 0, 0), [true, true, true, true, false])) (by decide +kernel)) rfl rfl)
        · refine q_o (mz_fe (e := (48, .iload_n 3, 1, (0, 0, 0), [])) (by decide +kernel)) (pc2 := 49) rfl ?_
          exact q_retI (mz_fe (e := (49, .ireturn, 1, (0, 0, 0), [])) (by decide +kernel)) (by decide +kernel)
      · refine q_o (mz_fe (e := (39, .iload 4, 2, (0, 0, 0), [])) (by decide +kernel)) (pc2 := 41) rfl ?_
        exact q_retI (mz_fe (e := (41, .ireturn, 1, (0, 0, 0), [])) (by decide +kernel)) (by decide +kernel)
set_option maxRecDepth 10000 in
theorem R_X0_firstPartner_eq (d : Nat) (x0 : Int32) (x1 : Int32) (m : MzM)  : R_X0_firstPartner d x0 x1 m = (R_X0_mostPairsFrom d x0 x1 m).bind (fun u3 => (R_X0_mostPairsFrom d (x0 + 1) x1 u3.2).bind (fun u6 => if ¬ u6.1 = u3.1 then (H_X0_firstPartner_27 d x0 x1 u3.1 (x0 + 1) u6.2) else (some ((-2), u6.2)))) := by
  show mz_cI (mz_T d 9 0 (mz_en (mz_xl 9) [.ref 220, .int x0, .int x1]) [] m) = _
  rw [show mz_en (mz_xl 9) [.ref 220, .int x0, .int x1] = [some (.ref 220), some (.int x0), some (.int x1), none, none, none] from by rw [show mz_xl 9 = 6 from by decide +kernel]; rfl]
  refine q_o (mz_fe (e := (0, .aload_n 0, 1, (0, 0, 0), [])) (by decide +kernel)) (pc2 := 1) rfl ?_
  refine q_o (mz_fe (e := (1, .iload_n 1, 1, (0, 0, 0), [])) (by decide +kernel)) (pc2 := 2) rfl ?_
  refine q_o (mz_fe (e := (2, .iload_n 2, 1, (0, 0, 0), [])) (by decide +kernel)) (pc2 := 3) rfl ?_
  refine q_callI (N := 6) (vs := [.ref 220, .int x0, .int x1]) (rest := []) (L' := [some (.ref 220), some (.int x0), some (.int x1), none, none, none]) (f := fun v2 m1 => (R_X0_mostPairsFrom d (x0 + 1) x1 m1).bind (fun u6 => if ¬ u6.1 = v2 then (H_X0_firstPartner_27 d x0 x1 v2 (x0 + 1) u6.2) else (some ((-2), u6.2)))) rfl (mz_fe (e := (3, .invokevirtual 53, 5, (6, 3, 6), [])) (by decide +kernel)) rfl (mz_inv_virt (N := 6) (k := 3) (t := 6) (st := [.int x1, .int x0, .ref 220]) (rest := []) (b := 220) (vs := [.int x0, .int x1]) (h := (mz_S0, m)) rfl rfl (Nat.le_of_ble_eq_true rfl) (Nat.le_of_ble_eq_true rfl) tg_220 (by decide)) (mz_dc_lt (n := 3) rfl (by decide +kernel) (by decide +kernel)) (by decide +kernel) (Or.inl (by decide +kernel)) (fun v2 m1 => ?_)
  refine q_s (mz_fe (e := (6, .istore_n 3, 1, (0, 0, 0), [])) (by decide +kernel)) (pc' := 7) (L' := [some (.ref 220), some (.int x0), some (.int x1), some (.int v2), none, none]) (st' := []) rfl ?_
  refine q_o (mz_fe (e := (7, .aload_n 0, 1, (0, 0, 0), [])) (by decide +kernel)) (pc2 := 8) rfl ?_
  refine q_o (mz_fe (e := (8, .iload_n 1, 1, (0, 0, 0), [])) (by decide +kernel)) (pc2 := 9) rfl ?_
  refine q_ic (v := 1) (mz_fe (e := (9, .iconst 1, 1, (0, 0, 0), [])) (by decide +kernel)) (by decide) ?_
  refine q_o (mz_fe (e := (10, .iadd, 1, (0, 0, 0), [])) (by decide +kernel)) (pc2 := 11) rfl ?_
  refine q_o (mz_fe (e := (11, .iload_n 2, 1, (0, 0, 0), [])) (by decide +kernel)) (pc2 := 12) rfl ?_
  refine q_callI (N := 6) (vs := [.ref 220, .int (x0 + 1), .int x1]) (rest := []) (L' := [some (.ref 220), some (.int x0), some (.int x1), some (.int v2), none, none]) (f := fun v5 m4 => if ¬ v5 = v2 then (H_X0_firstPartner_27 d x0 x1 v2 (x0 + 1) m4) else (some ((-2), m4))) rfl (mz_fe (e := (12, .invokevirtual 53, 5, (6, 3, 6), [])) (by decide +kernel)) rfl (mz_inv_virt (N := 6) (k := 3) (t := 6) (st := [.int x1, .int (x0 + 1), .ref 220]) (rest := []) (b := 220) (vs := [.int (x0 + 1), .int x1]) (h := (mz_S0, m1)) rfl rfl (Nat.le_of_ble_eq_true rfl) (Nat.le_of_ble_eq_true rfl) tg_220 (by decide)) (mz_dc_lt (n := 3) rfl (by decide +kernel) (by decide +kernel)) (by decide +kernel) (Or.inl (by decide +kernel)) (fun v5 m4 => ?_)
  refine q_o (mz_fe (e := (15, .iload_n 3, 1, (0, 0, 0), [])) (by decide +kernel)) (pc2 := 16) rfl ?_
  refine q_if (c := .ne) (off := 6) (t := 22) (x := v5) (y := v2) (st := []) (mz_fe (e := (16, .if_icmp .ne 6, 3, (0, 0, 0), [])) (by decide +kernel)) (fun _ => rfl) rfl rfl rfl (fun c7 => ?_) (fun c7 => ?_)
  · refine q_o (mz_fe (e := (22, .iload_n 1, 1, (0, 0, 0), [])) (by decide +kernel)) (pc2 := 23) rfl ?_
    refine q_ic (v := 1) (mz_fe (e := (23, .iconst 1, 1, (0, 0, 0), [])) (by decide +kernel)) (by decide) ?_
    refine q_o (mz_fe (e := (24, .iadd, 1, (0, 0, 0), [])) (by decide +kernel)) (pc2 := 25) rfl ?_
    refine q_s (mz_fe (e := (25, .istore 4, 2, (0, 0, 0), [])) (by decide +kernel)) (pc' := 27) (L' := [some (.ref 220), some (.int x0), some (.int x1), some (.int v2), some (.int (x0 + 1)), none]) (st' := []) rfl ?_
    exact congrArg mz_cI (mz_At_msk (L := [some (.ref 220), some (.int x0), some (.int x1), some (.int v2), some (.int (x0 + 1)), none]) (L2 := [some (.ref 220), some (.int x0), some (.int x1), some (.int v2), some (.int (x0 + 1)), none]) (mz_fe (e := (27, .iload 4, 2, (0, 0, 0), [true, true, true, true, true, false])) (by decide +kernel)) rfl rfl)
  · refine q_bi (v := (-2)) (mz_fe (e := (19, .bipush (-2), 2, (0, 0, 0), [])) (by decide +kernel)) (by decide) ?_
    exact q_retI (mz_fe (e := (21, .ireturn, 1, (0, 0, 0), [])) (by decide +kernel)) (by decide +kernel)
set_option maxRecDepth 10000 in
theorem H_X0_firstPartner_27_eq (d : Nat) (y1 : Int32) (y2 : Int32) (y3 : Int32) (y4 : Int32) (m : MzM)  : H_X0_firstPartner_27 d y1 y2 y3 y4 m = if (mz_rd m 4 4) ≤ y4 then (some ((-2), m)) else (mz_g (mz_ok y1 6) ((R_X0_isBit d ((mz_rd m 221 (y1 : Int32).toNatClampNeg) &&& y2) y4 m).bind (fun u12 => if u12.1 = 0 then (H_X0_firstPartner_27 d y1 y2 y3 (y4 + 1) u12.2) else ((R_X0_mostPairsFrom d (y1 + 1) (y2 &&& (((1 : Int32) <<< (y4 &&& 31)) ^^^ (-1))) u12.2).bind (fun u16 => if ¬ ((1 : Int32) + u16.1) = y3 then (H_X0_firstPartner_27 d y1 y2 y3 (y4 + 1) u16.2) else (some (y4, u16.2))))))) := by
  show mz_cI (mz_T d 9 27 [some (.ref 220), some (.int y1), some (.int y2), some (.int y3), some (.int y4), none] [] m) = _
  refine q_s (mz_fe (e := (27, .iload 4, 2, (0, 0, 0), [true, true, true, true, true, false])) (by decide +kernel)) (pc' := 29) (L' := [some (.ref 220), some (.int y1), some (.int y2), some (.int y3), some (.int y4), none]) (st' := [.int y4]) rfl ?_
  refine q_o (mz_fe (e := (29, .aload_n 0, 1, (0, 0, 0), [])) (by decide +kernel)) (pc2 := 30) rfl ?_
  refine q_getR (b := 4) (mz_fe (e := (30, .getfield 15, 1, (0, 0, 2), [])) (by decide +kernel)) rfl tg_220 (by rw [ln_220]; decide) (mz_rfS (by decide +kernel)) ?_
  refine q_getI (mz_fe (e := (33, .getfield 23, 3, (8, 4, 0), [])) (by decide +kernel)) rfl (by decide) tg_4 (by rw [ln_4]; decide) ?_
  refine q_if (c := .ge) (off := 53) (t := 89) (x := y4) (y := (mz_rd m 4 4)) (st := []) (mz_fe (e := (36, .if_icmp .ge 53, 3, (0, 0, 0), [])) (by decide +kernel)) (fun _ => rfl) rfl rfl rfl (fun c8 => ?_) (fun c8 => ?_)
  · refine q_bi (v := (-2)) (mz_fe (e := (89, .bipush (-2), 2, (0, 0, 0), [])) (by decide +kernel)) (by decide) ?_
    exact q_retI (mz_fe (e := (91, .ireturn, 1, (0, 0, 0), [])) (by decide +kernel)) (by decide +kernel)
  · refine q_o (mz_fe (e := (39, .aload_n 0, 1, (0, 0, 0), [])) (by decide +kernel)) (pc2 := 40) rfl ?_
    refine q_getR (b := 221) (mz_fe (e := (40, .getfield 9, 0, (0, 2, 2), [])) (by decide +kernel)) rfl tg_220 (by rw [ln_220]; decide) (mz_rfS (by decide +kernel)) ?_
    refine q_o (mz_fe (e := (43, .iload_n 1, 1, (0, 0, 0), [])) (by decide +kernel)) (pc2 := 44) rfl ?_
    refine q_ialdg rfl (mz_fe (e := (44, .iaload, 1, (0, 0, 0), [])) (by decide +kernel)) rfl (by decide) tg_221 ln_221 (fun g9 => ?_)
    refine q_o (mz_fe (e := (45, .iload_n 2, 1, (0, 0, 0), [])) (by decide +kernel)) (pc2 := 46) rfl ?_
    refine q_o (mz_fe (e := (46, .iand, 1, (0, 0, 0), [])) (by decide +kernel)) (pc2 := 47) rfl ?_
    refine q_o (mz_fe (e := (47, .iload 4, 2, (0, 0, 0), [])) (by decide +kernel)) (pc2 := 49) rfl ?_
    refine q_callI (N := 7) (vs := [.int ((mz_rd m 221 (y1 : Int32).toNatClampNeg) &&& y2), .int y4]) (rest := []) (L' := [some (.ref 220), some (.int y1), some (.int y2), some (.int y3), some (.int y4), none]) (f := fun v11 m10 => if v11 = 0 then (H_X0_firstPartner_27 d y1 y2 y3 (y4 + 1) m10) else ((R_X0_mostPairsFrom d (y1 + 1) (y2 &&& (((1 : Int32) <<< (y4 &&& 31)) ^^^ (-1))) m10).bind (fun u16 => if ¬ ((1 : Int32) + u16.1) = y3 then (H_X0_firstPartner_27 d y1 y2 y3 (y4 + 1) u16.2) else (some (y4, u16.2))))) rfl (mz_fe (e := (49, .invokestatic 49, 4, (7, 2, 1000), [])) (by decide +kernel)) rfl (mz_inv_stat (N := 7) (k := 2) (st := [.int y4, .int ((mz_rd m 221 (y1 : Int32).toNatClampNeg) &&& y2)]) (rest := []) (vs := [.int ((mz_rd m 221 (y1 : Int32).toNatClampNeg) &&& y2), .int y4]) (h := (mz_S0, m)) rfl rfl (Nat.le_of_ble_eq_true rfl) (Nat.le_of_ble_eq_true rfl)) (mz_dc_lt (n := 2) rfl (by decide +kernel) (by decide +kernel)) (by decide +kernel) (Or.inr (by decide +kernel)) (fun v11 m10 => ?_)
    refine q_s (mz_fe (e := (52, .istore 5, 2, (0, 0, 0), [])) (by decide +kernel)) (pc' := 54) (L' := [some (.ref 220), some (.int y1), some (.int y2), some (.int y3), some (.int y4), some (.int v11)]) (st' := []) rfl ?_
    refine q_o (mz_fe (e := (54, .iload 5, 2, (0, 0, 0), [])) (by decide +kernel)) (pc2 := 56) rfl ?_
    refine q_if (c := .eq) (off := 27) (t := 83) (x := v11) (y := 0) (st := []) (mz_fe (e := (56, .ifCond .eq 27, 3, (0, 0, 0), [])) (by decide +kernel)) (fun _ => rfl) rfl rfl rfl (fun c13 => ?_) (fun c13 => ?_)
    · refine q_iinc (v := y4) (c := 1) (L3 := [some (.ref 220), some (.int y1), some (.int y2), some (.int y3), some (.int (y4 + 1)), some (.int v11)]) (mz_fe (e := (83, .iinc 4 1, 3, (0, 0, 0), [])) (by decide +kernel)) rfl rfl (by decide) rfl ?_
      refine q_o (mz_fe (e := (86, .goto (-59), 3, (0, 0, 0), [])) (by decide +kernel)) (pc2 := 27) rfl ?_
      exact congrArg mz_cI (mz_At_msk (L := [some (.ref 220), some (.int y1), some (.int y2), some (.int y3), some (.int (y4 + 1)), some (.int v11)]) (L2 := [some (.ref 220), some (.int y1), some (.int y2), some (.int y3), some (.int (y4 + 1)), none]) (mz_fe (e := (27, .iload 4, 2, (0, 0, 0), [true, true, true, true, true, false])) (by decide +kernel)) rfl rfl)
    · refine q_ic (v := 1) (mz_fe (e := (59, .iconst 1, 1, (0, 0, 0), [])) (by decide +kernel)) (by decide) ?_
      refine q_o (mz_fe (e := (60, .aload_n 0, 1, (0, 0, 0), [])) (by decide +kernel)) (pc2 := 61) rfl ?_
      refine q_o (mz_fe (e := (61, .iload_n 1, 1, (0, 0, 0), [])) (by decide +kernel)) (pc2 := 62) rfl ?_
      refine q_ic (v := 1) (mz_fe (e := (62, .iconst 1, 1, (0, 0, 0), [])) (by decide +kernel)) (by decide) ?_
      refine q_o (mz_fe (e := (63, .iadd, 1, (0, 0, 0), [])) (by decide +kernel)) (pc2 := 64) rfl ?_
      refine q_o (mz_fe (e := (64, .iload_n 2, 1, (0, 0, 0), [])) (by decide +kernel)) (pc2 := 65) rfl ?_
      refine q_ic (v := 1) (mz_fe (e := (65, .iconst 1, 1, (0, 0, 0), [])) (by decide +kernel)) (by decide) ?_
      refine q_o (mz_fe (e := (66, .iload 4, 2, (0, 0, 0), [])) (by decide +kernel)) (pc2 := 68) rfl ?_
      refine q_o (mz_fe (e := (68, .ishl, 1, (0, 0, 0), [])) (by decide +kernel)) (pc2 := 69) rfl ?_
      refine q_ic (v := (-1)) (mz_fe (e := (69, .iconst (-1), 1, (0, 0, 0), [])) (by decide +kernel)) (by decide) ?_
      refine q_o (mz_fe (e := (70, .ixor, 1, (0, 0, 0), [])) (by decide +kernel)) (pc2 := 71) rfl ?_
      refine q_o (mz_fe (e := (71, .iand, 1, (0, 0, 0), [])) (by decide +kernel)) (pc2 := 72) rfl ?_
      refine q_callI (N := 6) (vs := [.ref 220, .int (y1 + 1), .int (y2 &&& (((1 : Int32) <<< (y4 &&& 31)) ^^^ (-1)))]) (rest := [.int 1]) (L' := [some (.ref 220), some (.int y1), some (.int y2), some (.int y3), some (.int y4), some (.int v11)]) (f := fun v15 m14 => if ¬ ((1 : Int32) + v15) = y3 then (H_X0_firstPartner_27 d y1 y2 y3 (y4 + 1) m14) else (some (y4, m14))) rfl (mz_fe (e := (72, .invokevirtual 53, 5, (6, 3, 6), [])) (by decide +kernel)) rfl (mz_inv_virt (N := 6) (k := 3) (t := 6) (st := [.int (y2 &&& (((1 : Int32) <<< (y4 &&& 31)) ^^^ (-1))), .int (y1 + 1), .ref 220, .int 1]) (rest := [.int 1]) (b := 220) (vs := [.int (y1 + 1), .int (y2 &&& (((1 : Int32) <<< (y4 &&& 31)) ^^^ (-1)))]) (h := (mz_S0, m10)) rfl rfl (Nat.le_of_ble_eq_true rfl) (Nat.le_of_ble_eq_true rfl) tg_220 (by decide)) (mz_dc_lt (n := 3) rfl (by decide +kernel) (by decide +kernel)) (by decide +kernel) (Or.inl (by decide +kernel)) (fun v15 m14 => ?_)
      refine q_o (mz_fe (e := (75, .iadd, 1, (0, 0, 0), [])) (by decide +kernel)) (pc2 := 76) rfl ?_
      refine q_o (mz_fe (e := (76, .iload_n 3, 1, (0, 0, 0), [])) (by decide +kernel)) (pc2 := 77) rfl ?_
      refine q_if (c := .ne) (off := 6) (t := 83) (x := ((1 : Int32) + v15)) (y := y3) (st := []) (mz_fe (e := (77, .if_icmp .ne 6, 3, (0, 0, 0), [])) (by decide +kernel)) (fun _ => rfl) rfl rfl rfl (fun c17 => ?_) (fun c17 => ?_)
      · refine q_iinc (v := y4) (c := 1) (L3 := [some (.ref 220), some (.int y1), some (.int y2), some (.int y3), some (.int (y4 + 1)), some (.int v11)]) (mz_fe (e := (83, .iinc 4 1, 3, (0, 0, 0), [])) (by decide +kernel)) rfl rfl (by decide) rfl ?_
        refine q_o (mz_fe (e := (86, .goto (-59), 3, (0, 0, 0), [])) (by decide +kernel)) (pc2 := 27) rfl ?_
        exact congrArg mz_cI (mz_At_msk (L := [some (.ref 220), some (.int y1), some (.int y2), some (.int y3), some (.int (y4 + 1)), some (.int v11)]) (L2 := [some (.ref 220), some (.int y1), some (.int y2), some (.int y3), some (.int (y4 + 1)), none]) (mz_fe (e := (27, .iload 4, 2, (0, 0, 0), [true, true, true, true, true, false])) (by decide +kernel)) rfl rfl)
      · refine q_o (mz_fe (e := (80, .iload 4, 2, (0, 0, 0), [])) (by decide +kernel)) (pc2 := 82) rfl ?_
        exact q_retI (mz_fe (e := (82, .ireturn, 1, (0, 0, 0), [])) (by decide +kernel)) (by decide +kernel)
set_option maxRecDepth 10000 in
theorem R_X3_lookAt_eq (d : Nat) (s : Nat) (x0 : Int32) (x1 : Int32) (m : MzM) (hs : mz_isS s = true) : R_X3_lookAt d s x0 x1 m = H_X3_lookAt_12 d s x0 x1 0 0 0 0 m := by
  show mz_cV (mz_T d 26 0 (mz_en (mz_xl 26) [.ref 27, .ref s, .int x0, .int x1]) [] m) = _
  rw [show mz_en (mz_xl 26) [.ref 27, .ref s, .int x0, .int x1] = [some (.ref 27), some (.ref s), some (.int x0), some (.int x1), none, none, none, none, none] from by rw [show mz_xl 26 = 9 from by decide +kernel]; rfl]
  refine q_ic (v := 0) (mz_fe (e := (0, .iconst 0, 1, (0, 0, 0), [])) (by decide +kernel)) (by decide) ?_
  refine q_s (mz_fe (e := (1, .istore 4, 2, (0, 0, 0), [])) (by decide +kernel)) (pc' := 3) (L' := [some (.ref 27), some (.ref s), some (.int x0), some (.int x1), some (.int 0), none, none, none, none]) (st' := []) rfl ?_
  refine q_ic (v := 0) (mz_fe (e := (3, .iconst 0, 1, (0, 0, 0), [])) (by decide +kernel)) (by decide) ?_
  refine q_s (mz_fe (e := (4, .istore 5, 2, (0, 0, 0), [])) (by decide +kernel)) (pc' := 6) (L' := [some (.ref 27), some (.ref s), some (.int x0), some (.int x1), some (.int 0), some (.int 0), none, none, none]) (st' := []) rfl ?_
  refine q_ic (v := 0) (mz_fe (e := (6, .iconst 0, 1, (0, 0, 0), [])) (by decide +kernel)) (by decide) ?_
  refine q_s (mz_fe (e := (7, .istore 6, 2, (0, 0, 0), [])) (by decide +kernel)) (pc' := 9) (L' := [some (.ref 27), some (.ref s), some (.int x0), some (.int x1), some (.int 0), some (.int 0), some (.int 0), none, none]) (st' := []) rfl ?_
  refine q_ic (v := 0) (mz_fe (e := (9, .iconst 0, 1, (0, 0, 0), [])) (by decide +kernel)) (by decide) ?_
  refine q_s (mz_fe (e := (10, .istore 7, 2, (0, 0, 0), [])) (by decide +kernel)) (pc' := 12) (L' := [some (.ref 27), some (.ref s), some (.int x0), some (.int x1), some (.int 0), some (.int 0), some (.int 0), some (.int 0), none]) (st' := []) rfl ?_
  exact congrArg mz_cV (mz_At_msk (L := [some (.ref 27), some (.ref s), some (.int x0), some (.int x1), some (.int 0), some (.int 0), some (.int 0), some (.int 0), none]) (L2 := [some (.ref 27), some (.ref s), some (.int x0), some (.int x1), some (.int 0), some (.int 0), some (.int 0), some (.int 0), none]) (mz_fe (e := (12, .iload 7, 2, (0, 0, 0), [true, true, true, true, true, true, true, true, false])) (by decide +kernel)) rfl rfl)
set_option maxRecDepth 10000 in
theorem H_X3_lookAt_12_eq (d : Nat) (a1 : Nat) (y2 : Int32) (y3 : Int32) (y4 : Int32) (y5 : Int32) (y6 : Int32) (y7 : Int32) (m : MzM) (ha1 : mz_isS a1 = true) : H_X3_lookAt_12 d a1 y2 y3 y4 y5 y6 y7 m = if (4 : Int32) ≤ y7 then (some (mz_wr (mz_wr (mz_wr (mz_wr (mz_wr (mz_wr (mz_wr (mz_wr (mz_wr m 28 0 y6) 28 1 (mz_rd (mz_wr m 28 0 y6) a1 5)) 28 2 (mz_rd (mz_wr (mz_wr m 28 0 y6) 28 1 (mz_rd (mz_wr m 28 0 y6) a1 5)) a1 6)) 28 3 0) 28 4 0) 28 5 y4) 28 6 (mz_rd (mz_wr (mz_wr (mz_wr (mz_wr (mz_wr (mz_wr m 28 0 y6) 28 1 (mz_rd (mz_wr m 28 0 y6) a1 5)) 28 2 (mz_rd (mz_wr (mz_wr m 28 0 y6) 28 1 (mz_rd (mz_wr m 28 0 y6) a1 5)) a1 6)) 28 3 0) 28 4 0) 28 5 y4) a1 3)) 28 7 (mz_rd (mz_wr (mz_wr (mz_wr (mz_wr (mz_wr (mz_wr (mz_wr m 28 0 y6) 28 1 (mz_rd (mz_wr m 28 0 y6) a1 5)) 28 2 (mz_rd (mz_wr (mz_wr m 28 0 y6) 28 1 (mz_rd (mz_wr m 28 0 y6) a1 5)) a1 6)) 28 3 0) 28 4 0) 28 5 y4) 28 6 (mz_rd (mz_wr (mz_wr (mz_wr (mz_wr (mz_wr (mz_wr m 28 0 y6) 28 1 (mz_rd (mz_wr m 28 0 y6) a1 5)) 28 2 (mz_rd (mz_wr (mz_wr m 28 0 y6) 28 1 (mz_rd (mz_wr m 28 0 y6) a1 5)) a1 6)) 28 3 0) 28 4 0) 28 5 y4) a1 3)) a1 4)) 28 8 y5)) else ((R_X6_amount d a1 y2 y7 m).bind (fun u4 => (R_X6_amount d a1 y3 y7 u4.2).bind (fun u7 => if (if (0 : Int32) ≤ (u4.1 - u7.1) then (u4.1 - u7.1) else 0 - (u4.1 - u7.1)) ≤ y5 then (H_X3_lookAt_12 d a1 y2 y3 (y4 + (if (0 : Int32) ≤ (u4.1 - u7.1) then (u4.1 - u7.1) else 0 - (u4.1 - u7.1))) y5 y6 (y7 + 1) u7.2) else (H_X3_lookAt_12 d a1 y2 y3 (y4 + (if (0 : Int32) ≤ (u4.1 - u7.1) then (u4.1 - u7.1) else 0 - (u4.1 - u7.1))) (if (0 : Int32) ≤ (u4.1 - u7.1) then (u4.1 - u7.1) else 0 - (u4.1 - u7.1)) y7 (y7 + 1) u7.2)))) := by
  show mz_cV (mz_T d 26 12 [some (.ref 27), some (.ref a1), some (.int y2), some (.int y3), some (.int y4), some (.int y5), some (.int y6), some (.int y7), none] [] m) = _
  refine q_s (mz_fe (e := (12, .iload 7, 2, (0, 0, 0), [true, true, true, true, true, true, true, true, false])) (by decide +kernel)) (pc' := 14) (L' := [some (.ref 27), some (.ref a1), some (.int y2), some (.int y3), some (.int y4), some (.int y5), some (.int y6), some (.int y7), none]) (st' := [.int y7]) rfl ?_
  refine q_ic (v := 4) (mz_fe (e := (14, .iconst 4, 1, (0, 0, 0), [])) (by decide +kernel)) (by decide) ?_
  refine q_if (c := .ge) (off := 51) (t := 66) (x := y7) (y := 4) (st := []) (mz_fe (e := (15, .if_icmp .ge 51, 3, (0, 0, 0), [])) (by decide +kernel)) (fun _ => rfl) rfl rfl rfl (fun c1 => ?_) (fun c1 => ?_)
  · refine q_o (mz_fe (e := (66, .aload_n 0, 1, (0, 0, 0), [])) (by decide +kernel)) (pc2 := 67) rfl ?_
    refine q_getR (b := 28) (mz_fe (e := (67, .getfield 11, 13, (3, 1, 2), [])) (by decide +kernel)) rfl tg_27 (by rw [ln_27]; decide) (mz_rfS (by decide +kernel)) ?_
    refine q_ic (v := 0) (mz_fe (e := (70, .iconst 0, 1, (0, 0, 0), [])) (by decide +kernel)) (by decide) ?_
    refine q_o (mz_fe (e := (71, .iload 6, 2, (0, 0, 0), [])) (by decide +kernel)) (pc2 := 73) rfl ?_
    refine q_stA (f := (fun x => x)) (mz_fe (e := (73, .iastore, 1, (0, 0, 0), [])) (by decide +kernel)) (fun _ => rfl) rfl tg_28 ln_28 (by decide) (j := 0) (by decide) ?_
    refine q_o (mz_fe (e := (74, .aload_n 0, 1, (0, 0, 0), [])) (by decide +kernel)) (pc2 := 75) rfl ?_
    refine q_getR (b := 28) (mz_fe (e := (75, .getfield 11, 13, (3, 1, 2), [])) (by decide +kernel)) rfl tg_27 (by rw [ln_27]; decide) (mz_rfS (by decide +kernel)) ?_
    refine q_ic (v := 1) (mz_fe (e := (78, .iconst 1, 1, (0, 0, 0), [])) (by decide +kernel)) (by decide) ?_
    refine q_o (mz_fe (e := (79, .aload_n 1, 1, (0, 0, 0), [])) (by decide +kernel)) (pc2 := 80) rfl ?_
    refine q_getI (mz_fe (e := (80, .getfield 33, 15, (6, 5, 0), [])) (by decide +kernel)) rfl (by decide) (st_t ha1) (by rw [(st_l ha1)]; decide) ?_
    refine q_stA (f := (fun x => x)) (mz_fe (e := (83, .iastore, 1, (0, 0, 0), [])) (by decide +kernel)) (fun _ => rfl) rfl tg_28 ln_28 (by decide) (j := 1) (by decide) ?_
    refine q_o (mz_fe (e := (84, .aload_n 0, 1, (0, 0, 0), [])) (by decide +kernel)) (pc2 := 85) rfl ?_
    refine q_getR (b := 28) (mz_fe (e := (85, .getfield 11, 13, (3, 1, 2), [])) (by decide +kernel)) rfl tg_27 (by rw [ln_27]; decide) (mz_rfS (by decide +kernel)) ?_
    refine q_ic (v := 2) (mz_fe (e := (88, .iconst 2, 1, (0, 0, 0), [])) (by decide +kernel)) (by decide) ?_
    refine q_o (mz_fe (e := (89, .aload_n 1, 1, (0, 0, 0), [])) (by decide +kernel)) (pc2 := 90) rfl ?_
    refine q_getI (mz_fe (e := (90, .getfield 37, 16, (6, 6, 0), [])) (by decide +kernel)) rfl (by decide) (st_t ha1) (by rw [(st_l ha1)]; decide) ?_
    refine q_stA (f := (fun x => x)) (mz_fe (e := (93, .iastore, 1, (0, 0, 0), [])) (by decide +kernel)) (fun _ => rfl) rfl tg_28 ln_28 (by decide) (j := 2) (by decide) ?_
    refine q_o (mz_fe (e := (94, .aload_n 0, 1, (0, 0, 0), [])) (by decide +kernel)) (pc2 := 95) rfl ?_
    refine q_getR (b := 28) (mz_fe (e := (95, .getfield 11, 13, (3, 1, 2), [])) (by decide +kernel)) rfl tg_27 (by rw [ln_27]; decide) (mz_rfS (by decide +kernel)) ?_
    refine q_ic (v := 3) (mz_fe (e := (98, .iconst 3, 1, (0, 0, 0), [])) (by decide +kernel)) (by decide) ?_
    refine q_ic (v := 0) (mz_fe (e := (99, .iconst 0, 1, (0, 0, 0), [])) (by decide +kernel)) (by decide) ?_
    refine q_stA (f := (fun x => x)) (mz_fe (e := (100, .iastore, 1, (0, 0, 0), [])) (by decide +kernel)) (fun _ => rfl) rfl tg_28 ln_28 (by decide) (j := 3) (by decide) ?_
    refine q_o (mz_fe (e := (101, .aload_n 0, 1, (0, 0, 0), [])) (by decide +kernel)) (pc2 := 102) rfl ?_
    refine q_getR (b := 28) (mz_fe (e := (102, .getfield 11, 13, (3, 1, 2), [])) (by decide +kernel)) rfl tg_27 (by rw [ln_27]; decide) (mz_rfS (by decide +kernel)) ?_
    refine q_ic (v := 4) (mz_fe (e := (105, .iconst 4, 1, (0, 0, 0), [])) (by decide +kernel)) (by decide) ?_
    refine q_ic (v := 0) (mz_fe (e := (106, .iconst 0, 1, (0, 0, 0), [])) (by decide +kernel)) (by decide) ?_
    refine q_stA (f := (fun x => x)) (mz_fe (e := (107, .iastore, 1, (0, 0, 0), [])) (by decide +kernel)) (fun _ => rfl) rfl tg_28 ln_28 (by decide) (j := 4) (by decide) ?_
    refine q_o (mz_fe (e := (108, .aload_n 0, 1, (0, 0, 0), [])) (by decide +kernel)) (pc2 := 109) rfl ?_
    refine q_getR (b := 28) (mz_fe (e := (109, .getfield 11, 13, (3, 1, 2), [])) (by decide +kernel)) rfl tg_27 (by rw [ln_27]; decide) (mz_rfS (by decide +kernel)) ?_
    refine q_ic (v := 5) (mz_fe (e := (112, .iconst 5, 1, (0, 0, 0), [])) (by decide +kernel)) (by decide) ?_
    refine q_o (mz_fe (e := (113, .iload 4, 2, (0, 0, 0), [])) (by decide +kernel)) (pc2 := 115) rfl ?_
    refine q_stA (f := (fun x => x)) (mz_fe (e := (115, .iastore, 1, (0, 0, 0), [])) (by decide +kernel)) (fun _ => rfl) rfl tg_28 ln_28 (by decide) (j := 5) (by decide) ?_
    refine q_o (mz_fe (e := (116, .aload_n 0, 1, (0, 0, 0), [])) (by decide +kernel)) (pc2 := 117) rfl ?_
    refine q_getR (b := 28) (mz_fe (e := (117, .getfield 11, 13, (3, 1, 2), [])) (by decide +kernel)) rfl tg_27 (by rw [ln_27]; decide) (mz_rfS (by decide +kernel)) ?_
    refine q_bi (v := 6) (mz_fe (e := (120, .bipush 6, 2, (0, 0, 0), [])) (by decide +kernel)) (by decide) ?_
    refine q_o (mz_fe (e := (122, .aload_n 1, 1, (0, 0, 0), [])) (by decide +kernel)) (pc2 := 123) rfl ?_
    refine q_getI (mz_fe (e := (123, .getfield 40, 17, (6, 3, 0), [])) (by decide +kernel)) rfl (by decide) (st_t ha1) (by rw [(st_l ha1)]; decide) ?_
    refine q_stA (f := (fun x => x)) (mz_fe (e := (126, .iastore, 1, (0, 0, 0), [])) (by decide +kernel)) (fun _ => rfl) rfl tg_28 ln_28 (by decide) (j := 6) (by decide) ?_
    refine q_o (mz_fe (e := (127, .aload_n 0, 1, (0, 0, 0), [])) (by decide +kernel)) (pc2 := 128) rfl ?_
    refine q_getR (b := 28) (mz_fe (e := (128, .getfield 11, 13, (3, 1, 2), [])) (by decide +kernel)) rfl tg_27 (by rw [ln_27]; decide) (mz_rfS (by decide +kernel)) ?_
    refine q_bi (v := 7) (mz_fe (e := (131, .bipush 7, 2, (0, 0, 0), [])) (by decide +kernel)) (by decide) ?_
    refine q_o (mz_fe (e := (133, .aload_n 1, 1, (0, 0, 0), [])) (by decide +kernel)) (pc2 := 134) rfl ?_
    refine q_getI (mz_fe (e := (134, .getfield 43, 18, (6, 4, 0), [])) (by decide +kernel)) rfl (by decide) (st_t ha1) (by rw [(st_l ha1)]; decide) ?_
    refine q_stA (f := (fun x => x)) (mz_fe (e := (137, .iastore, 1, (0, 0, 0), [])) (by decide +kernel)) (fun _ => rfl) rfl tg_28 ln_28 (by decide) (j := 7) (by decide) ?_
    refine q_o (mz_fe (e := (138, .aload_n 0, 1, (0, 0, 0), [])) (by decide +kernel)) (pc2 := 139) rfl ?_
    refine q_getR (b := 28) (mz_fe (e := (139, .getfield 11, 13, (3, 1, 2), [])) (by decide +kernel)) rfl tg_27 (by rw [ln_27]; decide) (mz_rfS (by decide +kernel)) ?_
    refine q_bi (v := 8) (mz_fe (e := (142, .bipush 8, 2, (0, 0, 0), [])) (by decide +kernel)) (by decide) ?_
    refine q_o (mz_fe (e := (144, .iload 5, 2, (0, 0, 0), [])) (by decide +kernel)) (pc2 := 146) rfl ?_
    refine q_stA (f := (fun x => x)) (mz_fe (e := (146, .iastore, 1, (0, 0, 0), [])) (by decide +kernel)) (fun _ => rfl) rfl tg_28 ln_28 (by decide) (j := 8) (by decide) ?_
    exact q_retV (mz_fe (e := (147, .return_, 1, (0, 0, 0), [])) (by decide +kernel)) (by decide +kernel)
  · refine q_o (mz_fe (e := (18, .aload_n 1, 1, (0, 0, 0), [])) (by decide +kernel)) (pc2 := 19) rfl ?_
    refine q_o (mz_fe (e := (19, .iload_n 2, 1, (0, 0, 0), [])) (by decide +kernel)) (pc2 := 20) rfl ?_
    refine q_o (mz_fe (e := (20, .iload 7, 2, (0, 0, 0), [])) (by decide +kernel)) (pc2 := 22) rfl ?_
    refine q_callI (N := 72) (vs := [.ref a1, .int y2, .int y7]) (rest := []) (L' := [some (.ref 27), some (.ref a1), some (.int y2), some (.int y3), some (.int y4), some (.int y5), some (.int y6), some (.int y7), none]) (f := fun v3 m2 => (R_X6_amount d a1 y3 y7 m2).bind (fun u7 => if (if (0 : Int32) ≤ (v3 - u7.1) then (v3 - u7.1) else 0 - (v3 - u7.1)) ≤ y5 then (H_X3_lookAt_12 d a1 y2 y3 (y4 + (if (0 : Int32) ≤ (v3 - u7.1) then (v3 - u7.1) else 0 - (v3 - u7.1))) y5 y6 (y7 + 1) u7.2) else (H_X3_lookAt_12 d a1 y2 y3 (y4 + (if (0 : Int32) ≤ (v3 - u7.1) then (v3 - u7.1) else 0 - (v3 - u7.1))) (if (0 : Int32) ≤ (v3 - u7.1) then (v3 - u7.1) else 0 - (v3 - u7.1)) y7 (y7 + 1) u7.2))) rfl (mz_fe (e := (22, .invokevirtual 21, 15, (72, 3, 12), [])) (by decide +kernel)) rfl (mz_inv_virt (N := 72) (k := 3) (t := 12) (st := [.int y7, .int y2, .ref a1]) (rest := []) (b := a1) (vs := [.int y2, .int y7]) (h := (mz_S0, m)) rfl rfl (Nat.le_of_ble_eq_true rfl) (Nat.le_of_ble_eq_true rfl) (st_t ha1) (by decide)) (mz_dc_lt (n := 3) rfl (by decide +kernel) (by decide +kernel)) (by decide +kernel) (Or.inl (by decide +kernel)) (fun v3 m2 => ?_)
    refine q_o (mz_fe (e := (25, .aload_n 1, 1, (0, 0, 0), [])) (by decide +kernel)) (pc2 := 26) rfl ?_
    refine q_o (mz_fe (e := (26, .iload_n 3, 1, (0, 0, 0), [])) (by decide +kernel)) (pc2 := 27) rfl ?_
    refine q_o (mz_fe (e := (27, .iload 7, 2, (0, 0, 0), [])) (by decide +kernel)) (pc2 := 29) rfl ?_
    refine q_callI (N := 72) (vs := [.ref a1, .int y3, .int y7]) (rest := [.int v3]) (L' := [some (.ref 27), some (.ref a1), some (.int y2), some (.int y3), some (.int y4), some (.int y5), some (.int y6), some (.int y7), none]) (f := fun v6 m5 => if (if (0 : Int32) ≤ (v3 - v6) then (v3 - v6) else 0 - (v3 - v6)) ≤ y5 then (H_X3_lookAt_12 d a1 y2 y3 (y4 + (if (0 : Int32) ≤ (v3 - v6) then (v3 - v6) else 0 - (v3 - v6))) y5 y6 (y7 + 1) m5) else (H_X3_lookAt_12 d a1 y2 y3 (y4 + (if (0 : Int32) ≤ (v3 - v6) then (v3 - v6) else 0 - (v3 - v6))) (if (0 : Int32) ≤ (v3 - v6) then (v3 - v6) else 0 - (v3 - v6)) y7 (y7 + 1) m5)) rfl (mz_fe (e := (29, .invokevirtual 21, 15, (72, 3, 12), [])) (by decide +kernel)) rfl (mz_inv_virt (N := 72) (k := 3) (t := 12) (st := [.int y7, .int y3, .ref a1, .int v3]) (rest := [.int v3]) (b := a1) (vs := [.int y3, .int y7]) (h := (mz_S0, m2)) rfl rfl (Nat.le_of_ble_eq_true rfl) (Nat.le_of_ble_eq_true rfl) (st_t ha1) (by decide)) (mz_dc_lt (n := 3) rfl (by decide +kernel) (by decide +kernel)) (by decide +kernel) (Or.inl (by decide +kernel)) (fun v6 m5 => ?_)
    refine q_o (mz_fe (e := (32, .isub, 1, (0, 0, 0), [])) (by decide +kernel)) (pc2 := 33) rfl ?_
    refine q_abs (mz_fe (e := (33, .invokestatic 27, 8, (9995, 0, 0), [])) (by decide +kernel)) rfl (Nat.le_of_ble_eq_true rfl) ?_
    refine q_s (mz_fe (e := (36, .istore 8, 2, (0, 0, 0), [])) (by decide +kernel)) (pc' := 38) (L' := [some (.ref 27), some (.ref a1), some (.int y2), some (.int y3), some (.int y4), some (.int y5), some (.int y6), some (.int y7), some (.int (if (0 : Int32) ≤ (v3 - v6) then (v3 - v6) else 0 - (v3 - v6)))]) (st' := []) rfl ?_
    refine q_o (mz_fe (e := (38, .iload 4, 2, (0, 0, 0), [])) (by decide +kernel)) (pc2 := 40) rfl ?_
    refine q_o (mz_fe (e := (40, .iload 8, 2, (0, 0, 0), [])) (by decide +kernel)) (pc2 := 42) rfl ?_
    refine q_o (mz_fe (e := (42, .iadd, 1, (0, 0, 0), [])) (by decide +kernel)) (pc2 := 43) rfl ?_
    refine q_s (mz_fe (e := (43, .istore 4, 2, (0, 0, 0), [])) (by decide +kernel)) (pc' := 45) (L' := [some (.ref 27), some (.ref a1), some (.int y2), some (.int y3), some (.int (y4 + (if (0 : Int32) ≤ (v3 - v6) then (v3 - v6) else 0 - (v3 - v6)))), some (.int y5), some (.int y6), some (.int y7), some (.int (if (0 : Int32) ≤ (v3 - v6) then (v3 - v6) else 0 - (v3 - v6)))]) (st' := []) rfl ?_
    refine q_o (mz_fe (e := (45, .iload 8, 2, (0, 0, 0), [])) (by decide +kernel)) (pc2 := 47) rfl ?_
    refine q_o (mz_fe (e := (47, .iload 5, 2, (0, 0, 0), [])) (by decide +kernel)) (pc2 := 49) rfl ?_
    refine q_if (c := .le) (off := 11) (t := 60) (x := (if (0 : Int32) ≤ (v3 - v6) then (v3 - v6) else 0 - (v3 - v6))) (y := y5) (st := []) (mz_fe (e := (49, .if_icmp .le 11, 3, (0, 0, 0), [])) (by decide +kernel)) (fun _ => rfl) rfl rfl rfl (fun c8 => ?_) (fun c8 => ?_)
    · refine q_iinc (v := y7) (c := 1) (L3 := [some (.ref 27), some (.ref a1), some (.int y2), some (.int y3), some (.int (y4 + (if (0 : Int32) ≤ (v3 - v6) then (v3 - v6) else 0 - (v3 - v6)))), some (.int y5), some (.int y6), some (.int (y7 + 1)), some (.int (if (0 : Int32) ≤ (v3 - v6) then (v3 - v6) else 0 - (v3 - v6)))]) (mz_fe (e := (60, .iinc 7 1, 3, (0, 0, 0), [])) (by decide +kernel)) rfl rfl (by decide) rfl ?_
      refine q_o (mz_fe (e := (63, .goto (-51), 3, (0, 0, 0), [])) (by decide +kernel)) (pc2 := 12) rfl ?_
      exact congrArg mz_cV (mz_At_msk (L := [some (.ref 27), some (.ref a1), some (.int y2), some (.int y3), some (.int (y4 + (if (0 : Int32) ≤ (v3 - v6) then (v3 - v6) else 0 - (v3 - v6)))), some (.int y5), some (.int y6), some (.int (y7 + 1)), some (.int (if (0 : Int32) ≤ (v3 - v6) then (v3 - v6) else 0 - (v3 - v6)))]) (L2 := [some (.ref 27), some (.ref a1), some (.int y2), some (.int y3), some (.int (y4 + (if (0 : Int32) ≤ (v3 - v6) then (v3 - v6) else 0 - (v3 - v6)))), some (.int y5), some (.int y6), some (.int (y7 + 1)), none]) (mz_fe (e := (12, .iload 7, 2, (0, 0, 0), [true, true, true, true, true, true, true, true, false])) (by decide +kernel)) rfl rfl)
    · refine q_o (mz_fe (e := (52, .iload 8, 2, (0, 0, 0), [])) (by decide +kernel)) (pc2 := 54) rfl ?_
      refine q_s (mz_fe (e := (54, .istore 5, 2, (0, 0, 0), [])) (by decide +kernel)) (pc' := 56) (L' := [some (.ref 27), some (.ref a1), some (.int y2), some (.int y3), some (.int (y4 + (if (0 : Int32) ≤ (v3 - v6) then (v3 - v6) else 0 - (v3 - v6)))), some (.int (if (0 : Int32) ≤ (v3 - v6) then (v3 - v6) else 0 - (v3 - v6))), some (.int y6), some (.int y7), some (.int (if (0 : Int32) ≤ (v3 - v6) then (v3 - v6) else 0 - (v3 - v6)))]) (st' := []) rfl ?_
      refine q_o (mz_fe (e := (56, .iload 7, 2, (0, 0, 0), [])) (by decide +kernel)) (pc2 := 58) rfl ?_
      refine q_s (mz_fe (e := (58, .istore 6, 2, (0, 0, 0), [])) (by decide +kernel)) (pc' := 60) (L' := [some (.ref 27), some (.ref a1), some (.int y2), some (.int y3), some (.int (y4 + (if (0 : Int32) ≤ (v3 - v6) then (v3 - v6) else 0 - (v3 - v6)))), some (.int (if (0 : Int32) ≤ (v3 - v6) then (v3 - v6) else 0 - (v3 - v6))), some (.int y7), some (.int y7), some (.int (if (0 : Int32) ≤ (v3 - v6) then (v3 - v6) else 0 - (v3 - v6)))]) (st' := []) rfl ?_
      refine q_iinc (v := y7) (c := 1) (L3 := [some (.ref 27), some (.ref a1), some (.int y2), some (.int y3), some (.int (y4 + (if (0 : Int32) ≤ (v3 - v6) then (v3 - v6) else 0 - (v3 - v6)))), some (.int (if (0 : Int32) ≤ (v3 - v6) then (v3 - v6) else 0 - (v3 - v6))), some (.int y7), some (.int (y7 + 1)), some (.int (if (0 : Int32) ≤ (v3 - v6) then (v3 - v6) else 0 - (v3 - v6)))]) (mz_fe (e := (60, .iinc 7 1, 3, (0, 0, 0), [])) (by decide +kernel)) rfl rfl (by decide) rfl ?_
      refine q_o (mz_fe (e := (63, .goto (-51), 3, (0, 0, 0), [])) (by decide +kernel)) (pc2 := 12) rfl ?_
      exact congrArg mz_cV (mz_At_msk (L := [some (.ref 27), some (.ref a1), some (.int y2), some (.int y3), some (.int (y4 + (if (0 : Int32) ≤ (v3 - v6) then (v3 - v6) else 0 - (v3 - v6)))), some (.int (if (0 : Int32) ≤ (v3 - v6) then (v3 - v6) else 0 - (v3 - v6))), some (.int y7), some (.int (y7 + 1)), some (.int (if (0 : Int32) ≤ (v3 - v6) then (v3 - v6) else 0 - (v3 - v6)))]) (L2 := [some (.ref 27), some (.ref a1), some (.int y2), some (.int y3), some (.int (y4 + (if (0 : Int32) ≤ (v3 - v6) then (v3 - v6) else 0 - (v3 - v6)))), some (.int (if (0 : Int32) ≤ (v3 - v6) then (v3 - v6) else 0 - (v3 - v6))), some (.int y7), some (.int (y7 + 1)), none]) (mz_fe (e := (12, .iload 7, 2, (0, 0, 0), [true, true, true, true, true, true, true, true, false])) (by decide +kernel)) rfl rfl)
set_option maxRecDepth 10000 in
theorem R_X3_lookAtTurn_eq (d : Nat) (s : Nat) (x0 : Int32) (x1 : Int32) (m : MzM) (hs : mz_isS s = true) : R_X3_lookAtTurn d s x0 x1 m = (R_X3_lookAt d s x0 x1 m).bind (fun m1 => (R_X6_ofAll d s x0 m1).bind (fun u6 => (R_X6_ofAll d s x1 u6.2).bind (fun u9 => (R_X6_inScrew d s (mz_wr u9.2 28 4 (u6.1 + u9.1))).bind (fun u12 => some (mz_wr u12.2 28 3 u12.1))))) := by
  show mz_cV (mz_T d 27 0 (mz_en (mz_xl 27) [.ref 27, .ref s, .int x0, .int x1]) [] m) = _
  rw [show mz_en (mz_xl 27) [.ref 27, .ref s, .int x0, .int x1] = [some (.ref 27), some (.ref s), some (.int x0), some (.int x1)] from by rw [show mz_xl 27 = 4 from by decide +kernel]; rfl]
  refine q_o (mz_fe (e := (0, .aload_n 0, 1, (0, 0, 0), [])) (by decide +kernel)) (pc2 := 1) rfl ?_
  refine q_o (mz_fe (e := (1, .aload_n 1, 1, (0, 0, 0), [])) (by decide +kernel)) (pc2 := 2) rfl ?_
  refine q_o (mz_fe (e := (2, .iload_n 2, 1, (0, 0, 0), [])) (by decide +kernel)) (pc2 := 3) rfl ?_
  refine q_o (mz_fe (e := (3, .iload_n 3, 1, (0, 0, 0), [])) (by decide +kernel)) (pc2 := 4) rfl ?_
  refine q_callV (N := 26) (vs := [.ref 27, .ref s, .int x0, .int x1]) (rest := []) (L' := [some (.ref 27), some (.ref s), some (.int x0), some (.int x1)]) rfl (mz_fe (e := (4, .invokevirtual 46, 16, (26, 4, 9), [])) (by decide +kernel)) rfl (mz_inv_virt (N := 26) (k := 4) (t := 9) (st := [.int x1, .int x0, .ref s, .ref 27]) (rest := []) (b := 27) (vs := [.ref s, .int x0, .int x1]) (h := (mz_S0, m)) rfl rfl (Nat.le_of_ble_eq_true rfl) (Nat.le_of_ble_eq_true rfl) tg_27 (by decide)) (mz_dc_lt (n := 4) rfl (by decide +kernel) (by decide +kernel)) (by decide +kernel) (by decide +kernel) (fun m1 => ?_)
  refine q_o (mz_fe (e := (7, .aload_n 0, 1, (0, 0, 0), [])) (by decide +kernel)) (pc2 := 8) rfl ?_
  refine q_getR (b := 28) (mz_fe (e := (8, .getfield 11, 13, (3, 1, 2), [])) (by decide +kernel)) rfl tg_27 (by rw [ln_27]; decide) (mz_rfS (by decide +kernel)) ?_
  refine q_ic (v := 4) (mz_fe (e := (11, .iconst 4, 1, (0, 0, 0), [])) (by decide +kernel)) (by decide) ?_
  refine q_o (mz_fe (e := (12, .aload_n 1, 1, (0, 0, 0), [])) (by decide +kernel)) (pc2 := 13) rfl ?_
  refine q_o (mz_fe (e := (13, .iload_n 2, 1, (0, 0, 0), [])) (by decide +kernel)) (pc2 := 14) rfl ?_
  refine q_callI (N := 74) (vs := [.ref s, .int x0]) (rest := [.int 4, .ref 28]) (L' := [some (.ref 27), some (.ref s), some (.int x0), some (.int x1)]) (f := fun v5 m4 => (R_X6_ofAll d s x1 m4).bind (fun u9 => (R_X6_inScrew d s (mz_wr u9.2 28 4 (v5 + u9.1))).bind (fun u12 => some (mz_wr u12.2 28 3 u12.1)))) rfl (mz_fe (e := (14, .invokevirtual 50, 17, (74, 2, 12), [])) (by decide +kernel)) rfl (mz_inv_virt (N := 74) (k := 2) (t := 12) (st := [.int x0, .ref s, .int 4, .ref 28]) (rest := [.int 4, .ref 28]) (b := s) (vs := [.int x0]) (h := (mz_S0, m1)) rfl rfl (Nat.le_of_ble_eq_true rfl) (Nat.le_of_ble_eq_true rfl) (st_t hs) (by decide)) (mz_dc_lt (n := 2) rfl (by decide +kernel) (by decide +kernel)) (by decide +kernel) (Or.inl (by decide +kernel)) (fun v5 m4 => ?_)
  refine q_o (mz_fe (e := (17, .aload_n 1, 1, (0, 0, 0), [])) (by decide +kernel)) (pc2 := 18) rfl ?_
  refine q_o (mz_fe (e := (18, .iload_n 3, 1, (0, 0, 0), [])) (by decide +kernel)) (pc2 := 19) rfl ?_
  refine q_callI (N := 74) (vs := [.ref s, .int x1]) (rest := [.int v5, .int 4, .ref 28]) (L' := [some (.ref 27), some (.ref s), some (.int x0), some (.int x1)]) (f := fun v8 m7 => (R_X6_inScrew d s (mz_wr m7 28 4 (v5 + v8))).bind (fun u12 => some (mz_wr u12.2 28 3 u12.1))) rfl (mz_fe (e := (19, .invokevirtual 50, 17, (74, 2, 12), [])) (by decide +kernel)) rfl (mz_inv_virt (N := 74) (k := 2) (t := 12) (st := [.int x1, .ref s, .int v5, .int 4, .ref 28]) (rest := [.int v5, .int 4, .ref 28]) (b := s) (vs := [.int x1]) (h := (mz_S0, m4)) rfl rfl (Nat.le_of_ble_eq_true rfl) (Nat.le_of_ble_eq_true rfl) (st_t hs) (by decide)) (mz_dc_lt (n := 2) rfl (by decide +kernel) (by decide +kernel)) (by decide +kernel) (Or.inl (by decide +kernel)) (fun v8 m7 => ?_)
  refine q_o (mz_fe (e := (22, .iadd, 1, (0, 0, 0), [])) (by decide +kernel)) (pc2 := 23) rfl ?_
  refine q_stA (f := (fun x => x)) (mz_fe (e := (23, .iastore, 1, (0, 0, 0), [])) (by decide +kernel)) (fun _ => rfl) rfl tg_28 ln_28 (by decide) (j := 4) (by decide) ?_
  refine q_o (mz_fe (e := (24, .aload_n 0, 1, (0, 0, 0), [])) (by decide +kernel)) (pc2 := 25) rfl ?_
  refine q_getR (b := 28) (mz_fe (e := (25, .getfield 11, 13, (3, 1, 2), [])) (by decide +kernel)) rfl tg_27 (by rw [ln_27]; decide) (mz_rfS (by decide +kernel)) ?_
  refine q_ic (v := 3) (mz_fe (e := (28, .iconst 3, 1, (0, 0, 0), [])) (by decide +kernel)) (by decide) ?_
  refine q_o (mz_fe (e := (29, .aload_n 1, 1, (0, 0, 0), [])) (by decide +kernel)) (pc2 := 30) rfl ?_
  refine q_callI (N := 75) (vs := [.ref s]) (rest := [.int 3, .ref 28]) (L' := [some (.ref 27), some (.ref s), some (.int x0), some (.int x1)]) (f := fun v11 m10 => some (mz_wr m10 28 3 v11)) rfl (mz_fe (e := (30, .invokevirtual 53, 18, (75, 1, 12), [])) (by decide +kernel)) rfl (mz_inv_virt (N := 75) (k := 1) (t := 12) (st := [.ref s, .int 3, .ref 28]) (rest := [.int 3, .ref 28]) (b := s) (vs := []) (h := (mz_S0, (mz_wr m7 28 4 (v5 + v8)))) rfl rfl (Nat.le_of_ble_eq_true rfl) (Nat.le_of_ble_eq_true rfl) (st_t hs) (by decide)) (mz_dc_lt (n := 1) rfl (by decide +kernel) (by decide +kernel)) (by decide +kernel) (Or.inl (by decide +kernel)) (fun v11 m10 => ?_)
  refine q_stA (f := (fun x => x)) (mz_fe (e := (33, .iastore, 1, (0, 0, 0), [])) (by decide +kernel)) (fun _ => rfl) rfl tg_28 ln_28 (by decide) (j := 3) (by decide) ?_
  exact q_retV (mz_fe (e := (34, .return_, 1, (0, 0, 0), [])) (by decide +kernel)) (by decide +kernel)
set_option maxRecDepth 10000 in
theorem R_X3_quarrel_eq (d : Nat) (s : Nat) (x0 : Int32) (x1 : Int32) (m : MzM) (hs : mz_isS s = true) : R_X3_quarrel d s x0 x1 m = (R_X3_lookAt d s x0 x1 m).bind (fun m1 => (R_X2_value d 8 1 m1).bind (fun u6 => if u6.1 ≤ 0 then (some (0, u6.2)) else (some (1, u6.2)))) := by
  show mz_cI (mz_T d 28 0 (mz_en (mz_xl 28) [.ref 27, .ref s, .int x0, .int x1]) [] m) = _
  rw [show mz_en (mz_xl 28) [.ref 27, .ref s, .int x0, .int x1] = [some (.ref 27), some (.ref s), some (.int x0), some (.int x1)] from by rw [show mz_xl 28 = 4 from by decide +kernel]; rfl]
  refine q_o (mz_fe (e := (0, .aload_n 0, 1, (0, 0, 0), [])) (by decide +kernel)) (pc2 := 1) rfl ?_
  refine q_o (mz_fe (e := (1, .aload_n 1, 1, (0, 0, 0), [])) (by decide +kernel)) (pc2 := 2) rfl ?_
  refine q_o (mz_fe (e := (2, .iload_n 2, 1, (0, 0, 0), [])) (by decide +kernel)) (pc2 := 3) rfl ?_
  refine q_o (mz_fe (e := (3, .iload_n 3, 1, (0, 0, 0), [])) (by decide +kernel)) (pc2 := 4) rfl ?_
  refine q_callV (N := 26) (vs := [.ref 27, .ref s, .int x0, .int x1]) (rest := []) (L' := [some (.ref 27), some (.ref s), some (.int x0), some (.int x1)]) rfl (mz_fe (e := (4, .invokevirtual 46, 16, (26, 4, 9), [])) (by decide +kernel)) rfl (mz_inv_virt (N := 26) (k := 4) (t := 9) (st := [.int x1, .int x0, .ref s, .ref 27]) (rest := []) (b := 27) (vs := [.ref s, .int x0, .int x1]) (h := (mz_S0, m)) rfl rfl (Nat.le_of_ble_eq_true rfl) (Nat.le_of_ble_eq_true rfl) tg_27 (by decide)) (mz_dc_lt (n := 4) rfl (by decide +kernel) (by decide +kernel)) (by decide +kernel) (by decide +kernel) (fun m1 => ?_)
  refine q_o (mz_fe (e := (7, .aload_n 0, 1, (0, 0, 0), [])) (by decide +kernel)) (pc2 := 8) rfl ?_
  refine q_getR (b := 4) (mz_fe (e := (8, .getfield 17, 14, (3, 0, 2), [])) (by decide +kernel)) rfl tg_27 (by rw [ln_27]; decide) (mz_rfS (by decide +kernel)) ?_
  refine q_getR (b := 8) (mz_fe (e := (11, .getfield 57, 19, (8, 3, 2), [])) (by decide +kernel)) rfl tg_4 (by rw [ln_4]; decide) (mz_rfS (by decide +kernel)) ?_
  refine q_ic (v := 1) (mz_fe (e := (14, .iconst 1, 1, (0, 0, 0), [])) (by decide +kernel)) (by decide) ?_
  refine q_o (mz_fe (e := (15, .aload_n 0, 1, (0, 0, 0), [])) (by decide +kernel)) (pc2 := 16) rfl ?_
  refine q_getR (b := 28) (mz_fe (e := (16, .getfield 11, 13, (3, 1, 2), [])) (by decide +kernel)) rfl tg_27 (by rw [ln_27]; decide) (mz_rfS (by decide +kernel)) ?_
  refine q_callI (N := 23) (vs := [.ref 8, .int 1, .ref 28]) (rest := []) (L' := [some (.ref 27), some (.ref s), some (.int x0), some (.int x1)]) (f := fun v5 m4 => if v5 ≤ 0 then (some (0, m4)) else (some (1, m4))) rfl (mz_fe (e := (19, .invokevirtual 63, 19, (23, 3, 8), [])) (by decide +kernel)) rfl (mz_inv_virt (N := 23) (k := 3) (t := 8) (st := [.ref 28, .int 1, .ref 8]) (rest := []) (b := 8) (vs := [.int 1, .ref 28]) (h := (mz_S0, m1)) rfl rfl (Nat.le_of_ble_eq_true rfl) (Nat.le_of_ble_eq_true rfl) tg_8 (by decide)) (mz_dc_lt (n := 3) rfl (by decide +kernel) (by decide +kernel)) (by decide +kernel) (Or.inl (by decide +kernel)) (fun v5 m4 => ?_)
  refine q_if (c := .le) (off := 7) (t := 29) (x := v5) (y := 0) (st := []) (mz_fe (e := (22, .ifCond .le 7, 3, (0, 0, 0), [])) (by decide +kernel)) (fun _ => rfl) rfl rfl rfl (fun c7 => ?_) (fun c7 => ?_)
  · refine q_ic (v := 0) (mz_fe (e := (29, .iconst 0, 1, (0, 0, 0), [])) (by decide +kernel)) (by decide) ?_
    exact q_retZ (mz_fe (e := (30, .ireturn, 1, (0, 0, 0), [])) (by decide +kernel)) (by decide +kernel) (by decide)
  · refine q_ic (v := 1) (mz_fe (e := (25, .iconst 1, 1, (0, 0, 0), [])) (by decide +kernel)) (by decide) ?_
    refine q_o (mz_fe (e := (26, .goto 4, 3, (0, 0, 0), [])) (by decide +kernel)) (pc2 := 30) rfl ?_
    exact q_retZ (mz_fe (e := (30, .ireturn, 1, (0, 0, 0), [])) (by decide +kernel)) (by decide +kernel) (by decide)
set_option maxRecDepth 10000 in
theorem R_X3_wear_eq (d : Nat) (x0 : Int32) (s : Nat) (x1 : Int32) (x2 : Int32) (m : MzM) (hs : mz_isS s = true) : R_X3_wear d x0 s x1 x2 m = (R_X3_lookAtTurn d s x1 x2 m).bind (fun m1 => (R_X3_wearOf d x0 m1).bind (fun u6 => some (u6.1, u6.2))) := by
  show mz_cI (mz_T d 29 0 (mz_en (mz_xl 29) [.ref 27, .int x0, .ref s, .int x1, .int x2]) [] m) = _
  rw [show mz_en (mz_xl 29) [.ref 27, .int x0, .ref s, .int x1, .int x2] = [some (.ref 27), some (.int x0), some (.ref s), some (.int x1), some (.int x2)] from by rw [show mz_xl 29 = 5 from by decide +kernel]; rfl]
  refine q_o (mz_fe (e := (0, .aload_n 0, 1, (0, 0, 0), [])) (by decide +kernel)) (pc2 := 1) rfl ?_
  refine q_o (mz_fe (e := (1, .aload_n 2, 1, (0, 0, 0), [])) (by decide +kernel)) (pc2 := 2) rfl ?_
  refine q_o (mz_fe (e := (2, .iload_n 3, 1, (0, 0, 0), [])) (by decide +kernel)) (pc2 := 3) rfl ?_
  refine q_o (mz_fe (e := (3, .iload 4, 2, (0, 0, 0), [])) (by decide +kernel)) (pc2 := 5) rfl ?_
  refine q_callV (N := 27) (vs := [.ref 27, .ref s, .int x1, .int x2]) (rest := []) (L' := [some (.ref 27), some (.int x0), some (.ref s), some (.int x1), some (.int x2)]) rfl (mz_fe (e := (5, .invokevirtual 67, 20, (27, 4, 9), [])) (by decide +kernel)) rfl (mz_inv_virt (N := 27) (k := 4) (t := 9) (st := [.int x2, .int x1, .ref s, .ref 27]) (rest := []) (b := 27) (vs := [.ref s, .int x1, .int x2]) (h := (mz_S0, m)) rfl rfl (Nat.le_of_ble_eq_true rfl) (Nat.le_of_ble_eq_true rfl) tg_27 (by decide)) (mz_dc_lt (n := 4) rfl (by decide +kernel) (by decide +kernel)) (by decide +kernel) (by decide +kernel) (fun m1 => ?_)
  refine q_o (mz_fe (e := (8, .aload_n 0, 1, (0, 0, 0), [])) (by decide +kernel)) (pc2 := 9) rfl ?_
  refine q_o (mz_fe (e := (9, .iload_n 1, 1, (0, 0, 0), [])) (by decide +kernel)) (pc2 := 10) rfl ?_
  refine q_callI (N := 30) (vs := [.ref 27, .int x0]) (rest := []) (L' := [some (.ref 27), some (.int x0), some (.ref s), some (.int x1), some (.int x2)]) (f := fun v5 m4 => some (v5, m4)) rfl (mz_fe (e := (10, .invokevirtual 70, 21, (30, 2, 9), [])) (by decide +kernel)) rfl (mz_inv_virt (N := 30) (k := 2) (t := 9) (st := [.int x0, .ref 27]) (rest := []) (b := 27) (vs := [.int x0]) (h := (mz_S0, m1)) rfl rfl (Nat.le_of_ble_eq_true rfl) (Nat.le_of_ble_eq_true rfl) tg_27 (by decide)) (mz_dc_lt (n := 2) rfl (by decide +kernel) (by decide +kernel)) (by decide +kernel) (Or.inl (by decide +kernel)) (fun v5 m4 => ?_)
  exact q_retI (mz_fe (e := (13, .ireturn, 1, (0, 0, 0), [])) (by decide +kernel)) (by decide +kernel)
set_option maxRecDepth 10000 in
theorem R_X3_wearOf_eq (d : Nat) (x0 : Int32) (m : MzM)  : R_X3_wearOf d x0 m = (R_X2_value d 8 x0 m).bind (fun u3 => (R_X3_heldTo d 99 u3.1 u3.2).bind (fun u6 => some (u6.1, u6.2))) := by
  show mz_cI (mz_T d 30 0 (mz_en (mz_xl 30) [.ref 27, .int x0]) [] m) = _
  rw [show mz_en (mz_xl 30) [.ref 27, .int x0] = [some (.ref 27), some (.int x0)] from by rw [show mz_xl 30 = 2 from by decide +kernel]; rfl]
  refine q_bi (v := 99) (mz_fe (e := (0, .bipush 99, 2, (0, 0, 0), [])) (by decide +kernel)) (by decide) ?_
  refine q_o (mz_fe (e := (2, .aload_n 0, 1, (0, 0, 0), [])) (by decide +kernel)) (pc2 := 3) rfl ?_
  refine q_getR (b := 4) (mz_fe (e := (3, .getfield 17, 14, (3, 0, 2), [])) (by decide +kernel)) rfl tg_27 (by rw [ln_27]; decide) (mz_rfS (by decide +kernel)) ?_
  refine q_getR (b := 8) (mz_fe (e := (6, .getfield 57, 19, (8, 3, 2), [])) (by decide +kernel)) rfl tg_4 (by rw [ln_4]; decide) (mz_rfS (by decide +kernel)) ?_
  refine q_o (mz_fe (e := (9, .iload_n 1, 1, (0, 0, 0), [])) (by decide +kernel)) (pc2 := 10) rfl ?_
  refine q_o (mz_fe (e := (10, .aload_n 0, 1, (0, 0, 0), [])) (by decide +kernel)) (pc2 := 11) rfl ?_
  refine q_getR (b := 28) (mz_fe (e := (11, .getfield 11, 13, (3, 1, 2), [])) (by decide +kernel)) rfl tg_27 (by rw [ln_27]; decide) (mz_rfS (by decide +kernel)) ?_
  refine q_callI (N := 23) (vs := [.ref 8, .int x0, .ref 28]) (rest := [.int 99]) (L' := [some (.ref 27), some (.int x0)]) (f := fun v2 m1 => (R_X3_heldTo d 99 v2 m1).bind (fun u6 => some (u6.1, u6.2))) rfl (mz_fe (e := (14, .invokevirtual 63, 19, (23, 3, 8), [])) (by decide +kernel)) rfl (mz_inv_virt (N := 23) (k := 3) (t := 8) (st := [.ref 28, .int x0, .ref 8, .int 99]) (rest := [.int 99]) (b := 8) (vs := [.int x0, .ref 28]) (h := (mz_S0, m)) rfl rfl (Nat.le_of_ble_eq_true rfl) (Nat.le_of_ble_eq_true rfl) tg_8 (by decide)) (mz_dc_lt (n := 3) rfl (by decide +kernel) (by decide +kernel)) (by decide +kernel) (Or.inl (by decide +kernel)) (fun v2 m1 => ?_)
  refine q_callI (N := 35) (vs := [.int 99, .int v2]) (rest := []) (L' := [some (.ref 27), some (.int x0)]) (f := fun v5 m4 => some (v5, m4)) rfl (mz_fe (e := (17, .invokestatic 73, 22, (35, 2, 1000), [])) (by decide +kernel)) rfl (mz_inv_stat (N := 35) (k := 2) (st := [.int v2, .int 99]) (rest := []) (vs := [.int 99, .int v2]) (h := (mz_S0, m1)) rfl rfl (Nat.le_of_ble_eq_true rfl) (Nat.le_of_ble_eq_true rfl)) (mz_dc_lt (n := 2) rfl (by decide +kernel) (by decide +kernel)) (by decide +kernel) (Or.inl (by decide +kernel)) (fun v5 m4 => ?_)
  exact q_retI (mz_fe (e := (20, .ireturn, 1, (0, 0, 0), [])) (by decide +kernel)) (by decide +kernel)
set_option maxRecDepth 10000 in
theorem R_X3_staying_eq (d : Nat) (s : Nat) (x0 : Int32) (x1 : Int32) (x2 : Int32) (m : MzM) (hs : mz_isS s = true) : R_X3_staying d s x0 x1 x2 m = (R_X3_lookAt d s x0 x1 m).bind (fun m1 => (R_X3_stayingOf d s x0 x1 x2 m1).bind (fun u6 => some (u6.1, u6.2))) := by
  show mz_cI (mz_T d 31 0 (mz_en (mz_xl 31) [.ref 27, .ref s, .int x0, .int x1, .int x2]) [] m) = _
  rw [show mz_en (mz_xl 31) [.ref 27, .ref s, .int x0, .int x1, .int x2] = [some (.ref 27), some (.ref s), some (.int x0), some (.int x1), some (.int x2)] from by rw [show mz_xl 31 = 5 from by decide +kernel]; rfl]
  refine q_o (mz_fe (e := (0, .aload_n 0, 1, (0, 0, 0), [])) (by decide +kernel)) (pc2 := 1) rfl ?_
  refine q_o (mz_fe (e := (1, .aload_n 1, 1, (0, 0, 0), [])) (by decide +kernel)) (pc2 := 2) rfl ?_
  refine q_o (mz_fe (e := (2, .iload_n 2, 1, (0, 0, 0), [])) (by decide +kernel)) (pc2 := 3) rfl ?_
  refine q_o (mz_fe (e := (3, .iload_n 3, 1, (0, 0, 0), [])) (by decide +kernel)) (pc2 := 4) rfl ?_
  refine q_callV (N := 26) (vs := [.ref 27, .ref s, .int x0, .int x1]) (rest := []) (L' := [some (.ref 27), some (.ref s), some (.int x0), some (.int x1), some (.int x2)]) rfl (mz_fe (e := (4, .invokevirtual 46, 16, (26, 4, 9), [])) (by decide +kernel)) rfl (mz_inv_virt (N := 26) (k := 4) (t := 9) (st := [.int x1, .int x0, .ref s, .ref 27]) (rest := []) (b := 27) (vs := [.ref s, .int x0, .int x1]) (h := (mz_S0, m)) rfl rfl (Nat.le_of_ble_eq_true rfl) (Nat.le_of_ble_eq_true rfl) tg_27 (by decide)) (mz_dc_lt (n := 4) rfl (by decide +kernel) (by decide +kernel)) (by decide +kernel) (by decide +kernel) (fun m1 => ?_)
  refine q_o (mz_fe (e := (7, .aload_n 0, 1, (0, 0, 0), [])) (by decide +kernel)) (pc2 := 8) rfl ?_
  refine q_o (mz_fe (e := (8, .aload_n 1, 1, (0, 0, 0), [])) (by decide +kernel)) (pc2 := 9) rfl ?_
  refine q_o (mz_fe (e := (9, .iload_n 2, 1, (0, 0, 0), [])) (by decide +kernel)) (pc2 := 10) rfl ?_
  refine q_o (mz_fe (e := (10, .iload_n 3, 1, (0, 0, 0), [])) (by decide +kernel)) (pc2 := 11) rfl ?_
  refine q_o (mz_fe (e := (11, .iload 4, 2, (0, 0, 0), [])) (by decide +kernel)) (pc2 := 13) rfl ?_
  refine q_callI (N := 33) (vs := [.ref 27, .ref s, .int x0, .int x1, .int x2]) (rest := []) (L' := [some (.ref 27), some (.ref s), some (.int x0), some (.int x1), some (.int x2)]) (f := fun v5 m4 => some (v5, m4)) rfl (mz_fe (e := (13, .invokevirtual 76, 23, (33, 5, 9), [])) (by decide +kernel)) rfl (mz_inv_virt (N := 33) (k := 5) (t := 9) (st := [.int x2, .int x1, .int x0, .ref s, .ref 27]) (rest := []) (b := 27) (vs := [.ref s, .int x0, .int x1, .int x2]) (h := (mz_S0, m1)) rfl rfl (Nat.le_of_ble_eq_true rfl) (Nat.le_of_ble_eq_true rfl) tg_27 (by decide)) (mz_dc_lt (n := 5) rfl (by decide +kernel) (by decide +kernel)) (by decide +kernel) (Or.inl (by decide +kernel)) (fun v5 m4 => ?_)
  exact q_retI (mz_fe (e := (16, .ireturn, 1, (0, 0, 0), [])) (by decide +kernel)) (by decide +kernel)
set_option maxRecDepth 10000 in
theorem R_X3_share_eq (d : Nat) (s : Nat) (x0 : Int32) (x1 : Int32) (x2 : Int32) (m : MzM) (hs : mz_isS s = true) : R_X3_share d s x0 x1 x2 m = (R_X3_lookAt d s x0 x1 m).bind (fun m1 => (R_X3_allOf d s x0 x1 x2 m1).bind (fun u6 => (R_X3_stayingOf d s x0 x1 x2 u6.2).bind (fun u9 => some (((u6.1 - u9.1) / 2), u9.2)))) := by
  show mz_cI (mz_T d 32 0 (mz_en (mz_xl 32) [.ref 27, .ref s, .int x0, .int x1, .int x2]) [] m) = _
  rw [show mz_en (mz_xl 32) [.ref 27, .ref s, .int x0, .int x1, .int x2] = [some (.ref 27), some (.ref s), some (.int x0), some (.int x1), some (.int x2)] from by rw [show mz_xl 32 = 5 from by decide +kernel]; rfl]
  refine q_o (mz_fe (e := (0, .aload_n 0, 1, (0, 0, 0), [])) (by decide +kernel)) (pc2 := 1) rfl ?_
  refine q_o (mz_fe (e := (1, .aload_n 1, 1, (0, 0, 0), [])) (by decide +kernel)) (pc2 := 2) rfl ?_
  refine q_o (mz_fe (e := (2, .iload_n 2, 1, (0, 0, 0), [])) (by decide +kernel)) (pc2 := 3) rfl ?_
  refine q_o (mz_fe (e := (3, .iload_n 3, 1, (0, 0, 0), [])) (by decide +kernel)) (pc2 := 4) rfl ?_
  refine q_callV (N := 26) (vs := [.ref 27, .ref s, .int x0, .int x1]) (rest := []) (L' := [some (.ref 27), some (.ref s), some (.int x0), some (.int x1), some (.int x2)]) rfl (mz_fe (e := (4, .invokevirtual 46, 16, (26, 4, 9), [])) (by decide +kernel)) rfl (mz_inv_virt (N := 26) (k := 4) (t := 9) (st := [.int x1, .int x0, .ref s, .ref 27]) (rest := []) (b := 27) (vs := [.ref s, .int x0, .int x1]) (h := (mz_S0, m)) rfl rfl (Nat.le_of_ble_eq_true rfl) (Nat.le_of_ble_eq_true rfl) tg_27 (by decide)) (mz_dc_lt (n := 4) rfl (by decide +kernel) (by decide +kernel)) (by decide +kernel) (by decide +kernel) (fun m1 => ?_)
  refine q_o (mz_fe (e := (7, .aload_n 1, 1, (0, 0, 0), [])) (by decide +kernel)) (pc2 := 8) rfl ?_
  refine q_o (mz_fe (e := (8, .iload_n 2, 1, (0, 0, 0), [])) (by decide +kernel)) (pc2 := 9) rfl ?_
  refine q_o (mz_fe (e := (9, .iload_n 3, 1, (0, 0, 0), [])) (by decide +kernel)) (pc2 := 10) rfl ?_
  refine q_o (mz_fe (e := (10, .iload 4, 2, (0, 0, 0), [])) (by decide +kernel)) (pc2 := 12) rfl ?_
  refine q_callI (N := 34) (vs := [.ref s, .int x0, .int x1, .int x2]) (rest := []) (L' := [some (.ref 27), some (.ref s), some (.int x0), some (.int x1), some (.int x2)]) (f := fun v5 m4 => (R_X3_stayingOf d s x0 x1 x2 m4).bind (fun u9 => some (((v5 - u9.1) / 2), u9.2))) rfl (mz_fe (e := (12, .invokestatic 80, 24, (34, 4, 1000), [])) (by decide +kernel)) rfl (mz_inv_stat (N := 34) (k := 4) (st := [.int x2, .int x1, .int x0, .ref s]) (rest := []) (vs := [.ref s, .int x0, .int x1, .int x2]) (h := (mz_S0, m1)) rfl rfl (Nat.le_of_ble_eq_true rfl) (Nat.le_of_ble_eq_true rfl)) (mz_dc_lt (n := 4) rfl (by decide +kernel) (by decide +kernel)) (by decide +kernel) (Or.inl (by decide +kernel)) (fun v5 m4 => ?_)
  refine q_o (mz_fe (e := (15, .aload_n 0, 1, (0, 0, 0), [])) (by decide +kernel)) (pc2 := 16) rfl ?_
  refine q_o (mz_fe (e := (16, .aload_n 1, 1, (0, 0, 0), [])) (by decide +kernel)) (pc2 := 17) rfl ?_
  refine q_o (mz_fe (e := (17, .iload_n 2, 1, (0, 0, 0), [])) (by decide +kernel)) (pc2 := 18) rfl ?_
  refine q_o (mz_fe (e := (18, .iload_n 3, 1, (0, 0, 0), [])) (by decide +kernel)) (pc2 := 19) rfl ?_
  refine q_o (mz_fe (e := (19, .iload 4, 2, (0, 0, 0), [])) (by decide +kernel)) (pc2 := 21) rfl ?_
  refine q_callI (N := 33) (vs := [.ref 27, .ref s, .int x0, .int x1, .int x2]) (rest := [.int v5]) (L' := [some (.ref 27), some (.ref s), some (.int x0), some (.int x1), some (.int x2)]) (f := fun v8 m7 => some (((v5 - v8) / 2), m7)) rfl (mz_fe (e := (21, .invokevirtual 76, 23, (33, 5, 9), [])) (by decide +kernel)) rfl (mz_inv_virt (N := 33) (k := 5) (t := 9) (st := [.int x2, .int x1, .int x0, .ref s, .ref 27, .int v5]) (rest := [.int v5]) (b := 27) (vs := [.ref s, .int x0, .int x1, .int x2]) (h := (mz_S0, m4)) rfl rfl (Nat.le_of_ble_eq_true rfl) (Nat.le_of_ble_eq_true rfl) tg_27 (by decide)) (mz_dc_lt (n := 5) rfl (by decide +kernel) (by decide +kernel)) (by decide +kernel) (Or.inl (by decide +kernel)) (fun v8 m7 => ?_)
  refine q_o (mz_fe (e := (24, .isub, 1, (0, 0, 0), [])) (by decide +kernel)) (pc2 := 25) rfl ?_
  refine q_ic (v := 2) (mz_fe (e := (25, .iconst 2, 1, (0, 0, 0), [])) (by decide +kernel)) (by decide) ?_
  refine q_o (mz_fe (e := (26, .idiv, 1, (0, 0, 0), [])) (by decide +kernel)) (pc2 := 27) rfl ?_
  exact q_retI (mz_fe (e := (27, .ireturn, 1, (0, 0, 0), [])) (by decide +kernel)) (by decide +kernel)
set_option maxRecDepth 10000 in
theorem R_X3_stayingOf_eq (d : Nat) (s : Nat) (x0 : Int32) (x1 : Int32) (x2 : Int32) (m : MzM) (hs : mz_isS s = true) : R_X3_stayingOf d s x0 x1 x2 m = (R_X3_allOf d s x0 x1 x2 m).bind (fun u3 => mz_g (mz_ok x2 4) ((R_X6_amount d s x0 x2 (mz_wr (mz_wr (mz_wr u3.2 28 0 x2) 28 3 (mz_rd (mz_wr u3.2 28 0 x2) (s + 2) (x2 : Int32).toNatClampNeg)) 28 4 u3.1)).bind (fun u7 => (R_X6_amount d s x1 x2 u7.2).bind (fun u10 => (R_X2_value d 8 0 (mz_wr u10.2 28 8 (if u7.1 < u10.1 then u10.1 else u7.1))).bind (fun u13 => (R_X3_heldTo d u3.1 u13.1 u13.2).bind (fun u16 => some (u16.1, u16.2))))))) := by
  show mz_cI (mz_T d 33 0 (mz_en (mz_xl 33) [.ref 27, .ref s, .int x0, .int x1, .int x2]) [] m) = _
  rw [show mz_en (mz_xl 33) [.ref 27, .ref s, .int x0, .int x1, .int x2] = [some (.ref 27), some (.ref s), some (.int x0), some (.int x1), some (.int x2), none] from by rw [show mz_xl 33 = 6 from by decide +kernel]; rfl]
  refine q_o (mz_fe (e := (0, .aload_n 1, 1, (0, 0, 0), [])) (by decide +kernel)) (pc2 := 1) rfl ?_
  refine q_o (mz_fe (e := (1, .iload_n 2, 1, (0, 0, 0), [])) (by decide +kernel)) (pc2 := 2) rfl ?_
  refine q_o (mz_fe (e := (2, .iload_n 3, 1, (0, 0, 0), [])) (by decide +kernel)) (pc2 := 3) rfl ?_
  refine q_o (mz_fe (e := (3, .iload 4, 2, (0, 0, 0), [])) (by decide +kernel)) (pc2 := 5) rfl ?_
  refine q_callI (N := 34) (vs := [.ref s, .int x0, .int x1, .int x2]) (rest := []) (L' := [some (.ref 27), some (.ref s), some (.int x0), some (.int x1), some (.int x2), none]) (f := fun v2 m1 => mz_g (mz_ok x2 4) ((R_X6_amount d s x0 x2 (mz_wr (mz_wr (mz_wr m1 28 0 x2) 28 3 (mz_rd (mz_wr m1 28 0 x2) (s + 2) (x2 : Int32).toNatClampNeg)) 28 4 v2)).bind (fun u7 => (R_X6_amount d s x1 x2 u7.2).bind (fun u10 => (R_X2_value d 8 0 (mz_wr u10.2 28 8 (if u7.1 < u10.1 then u10.1 else u7.1))).bind (fun u13 => (R_X3_heldTo d v2 u13.1 u13.2).bind (fun u16 => some (u16.1, u16.2))))))) rfl (mz_fe (e := (5, .invokestatic 80, 24, (34, 4, 1000), [])) (by decide +kernel)) rfl (mz_inv_stat (N := 34) (k := 4) (st := [.int x2, .int x1, .int x0, .ref s]) (rest := []) (vs := [.ref s, .int x0, .int x1, .int x2]) (h := (mz_S0, m)) rfl rfl (Nat.le_of_ble_eq_true rfl) (Nat.le_of_ble_eq_true rfl)) (mz_dc_lt (n := 4) rfl (by decide +kernel) (by decide +kernel)) (by decide +kernel) (Or.inl (by decide +kernel)) (fun v2 m1 => ?_)
  refine q_s (mz_fe (e := (8, .istore 5, 2, (0, 0, 0), [])) (by decide +kernel)) (pc' := 10) (L' := [some (.ref 27), some (.ref s), some (.int x0), some (.int x1), some (.int x2), some (.int v2)]) (st' := []) rfl ?_
  refine q_o (mz_fe (e := (10, .aload_n 0, 1, (0, 0, 0), [])) (by decide +kernel)) (pc2 := 11) rfl ?_
  refine q_getR (b := 28) (mz_fe (e := (11, .getfield 11, 13, (3, 1, 2), [])) (by decide +kernel)) rfl tg_27 (by rw [ln_27]; decide) (mz_rfS (by decide +kernel)) ?_
  refine q_ic (v := 0) (mz_fe (e := (14, .iconst 0, 1, (0, 0, 0), [])) (by decide +kernel)) (by decide) ?_
  refine q_o (mz_fe (e := (15, .iload 4, 2, (0, 0, 0), [])) (by decide +kernel)) (pc2 := 17) rfl ?_
  refine q_stA (f := (fun x => x)) (mz_fe (e := (17, .iastore, 1, (0, 0, 0), [])) (by decide +kernel)) (fun _ => rfl) rfl tg_28 ln_28 (by decide) (j := 0) (by decide) ?_
  refine q_o (mz_fe (e := (18, .aload_n 0, 1, (0, 0, 0), [])) (by decide +kernel)) (pc2 := 19) rfl ?_
  refine q_getR (b := 28) (mz_fe (e := (19, .getfield 11, 13, (3, 1, 2), [])) (by decide +kernel)) rfl tg_27 (by rw [ln_27]; decide) (mz_rfS (by decide +kernel)) ?_
  refine q_ic (v := 3) (mz_fe (e := (22, .iconst 3, 1, (0, 0, 0), [])) (by decide +kernel)) (by decide) ?_
  refine q_o (mz_fe (e := (23, .aload_n 1, 1, (0, 0, 0), [])) (by decide +kernel)) (pc2 := 24) rfl ?_
  refine q_getR (b := (s + 2)) (mz_fe (e := (24, .getfield 83, 20, (6, 1, 2), [])) (by decide +kernel)) rfl (st_t hs) (by rw [(st_l hs)]; decide) (st_w hs) ?_
  refine q_o (mz_fe (e := (27, .iload 4, 2, (0, 0, 0), [])) (by decide +kernel)) (pc2 := 29) rfl ?_
  refine q_ialdg rfl (mz_fe (e := (29, .iaload, 1, (0, 0, 0), [])) (by decide +kernel)) rfl (by omega) (st_wt hs) (st_wl hs) (fun g4 => ?_)
  refine q_stA (f := (fun x => x)) (mz_fe (e := (30, .iastore, 1, (0, 0, 0), [])) (by decide +kernel)) (fun _ => rfl) rfl tg_28 ln_28 (by decide) (j := 3) (by decide) ?_
  refine q_o (mz_fe (e := (31, .aload_n 0, 1, (0, 0, 0), [])) (by decide +kernel)) (pc2 := 32) rfl ?_
  refine q_getR (b := 28) (mz_fe (e := (32, .getfield 11, 13, (3, 1, 2), [])) (by decide +kernel)) rfl tg_27 (by rw [ln_27]; decide) (mz_rfS (by decide +kernel)) ?_
  refine q_ic (v := 4) (mz_fe (e := (35, .iconst 4, 1, (0, 0, 0), [])) (by decide +kernel)) (by decide) ?_
  refine q_o (mz_fe (e := (36, .iload 5, 2, (0, 0, 0), [])) (by decide +kernel)) (pc2 := 38) rfl ?_
  refine q_stA (f := (fun x => x)) (mz_fe (e := (38, .iastore, 1, (0, 0, 0), [])) (by decide +kernel)) (fun _ => rfl) rfl tg_28 ln_28 (by decide) (j := 4) (by decide) ?_
  refine q_o (mz_fe (e := (39, .aload_n 0, 1, (0, 0, 0), [])) (by decide +kernel)) (pc2 := 40) rfl ?_
  refine q_getR (b := 28) (mz_fe (e := (40, .getfield 11, 13, (3, 1, 2), [])) (by decide +kernel)) rfl tg_27 (by rw [ln_27]; decide) (mz_rfS (by decide +kernel)) ?_
  refine q_bi (v := 8) (mz_fe (e := (43, .bipush 8, 2, (0, 0, 0), [])) (by decide +kernel)) (by decide) ?_
  refine q_o (mz_fe (e := (45, .aload_n 1, 1, (0, 0, 0), [])) (by decide +kernel)) (pc2 := 46) rfl ?_
  refine q_o (mz_fe (e := (46, .iload_n 2, 1, (0, 0, 0), [])) (by decide +kernel)) (pc2 := 47) rfl ?_
  refine q_o (mz_fe (e := (47, .iload 4, 2, (0, 0, 0), [])) (by decide +kernel)) (pc2 := 49) rfl ?_
  refine q_callI (N := 72) (vs := [.ref s, .int x0, .int x2]) (rest := [.int 8, .ref 28]) (L' := [some (.ref 27), some (.ref s), some (.int x0), some (.int x1), some (.int x2), some (.int v2)]) (f := fun v6 m5 => (R_X6_amount d s x1 x2 m5).bind (fun u10 => (R_X2_value d 8 0 (mz_wr u10.2 28 8 (if v6 < u10.1 then u10.1 else v6))).bind (fun u13 => (R_X3_heldTo d v2 u13.1 u13.2).bind (fun u16 => some (u16.1, u16.2))))) rfl (mz_fe (e := (49, .invokevirtual 21, 15, (72, 3, 12), [])) (by decide +kernel)) rfl (mz_inv_virt (N := 72) (k := 3) (t := 12) (st := [.int x2, .int x0, .ref s, .int 8, .ref 28]) (rest := [.int 8, .ref 28]) (b := s) (vs := [.int x0, .int x2]) (h := (mz_S0, (mz_wr (mz_wr (mz_wr m1 28 0 x2) 28 3 (mz_rd (mz_wr m1 28 0 x2) (s + 2) (x2 : Int32).toNatClampNeg)) 28 4 v2))) rfl rfl (Nat.le_of_ble_eq_true rfl) (Nat.le_of_ble_eq_true rfl) (st_t hs) (by decide)) (mz_dc_lt (n := 3) rfl (by decide +kernel) (by decide +kernel)) (by decide +kernel) (Or.inl (by decide +kernel)) (fun v6 m5 => ?_)
  refine q_o (mz_fe (e := (52, .aload_n 1, 1, (0, 0, 0), [])) (by decide +kernel)) (pc2 := 53) rfl ?_
  refine q_o (mz_fe (e := (53, .iload_n 3, 1, (0, 0, 0), [])) (by decide +kernel)) (pc2 := 54) rfl ?_
  refine q_o (mz_fe (e := (54, .iload 4, 2, (0, 0, 0), [])) (by decide +kernel)) (pc2 := 56) rfl ?_
  refine q_callI (N := 72) (vs := [.ref s, .int x1, .int x2]) (rest := [.int v6, .int 8, .ref 28]) (L' := [some (.ref 27), some (.ref s), some (.int x0), some (.int x1), some (.int x2), some (.int v2)]) (f := fun v9 m8 => (R_X2_value d 8 0 (mz_wr m8 28 8 (if v6 < v9 then v9 else v6))).bind (fun u13 => (R_X3_heldTo d v2 u13.1 u13.2).bind (fun u16 => some (u16.1, u16.2)))) rfl (mz_fe (e := (56, .invokevirtual 21, 15, (72, 3, 12), [])) (by decide +kernel)) rfl (mz_inv_virt (N := 72) (k := 3) (t := 12) (st := [.int x2, .int x1, .ref s, .int v6, .int 8, .ref 28]) (rest := [.int v6, .int 8, .ref 28]) (b := s) (vs := [.int x1, .int x2]) (h := (mz_S0, m5)) rfl rfl (Nat.le_of_ble_eq_true rfl) (Nat.le_of_ble_eq_true rfl) (st_t hs) (by decide)) (mz_dc_lt (n := 3) rfl (by decide +kernel) (by decide +kernel)) (by decide +kernel) (Or.inl (by decide +kernel)) (fun v9 m8 => ?_)
  refine q_max (mz_fe (e := (59, .invokestatic 86, 9, (9997, 0, 0), [])) (by decide +kernel)) rfl (Nat.le_of_ble_eq_true rfl) ?_
  refine q_stA (f := (fun x => x)) (mz_fe (e := (62, .iastore, 1, (0, 0, 0), [])) (by decide +kernel)) (fun _ => rfl) rfl tg_28 ln_28 (by decide) (j := 8) (by decide) ?_
  refine q_o (mz_fe (e := (63, .iload 5, 2, (0, 0, 0), [])) (by decide +kernel)) (pc2 := 65) rfl ?_
  refine q_o (mz_fe (e := (65, .aload_n 0, 1, (0, 0, 0), [])) (by decide +kernel)) (pc2 := 66) rfl ?_
  refine q_getR (b := 4) (mz_fe (e := (66, .getfield 17, 14, (3, 0, 2), [])) (by decide +kernel)) rfl tg_27 (by rw [ln_27]; decide) (mz_rfS (by decide +kernel)) ?_
  refine q_getR (b := 8) (mz_fe (e := (69, .getfield 57, 19, (8, 3, 2), [])) (by decide +kernel)) rfl tg_4 (by rw [ln_4]; decide) (mz_rfS (by decide +kernel)) ?_
  refine q_ic (v := 0) (mz_fe (e := (72, .iconst 0, 1, (0, 0, 0), [])) (by decide +kernel)) (by decide) ?_
  refine q_o (mz_fe (e := (73, .aload_n 0, 1, (0, 0, 0), [])) (by decide +kernel)) (pc2 := 74) rfl ?_
  refine q_getR (b := 28) (mz_fe (e := (74, .getfield 11, 13, (3, 1, 2), [])) (by decide +kernel)) rfl tg_27 (by rw [ln_27]; decide) (mz_rfS (by decide +kernel)) ?_
  refine q_callI (N := 23) (vs := [.ref 8, .int 0, .ref 28]) (rest := [.int v2]) (L' := [some (.ref 27), some (.ref s), some (.int x0), some (.int x1), some (.int x2), some (.int v2)]) (f := fun v12 m11 => (R_X3_heldTo d v2 v12 m11).bind (fun u16 => some (u16.1, u16.2))) rfl (mz_fe (e := (77, .invokevirtual 63, 19, (23, 3, 8), [])) (by decide +kernel)) rfl (mz_inv_virt (N := 23) (k := 3) (t := 8) (st := [.ref 28, .int 0, .ref 8, .int v2]) (rest := [.int v2]) (b := 8) (vs := [.int 0, .ref 28]) (h := (mz_S0, (mz_wr m8 28 8 (if v6 < v9 then v9 else v6)))) rfl rfl (Nat.le_of_ble_eq_true rfl) (Nat.le_of_ble_eq_true rfl) tg_8 (by decide)) (mz_dc_lt (n := 3) rfl (by decide +kernel) (by decide +kernel)) (by decide +kernel) (Or.inl (by decide +kernel)) (fun v12 m11 => ?_)
  refine q_callI (N := 35) (vs := [.int v2, .int v12]) (rest := []) (L' := [some (.ref 27), some (.ref s), some (.int x0), some (.int x1), some (.int x2), some (.int v2)]) (f := fun v15 m14 => some (v15, m14)) rfl (mz_fe (e := (80, .invokestatic 73, 22, (35, 2, 1000), [])) (by decide +kernel)) rfl (mz_inv_stat (N := 35) (k := 2) (st := [.int v12, .int v2]) (rest := []) (vs := [.int v2, .int v12]) (h := (mz_S0, m11)) rfl rfl (Nat.le_of_ble_eq_true rfl) (Nat.le_of_ble_eq_true rfl)) (mz_dc_lt (n := 2) rfl (by decide +kernel) (by decide +kernel)) (by decide +kernel) (Or.inl (by decide +kernel)) (fun v15 m14 => ?_)
  exact q_retI (mz_fe (e := (83, .ireturn, 1, (0, 0, 0), [])) (by decide +kernel)) (by decide +kernel)
set_option maxRecDepth 10000 in
theorem R_X3_allOf_eq (d : Nat) (s : Nat) (x0 : Int32) (x1 : Int32) (x2 : Int32) (m : MzM) (hs : mz_isS s = true) : R_X3_allOf d s x0 x1 x2 m = (R_X6_amount d s x0 x2 m).bind (fun u3 => (R_X6_amount d s x1 x2 u3.2).bind (fun u6 => mz_g (mz_ok x2 4) (some (((u3.1 + u6.1) + (mz_rd u6.2 (s + 2) (x2 : Int32).toNatClampNeg)), u6.2)))) := by
  show mz_cI (mz_T d 34 0 (mz_en (mz_xl 34) [.ref s, .int x0, .int x1, .int x2]) [] m) = _
  rw [show mz_en (mz_xl 34) [.ref s, .int x0, .int x1, .int x2] = [some (.ref s), some (.int x0), some (.int x1), some (.int x2)] from by rw [show mz_xl 34 = 4 from by decide +kernel]; rfl]
  refine q_o (mz_fe (e := (0, .aload_n 0, 1, (0, 0, 0), [])) (by decide +kernel)) (pc2 := 1) rfl ?_
  refine q_o (mz_fe (e := (1, .iload_n 1, 1, (0, 0, 0), [])) (by decide +kernel)) (pc2 := 2) rfl ?_
  refine q_o (mz_fe (e := (2, .iload_n 3, 1, (0, 0, 0), [])) (by decide +kernel)) (pc2 := 3) rfl ?_
  refine q_callI (N := 72) (vs := [.ref s, .int x0, .int x2]) (rest := []) (L' := [some (.ref s), some (.int x0), some (.int x1), some (.int x2)]) (f := fun v2 m1 => (R_X6_amount d s x1 x2 m1).bind (fun u6 => mz_g (mz_ok x2 4) (some (((v2 + u6.1) + (mz_rd u6.2 (s + 2) (x2 : Int32).toNatClampNeg)), u6.2)))) rfl (mz_fe (e := (3, .invokevirtual 21, 15, (72, 3, 12), [])) (by decide +kernel)) rfl (mz_inv_virt (N := 72) (k := 3) (t := 12) (st := [.int x2, .int x0, .ref s]) (rest := []) (b := s) (vs := [.int x0, .int x2]) (h := (mz_S0, m)) rfl rfl (Nat.le_of_ble_eq_true rfl) (Nat.le_of_ble_eq_true rfl) (st_t hs) (by decide)) (mz_dc_lt (n := 3) rfl (by decide +kernel) (by decide +kernel)) (by decide +kernel) (Or.inl (by decide +kernel)) (fun v2 m1 => ?_)
  refine q_o (mz_fe (e := (6, .aload_n 0, 1, (0, 0, 0), [])) (by decide +kernel)) (pc2 := 7) rfl ?_
  refine q_o (mz_fe (e := (7, .iload_n 2, 1, (0, 0, 0), [])) (by decide +kernel)) (pc2 := 8) rfl ?_
  refine q_o (mz_fe (e := (8, .iload_n 3, 1, (0, 0, 0), [])) (by decide +kernel)) (pc2 := 9) rfl ?_
  refine q_callI (N := 72) (vs := [.ref s, .int x1, .int x2]) (rest := [.int v2]) (L' := [some (.ref s), some (.int x0), some (.int x1), some (.int x2)]) (f := fun v5 m4 => mz_g (mz_ok x2 4) (some (((v2 + v5) + (mz_rd m4 (s + 2) (x2 : Int32).toNatClampNeg)), m4))) rfl (mz_fe (e := (9, .invokevirtual 21, 15, (72, 3, 12), [])) (by decide +kernel)) rfl (mz_inv_virt (N := 72) (k := 3) (t := 12) (st := [.int x2, .int x1, .ref s, .int v2]) (rest := [.int v2]) (b := s) (vs := [.int x1, .int x2]) (h := (mz_S0, m1)) rfl rfl (Nat.le_of_ble_eq_true rfl) (Nat.le_of_ble_eq_true rfl) (st_t hs) (by decide)) (mz_dc_lt (n := 3) rfl (by decide +kernel) (by decide +kernel)) (by decide +kernel) (Or.inl (by decide +kernel)) (fun v5 m4 => ?_)
  refine q_o (mz_fe (e := (12, .iadd, 1, (0, 0, 0), [])) (by decide +kernel)) (pc2 := 13) rfl ?_
  refine q_o (mz_fe (e := (13, .aload_n 0, 1, (0, 0, 0), [])) (by decide +kernel)) (pc2 := 14) rfl ?_
  refine q_getR (b := (s + 2)) (mz_fe (e := (14, .getfield 83, 20, (6, 1, 2), [])) (by decide +kernel)) rfl (st_t hs) (by rw [(st_l hs)]; decide) (st_w hs) ?_
  refine q_o (mz_fe (e := (17, .iload_n 3, 1, (0, 0, 0), [])) (by decide +kernel)) (pc2 := 18) rfl ?_
  refine q_ialdg rfl (mz_fe (e := (18, .iaload, 1, (0, 0, 0), [])) (by decide +kernel)) rfl (by omega) (st_wt hs) (st_wl hs) (fun g7 => ?_)
  refine q_o (mz_fe (e := (19, .iadd, 1, (0, 0, 0), [])) (by decide +kernel)) (pc2 := 20) rfl ?_
  exact q_retI (mz_fe (e := (20, .ireturn, 1, (0, 0, 0), [])) (by decide +kernel)) (by decide +kernel)
set_option maxRecDepth 10000 in
theorem R_X3_heldTo_eq (d : Nat) (x0 : Int32) (x1 : Int32) (m : MzM)  : R_X3_heldTo d x0 x1 m = some ((if (0 : Int32) < (if x1 < x0 then x1 else x0) then (if x1 < x0 then x1 else x0) else 0), m) := by
  show mz_cI (mz_T d 35 0 (mz_en (mz_xl 35) [.int x0, .int x1]) [] m) = _
  rw [show mz_en (mz_xl 35) [.int x0, .int x1] = [some (.int x0), some (.int x1)] from by rw [show mz_xl 35 = 2 from by decide +kernel]; rfl]
  refine q_ic (v := 0) (mz_fe (e := (0, .iconst 0, 1, (0, 0, 0), [])) (by decide +kernel)) (by decide) ?_
  refine q_o (mz_fe (e := (1, .iload_n 0, 1, (0, 0, 0), [])) (by decide +kernel)) (pc2 := 2) rfl ?_
  refine q_o (mz_fe (e := (2, .iload_n 1, 1, (0, 0, 0), [])) (by decide +kernel)) (pc2 := 3) rfl ?_
  refine q_min (mz_fe (e := (3, .invokestatic 89, 10, (9996, 0, 0), [])) (by decide +kernel)) rfl (Nat.le_of_ble_eq_true rfl) ?_
  refine q_max (mz_fe (e := (6, .invokestatic 86, 9, (9997, 0, 0), [])) (by decide +kernel)) rfl (Nat.le_of_ble_eq_true rfl) ?_
  exact q_retI (mz_fe (e := (9, .ireturn, 1, (0, 0, 0), [])) (by decide +kernel)) (by decide +kernel)
set_option maxRecDepth 10000 in
theorem R_X3_putThrough_eq (d : Nat) (s : Nat) (x0 : Int32) (x1 : Int32) (m : MzM) (hs : mz_isS s = true) : R_X3_putThrough d s x0 x1 m = (R_X3_lookAtTurn d s x0 x1 m).bind (fun m1 => (R_X3_wearOf d 3 m1).bind (fun u6 => (R_X3_wearOf d 2 u6.2).bind (fun u9 => H_X3_putThrough_24 d s x0 x1 u6.1 u9.1 0 u9.2))) := by
  show mz_cV (mz_T d 36 0 (mz_en (mz_xl 36) [.ref 27, .ref s, .int x0, .int x1]) [] m) = _
  rw [show mz_en (mz_xl 36) [.ref 27, .ref s, .int x0, .int x1] = [some (.ref 27), some (.ref s), some (.int x0), some (.int x1), none, none, none, none, none] from by rw [show mz_xl 36 = 9 from by decide +kernel]; rfl]
  refine q_o (mz_fe (e := (0, .aload_n 0, 1, (0, 0, 0), [])) (by decide +kernel)) (pc2 := 1) rfl ?_
  refine q_o (mz_fe (e := (1, .aload_n 1, 1, (0, 0, 0), [])) (by decide +kernel)) (pc2 := 2) rfl ?_
  refine q_o (mz_fe (e := (2, .iload_n 2, 1, (0, 0, 0), [])) (by decide +kernel)) (pc2 := 3) rfl ?_
  refine q_o (mz_fe (e := (3, .iload_n 3, 1, (0, 0, 0), [])) (by decide +kernel)) (pc2 := 4) rfl ?_
  refine q_callV (N := 27) (vs := [.ref 27, .ref s, .int x0, .int x1]) (rest := []) (L' := [some (.ref 27), some (.ref s), some (.int x0), some (.int x1), none, none, none, none, none]) rfl (mz_fe (e := (4, .invokevirtual 67, 20, (27, 4, 9), [])) (by decide +kernel)) rfl (mz_inv_virt (N := 27) (k := 4) (t := 9) (st := [.int x1, .int x0, .ref s, .ref 27]) (rest := []) (b := 27) (vs := [.ref s, .int x0, .int x1]) (h := (mz_S0, m)) rfl rfl (Nat.le_of_ble_eq_true rfl) (Nat.le_of_ble_eq_true rfl) tg_27 (by decide)) (mz_dc_lt (n := 4) rfl (by decide +kernel) (by decide +kernel)) (by decide +kernel) (by decide +kernel) (fun m1 => ?_)
  refine q_o (mz_fe (e := (7, .aload_n 0, 1, (0, 0, 0), [])) (by decide +kernel)) (pc2 := 8) rfl ?_
  refine q_ic (v := 3) (mz_fe (e := (8, .iconst 3, 1, (0, 0, 0), [])) (by decide +kernel)) (by decide) ?_
  refine q_callI (N := 30) (vs := [.ref 27, .int 3]) (rest := []) (L' := [some (.ref 27), some (.ref s), some (.int x0), some (.int x1), none, none, none, none, none]) (f := fun v5 m4 => (R_X3_wearOf d 2 m4).bind (fun u9 => H_X3_putThrough_24 d s x0 x1 v5 u9.1 0 u9.2)) rfl (mz_fe (e := (9, .invokevirtual 70, 21, (30, 2, 9), [])) (by decide +kernel)) rfl (mz_inv_virt (N := 30) (k := 2) (t := 9) (st := [.int 3, .ref 27]) (rest := []) (b := 27) (vs := [.int 3]) (h := (mz_S0, m1)) rfl rfl (Nat.le_of_ble_eq_true rfl) (Nat.le_of_ble_eq_true rfl) tg_27 (by decide)) (mz_dc_lt (n := 2) rfl (by decide +kernel) (by decide +kernel)) (by decide +kernel) (Or.inl (by decide +kernel)) (fun v5 m4 => ?_)
  refine q_s (mz_fe (e := (12, .istore 4, 2, (0, 0, 0), [])) (by decide +kernel)) (pc' := 14) (L' := [some (.ref 27), some (.ref s), some (.int x0), some (.int x1), some (.int v5), none, none, none, none]) (st' := []) rfl ?_
  refine q_o (mz_fe (e := (14, .aload_n 0, 1, (0, 0, 0), [])) (by decide +kernel)) (pc2 := 15) rfl ?_
  refine q_ic (v := 2) (mz_fe (e := (15, .iconst 2, 1, (0, 0, 0), [])) (by decide +kernel)) (by decide) ?_
  refine q_callI (N := 30) (vs := [.ref 27, .int 2]) (rest := []) (L' := [some (.ref 27), some (.ref s), some (.int x0), some (.int x1), some (.int v5), none, none, none, none]) (f := fun v8 m7 => H_X3_putThrough_24 d s x0 x1 v5 v8 0 m7) rfl (mz_fe (e := (16, .invokevirtual 70, 21, (30, 2, 9), [])) (by decide +kernel)) rfl (mz_inv_virt (N := 30) (k := 2) (t := 9) (st := [.int 2, .ref 27]) (rest := []) (b := 27) (vs := [.int 2]) (h := (mz_S0, m4)) rfl rfl (Nat.le_of_ble_eq_true rfl) (Nat.le_of_ble_eq_true rfl) tg_27 (by decide)) (mz_dc_lt (n := 2) rfl (by decide +kernel) (by decide +kernel)) (by decide +kernel) (Or.inl (by decide +kernel)) (fun v8 m7 => ?_)
  refine q_s (mz_fe (e := (19, .istore 5, 2, (0, 0, 0), [])) (by decide +kernel)) (pc' := 21) (L' := [some (.ref 27), some (.ref s), some (.int x0), some (.int x1), some (.int v5), some (.int v8), none, none, none]) (st' := []) rfl ?_
  refine q_ic (v := 0) (mz_fe (e := (21, .iconst 0, 1, (0, 0, 0), [])) (by decide +kernel)) (by decide) ?_
  refine q_s (mz_fe (e := (22, .istore 6, 2, (0, 0, 0), [])) (by decide +kernel)) (pc' := 24) (L' := [some (.ref 27), some (.ref s), some (.int x0), some (.int x1), some (.int v5), some (.int v8), some (.int 0), none, none]) (st' := []) rfl ?_
  exact congrArg mz_cV (mz_At_msk (L := [some (.ref 27), some (.ref s), some (.int x0), some (.int x1), some (.int v5), some (.int v8), some (.int 0), none, none]) (L2 := [some (.ref 27), some (.ref s), some (.int x0), some (.int x1), some (.int v5), some (.int v8), some (.int 0), none, none]) (mz_fe (e := (24, .iload 6, 2, (0, 0, 0), [true, true, true, true, true, true, true, false, false])) (by decide +kernel)) rfl rfl)
set_option maxRecDepth 10000 in
theorem H_X3_putThrough_24_eq (d : Nat) (a1 : Nat) (y2 : Int32) (y3 : Int32) (y4 : Int32) (y5 : Int32) (y6 : Int32) (m : MzM) (ha1 : mz_isS a1 = true) : H_X3_putThrough_24 d a1 y2 y3 y4 y5 y6 m = if (4 : Int32) ≤ y6 then (mz_g (mz_ok y2 6) (mz_g (mz_ok y2 6) (mz_g (mz_ok y3 6) (mz_g (mz_ok y3 6) (some (mz_wr (mz_wr (mz_wr (mz_wr (mz_wr m a1 6 (if ((mz_rd m a1 6) + y5) < 99 then ((mz_rd m a1 6) + y5) else 99)) a1 7 ((mz_rd (mz_wr m a1 6 (if ((mz_rd m a1 6) + y5) < 99 then ((mz_rd m a1 6) + y5) else 99)) a1 7) + y4)) a1 4 ((mz_rd (mz_wr (mz_wr m a1 6 (if ((mz_rd m a1 6) + y5) < 99 then ((mz_rd m a1 6) + y5) else 99)) a1 7 ((mz_rd (mz_wr m a1 6 (if ((mz_rd m a1 6) + y5) < 99 then ((mz_rd m a1 6) + y5) else 99)) a1 7) + y4)) a1 4) + 1)) (a1 + 3) (y2 : Int32).toNatClampNeg ((mz_rd (mz_wr (mz_wr (mz_wr m a1 6 (if ((mz_rd m a1 6) + y5) < 99 then ((mz_rd m a1 6) + y5) else 99)) a1 7 ((mz_rd (mz_wr m a1 6 (if ((mz_rd m a1 6) + y5) < 99 then ((mz_rd m a1 6) + y5) else 99)) a1 7) + y4)) a1 4 ((mz_rd (mz_wr (mz_wr m a1 6 (if ((mz_rd m a1 6) + y5) < 99 then ((mz_rd m a1 6) + y5) else 99)) a1 7 ((mz_rd (mz_wr m a1 6 (if ((mz_rd m a1 6) + y5) < 99 then ((mz_rd m a1 6) + y5) else 99)) a1 7) + y4)) a1 4) + 1)) (a1 + 3) (y2 : Int32).toNatClampNeg) + 1)) (a1 + 3) (y3 : Int32).toNatClampNeg ((mz_rd (mz_wr (mz_wr (mz_wr (mz_wr m a1 6 (if ((mz_rd m a1 6) + y5) < 99 then ((mz_rd m a1 6) + y5) else 99)) a1 7 ((mz_rd (mz_wr m a1 6 (if ((mz_rd m a1 6) + y5) < 99 then ((mz_rd m a1 6) + y5) else 99)) a1 7) + y4)) a1 4 ((mz_rd (mz_wr (mz_wr m a1 6 (if ((mz_rd m a1 6) + y5) < 99 then ((mz_rd m a1 6) + y5) else 99)) a1 7 ((mz_rd (mz_wr m a1 6 (if ((mz_rd m a1 6) + y5) < 99 then ((mz_rd m a1 6) + y5) else 99)) a1 7) + y4)) a1 4) + 1)) (a1 + 3) (y2 : Int32).toNatClampNeg ((mz_rd (mz_wr (mz_wr (mz_wr m a1 6 (if ((mz_rd m a1 6) + y5) < 99 then ((mz_rd m a1 6) + y5) else 99)) a1 7 ((mz_rd (mz_wr m a1 6 (if ((mz_rd m a1 6) + y5) < 99 then ((mz_rd m a1 6) + y5) else 99)) a1 7) + y4)) a1 4 ((mz_rd (mz_wr (mz_wr m a1 6 (if ((mz_rd m a1 6) + y5) < 99 then ((mz_rd m a1 6) + y5) else 99)) a1 7 ((mz_rd (mz_wr m a1 6 (if ((mz_rd m a1 6) + y5) < 99 then ((mz_rd m a1 6) + y5) else 99)) a1 7) + y4)) a1 4) + 1)) (a1 + 3) (y2 : Int32).toNatClampNeg) + 1)) (a1 + 3) (y3 : Int32).toNatClampNeg) + 1))))))) else ((R_X3_allOf d a1 y2 y3 y6 m).bind (fun u17 => (R_X3_stayingOf d a1 y2 y3 y6 u17.2).bind (fun u20 => (R_X6_setAmount d a1 y2 y6 ((u17.1 - u20.1) / 2) u20.2).bind (fun m21 => (R_X6_setAmount d a1 y3 y6 ((u17.1 - u20.1) / 2) m21).bind (fun m24 => mz_g (mz_ok y6 4) (H_X3_putThrough_24 d a1 y2 y3 y4 y5 (y6 + 1) (mz_wr m24 (a1 + 2) (y6 : Int32).toNatClampNeg (u17.1 - ((2 : Int32) * ((u17.1 - u20.1) / 2)))))))))) := by
  show mz_cV (mz_T d 36 24 [some (.ref 27), some (.ref a1), some (.int y2), some (.int y3), some (.int y4), some (.int y5), some (.int y6), none, none] [] m) = _
  refine q_s (mz_fe (e := (24, .iload 6, 2, (0, 0, 0), [true, true, true, true, true, true, true, false, false])) (by decide +kernel)) (pc' := 26) (L' := [some (.ref 27), some (.ref a1), some (.int y2), some (.int y3), some (.int y4), some (.int y5), some (.int y6), none, none]) (st' := [.int y6]) rfl ?_
  refine q_ic (v := 4) (mz_fe (e := (26, .iconst 4, 1, (0, 0, 0), [])) (by decide +kernel)) (by decide) ?_
  refine q_if (c := .ge) (off := 67) (t := 94) (x := y6) (y := 4) (st := []) (mz_fe (e := (27, .if_icmp .ge 67, 3, (0, 0, 0), [])) (by decide +kernel)) (fun _ => rfl) rfl rfl rfl (fun c10 => ?_) (fun c10 => ?_)
  · refine q_o (mz_fe (e := (94, .aload_n 1, 1, (0, 0, 0), [])) (by decide +kernel)) (pc2 := 95) rfl ?_
    refine q_bi (v := 99) (mz_fe (e := (95, .bipush 99, 2, (0, 0, 0), [])) (by decide +kernel)) (by decide) ?_
    refine q_o (mz_fe (e := (97, .aload_n 1, 1, (0, 0, 0), [])) (by decide +kernel)) (pc2 := 98) rfl ?_
    refine q_getI (mz_fe (e := (98, .getfield 37, 16, (6, 6, 0), [])) (by decide +kernel)) rfl (by decide) (st_t ha1) (by rw [(st_l ha1)]; decide) ?_
    refine q_o (mz_fe (e := (101, .iload 5, 2, (0, 0, 0), [])) (by decide +kernel)) (pc2 := 103) rfl ?_
    refine q_o (mz_fe (e := (103, .iadd, 1, (0, 0, 0), [])) (by decide +kernel)) (pc2 := 104) rfl ?_
    refine q_min (mz_fe (e := (104, .invokestatic 89, 10, (9996, 0, 0), [])) (by decide +kernel)) rfl (Nat.le_of_ble_eq_true rfl) ?_
    refine q_putI (mz_fe (e := (107, .putfield 37, 16, (6, 6, 0), [])) (by decide +kernel)) rfl (st_t ha1) (by rw [(st_l ha1)]; decide) ?_
    refine q_o (mz_fe (e := (110, .aload_n 1, 1, (0, 0, 0), [])) (by decide +kernel)) (pc2 := 111) rfl ?_
    refine q_o (mz_fe (e := (111, .dup, 1, (0, 0, 0), [])) (by decide +kernel)) (pc2 := 112) rfl ?_
    refine q_getI (mz_fe (e := (112, .getfield 96, 21, (6, 7, 0), [])) (by decide +kernel)) rfl (by decide) (st_t ha1) (by rw [(st_l ha1)]; decide) ?_
    refine q_o (mz_fe (e := (115, .iload 4, 2, (0, 0, 0), [])) (by decide +kernel)) (pc2 := 117) rfl ?_
    refine q_o (mz_fe (e := (117, .iadd, 1, (0, 0, 0), [])) (by decide +kernel)) (pc2 := 118) rfl ?_
    refine q_putI (mz_fe (e := (118, .putfield 96, 21, (6, 7, 0), [])) (by decide +kernel)) rfl (st_t ha1) (by rw [(st_l ha1)]; decide) ?_
    refine q_o (mz_fe (e := (121, .aload_n 1, 1, (0, 0, 0), [])) (by decide +kernel)) (pc2 := 122) rfl ?_
    refine q_o (mz_fe (e := (122, .dup, 1, (0, 0, 0), [])) (by decide +kernel)) (pc2 := 123) rfl ?_
    refine q_getI (mz_fe (e := (123, .getfield 43, 18, (6, 4, 0), [])) (by decide +kernel)) rfl (by decide) (st_t ha1) (by rw [(st_l ha1)]; decide) ?_
    refine q_ic (v := 1) (mz_fe (e := (126, .iconst 1, 1, (0, 0, 0), [])) (by decide +kernel)) (by decide) ?_
    refine q_o (mz_fe (e := (127, .iadd, 1, (0, 0, 0), [])) (by decide +kernel)) (pc2 := 128) rfl ?_
    refine q_putI (mz_fe (e := (128, .putfield 43, 18, (6, 4, 0), [])) (by decide +kernel)) rfl (st_t ha1) (by rw [(st_l ha1)]; decide) ?_
    refine q_o (mz_fe (e := (131, .aload_n 1, 1, (0, 0, 0), [])) (by decide +kernel)) (pc2 := 132) rfl ?_
    refine q_getR (b := (a1 + 3)) (mz_fe (e := (132, .getfield 99, 22, (6, 2, 2), [])) (by decide +kernel)) rfl (st_t ha1) (by rw [(st_l ha1)]; decide) (st_p ha1) ?_
    refine q_o (mz_fe (e := (135, .iload_n 2, 1, (0, 0, 0), [])) (by decide +kernel)) (pc2 := 136) rfl ?_
    refine q_o (mz_fe (e := (136, .dup2, 1, (0, 0, 0), [])) (by decide +kernel)) (pc2 := 137) rfl ?_
    refine q_ialdg rfl (mz_fe (e := (137, .iaload, 1, (0, 0, 0), [])) (by decide +kernel)) rfl (by omega) (st_pt ha1) (st_pl ha1) (fun g11 => ?_)
    refine q_ic (v := 1) (mz_fe (e := (138, .iconst 1, 1, (0, 0, 0), [])) (by decide +kernel)) (by decide) ?_
    refine q_o (mz_fe (e := (139, .iadd, 1, (0, 0, 0), [])) (by decide +kernel)) (pc2 := 140) rfl ?_
    refine q_stAg (f := (fun x => x)) rfl (mz_fe (e := (140, .iastore, 1, (0, 0, 0), [])) (by decide +kernel)) (fun _ => rfl) rfl (st_pt ha1) (st_pl ha1) (fun g12 => ?_)
    refine q_o (mz_fe (e := (141, .aload_n 1, 1, (0, 0, 0), [])) (by decide +kernel)) (pc2 := 142) rfl ?_
    refine q_getR (b := (a1 + 3)) (mz_fe (e := (142, .getfield 99, 22, (6, 2, 2), [])) (by decide +kernel)) rfl (st_t ha1) (by rw [(st_l ha1)]; decide) (st_p ha1) ?_
    refine q_o (mz_fe (e := (145, .iload_n 3, 1, (0, 0, 0), [])) (by decide +kernel)) (pc2 := 146) rfl ?_
    refine q_o (mz_fe (e := (146, .dup2, 1, (0, 0, 0), [])) (by decide +kernel)) (pc2 := 147) rfl ?_
    refine q_ialdg rfl (mz_fe (e := (147, .iaload, 1, (0, 0, 0), [])) (by decide +kernel)) rfl (by omega) (st_pt ha1) (st_pl ha1) (fun g13 => ?_)
    refine q_ic (v := 1) (mz_fe (e := (148, .iconst 1, 1, (0, 0, 0), [])) (by decide +kernel)) (by decide) ?_
    refine q_o (mz_fe (e := (149, .iadd, 1, (0, 0, 0), [])) (by decide +kernel)) (pc2 := 150) rfl ?_
    refine q_stAg (f := (fun x => x)) rfl (mz_fe (e := (150, .iastore, 1, (0, 0, 0), [])) (by decide +kernel)) (fun _ => rfl) rfl (st_pt ha1) (st_pl ha1) (fun g14 => ?_)
    exact q_retV (mz_fe (e := (151, .return_, 1, (0, 0, 0), [])) (by decide +kernel)) (by decide +kernel)
  · refine q_o (mz_fe (e := (30, .aload_n 1, 1, (0, 0, 0), [])) (by decide +kernel)) (pc2 := 31) rfl ?_
    refine q_o (mz_fe (e := (31, .iload_n 2, 1, (0, 0, 0), [])) (by decide +kernel)) (pc2 := 32) rfl ?_
    refine q_o (mz_fe (e := (32, .iload_n 3, 1, (0, 0, 0), [])) (by decide +kernel)) (pc2 := 33) rfl ?_
    refine q_o (mz_fe (e := (33, .iload 6, 2, (0, 0, 0), [])) (by decide +kernel)) (pc2 := 35) rfl ?_
    refine q_callI (N := 34) (vs := [.ref a1, .int y2, .int y3, .int y6]) (rest := []) (L' := [some (.ref 27), some (.ref a1), some (.int y2), some (.int y3), some (.int y4), some (.int y5), some (.int y6), none, none]) (f := fun v16 m15 => (R_X3_stayingOf d a1 y2 y3 y6 m15).bind (fun u20 => (R_X6_setAmount d a1 y2 y6 ((v16 - u20.1) / 2) u20.2).bind (fun m21 => (R_X6_setAmount d a1 y3 y6 ((v16 - u20.1) / 2) m21).bind (fun m24 => mz_g (mz_ok y6 4) (H_X3_putThrough_24 d a1 y2 y3 y4 y5 (y6 + 1) (mz_wr m24 (a1 + 2) (y6 : Int32).toNatClampNeg (v16 - ((2 : Int32) * ((v16 - u20.1) / 2))))))))) rfl (mz_fe (e := (35, .invokestatic 80, 24, (34, 4, 1000), [])) (by decide +kernel)) rfl (mz_inv_stat (N := 34) (k := 4) (st := [.int y6, .int y3, .int y2, .ref a1]) (rest := []) (vs := [.ref a1, .int y2, .int y3, .int y6]) (h := (mz_S0, m)) rfl rfl (Nat.le_of_ble_eq_true rfl) (Nat.le_of_ble_eq_true rfl)) (mz_dc_lt (n := 4) rfl (by decide +kernel) (by decide +kernel)) (by decide +kernel) (Or.inl (by decide +kernel)) (fun v16 m15 => ?_)
    refine q_s (mz_fe (e := (38, .istore 7, 2, (0, 0, 0), [])) (by decide +kernel)) (pc' := 40) (L' := [some (.ref 27), some (.ref a1), some (.int y2), some (.int y3), some (.int y4), some (.int y5), some (.int y6), some (.int v16), none]) (st' := []) rfl ?_
    refine q_o (mz_fe (e := (40, .iload 7, 2, (0, 0, 0), [])) (by decide +kernel)) (pc2 := 42) rfl ?_
    refine q_o (mz_fe (e := (42, .aload_n 0, 1, (0, 0, 0), [])) (by decide +kernel)) (pc2 := 43) rfl ?_
    refine q_o (mz_fe (e := (43, .aload_n 1, 1, (0, 0, 0), [])) (by decide +kernel)) (pc2 := 44) rfl ?_
    refine q_o (mz_fe (e := (44, .iload_n 2, 1, (0, 0, 0), [])) (by decide +kernel)) (pc2 := 45) rfl ?_
    refine q_o (mz_fe (e := (45, .iload_n 3, 1, (0, 0, 0), [])) (by decide +kernel)) (pc2 := 46) rfl ?_
    refine q_o (mz_fe (e := (46, .iload 6, 2, (0, 0, 0), [])) (by decide +kernel)) (pc2 := 48) rfl ?_
    refine q_callI (N := 33) (vs := [.ref 27, .ref a1, .int y2, .int y3, .int y6]) (rest := [.int v16]) (L' := [some (.ref 27), some (.ref a1), some (.int y2), some (.int y3), some (.int y4), some (.int y5), some (.int y6), some (.int v16), none]) (f := fun v19 m18 => (R_X6_setAmount d a1 y2 y6 ((v16 - v19) / 2) m18).bind (fun m21 => (R_X6_setAmount d a1 y3 y6 ((v16 - v19) / 2) m21).bind (fun m24 => mz_g (mz_ok y6 4) (H_X3_putThrough_24 d a1 y2 y3 y4 y5 (y6 + 1) (mz_wr m24 (a1 + 2) (y6 : Int32).toNatClampNeg (v16 - ((2 : Int32) * ((v16 - v19) / 2)))))))) rfl (mz_fe (e := (48, .invokevirtual 76, 23, (33, 5, 9), [])) (by decide +kernel)) rfl (mz_inv_virt (N := 33) (k := 5) (t := 9) (st := [.int y6, .int y3, .int y2, .ref a1, .ref 27, .int v16]) (rest := [.int v16]) (b := 27) (vs := [.ref a1, .int y2, .int y3, .int y6]) (h := (mz_S0, m15)) rfl rfl (Nat.le_of_ble_eq_true rfl) (Nat.le_of_ble_eq_true rfl) tg_27 (by decide)) (mz_dc_lt (n := 5) rfl (by decide +kernel) (by decide +kernel)) (by decide +kernel) (Or.inl (by decide +kernel)) (fun v19 m18 => ?_)
    refine q_o (mz_fe (e := (51, .isub, 1, (0, 0, 0), [])) (by decide +kernel)) (pc2 := 52) rfl ?_
    refine q_ic (v := 2) (mz_fe (e := (52, .iconst 2, 1, (0, 0, 0), [])) (by decide +kernel)) (by decide) ?_
    refine q_o (mz_fe (e := (53, .idiv, 1, (0, 0, 0), [])) (by decide +kernel)) (pc2 := 54) rfl ?_
    refine q_s (mz_fe (e := (54, .istore 8, 2, (0, 0, 0), [])) (by decide +kernel)) (pc' := 56) (L' := [some (.ref 27), some (.ref a1), some (.int y2), some (.int y3), some (.int y4), some (.int y5), some (.int y6), some (.int v16), some (.int ((v16 - v19) / 2))]) (st' := []) rfl ?_
    refine q_o (mz_fe (e := (56, .aload_n 1, 1, (0, 0, 0), [])) (by decide +kernel)) (pc2 := 57) rfl ?_
    refine q_o (mz_fe (e := (57, .iload_n 2, 1, (0, 0, 0), [])) (by decide +kernel)) (pc2 := 58) rfl ?_
    refine q_o (mz_fe (e := (58, .iload 6, 2, (0, 0, 0), [])) (by decide +kernel)) (pc2 := 60) rfl ?_
    refine q_o (mz_fe (e := (60, .iload 8, 2, (0, 0, 0), [])) (by decide +kernel)) (pc2 := 62) rfl ?_
    refine q_callV (N := 73) (vs := [.ref a1, .int y2, .int y6, .int ((v16 - v19) / 2)]) (rest := []) (L' := [some (.ref 27), some (.ref a1), some (.int y2), some (.int y3), some (.int y4), some (.int y5), some (.int y6), some (.int v16), some (.int ((v16 - v19) / 2))]) rfl (mz_fe (e := (62, .invokevirtual 92, 25, (73, 4, 12), [])) (by decide +kernel)) rfl (mz_inv_virt (N := 73) (k := 4) (t := 12) (st := [.int ((v16 - v19) / 2), .int y6, .int y2, .ref a1]) (rest := []) (b := a1) (vs := [.int y2, .int y6, .int ((v16 - v19) / 2)]) (h := (mz_S0, m18)) rfl rfl (Nat.le_of_ble_eq_true rfl) (Nat.le_of_ble_eq_true rfl) (st_t ha1) (by decide)) (mz_dc_lt (n := 4) rfl (by decide +kernel) (by decide +kernel)) (by decide +kernel) (by decide +kernel) (fun m21 => ?_)
    refine q_o (mz_fe (e := (65, .aload_n 1, 1, (0, 0, 0), [])) (by decide +kernel)) (pc2 := 66) rfl ?_
    refine q_o (mz_fe (e := (66, .iload_n 3, 1, (0, 0, 0), [])) (by decide +kernel)) (pc2 := 67) rfl ?_
    refine q_o (mz_fe (e := (67, .iload 6, 2, (0, 0, 0), [])) (by decide +kernel)) (pc2 := 69) rfl ?_
    refine q_o (mz_fe (e := (69, .iload 8, 2, (0, 0, 0), [])) (by decide +kernel)) (pc2 := 71) rfl ?_
    refine q_callV (N := 73) (vs := [.ref a1, .int y3, .int y6, .int ((v16 - v19) / 2)]) (rest := []) (L' := [some (.ref 27), some (.ref a1), some (.int y2), some (.int y3), some (.int y4), some (.int y5), some (.int y6), some (.int v16), some (.int ((v16 - v19) / 2))]) rfl (mz_fe (e := (71, .invokevirtual 92, 25, (73, 4, 12), [])) (by decide +kernel)) rfl (mz_inv_virt (N := 73) (k := 4) (t := 12) (st := [.int ((v16 - v19) / 2), .int y6, .int y3, .ref a1]) (rest := []) (b := a1) (vs := [.int y3, .int y6, .int ((v16 - v19) / 2)]) (h := (mz_S0, m21)) rfl rfl (Nat.le_of_ble_eq_true rfl) (Nat.le_of_ble_eq_true rfl) (st_t ha1) (by decide)) (mz_dc_lt (n := 4) rfl (by decide +kernel) (by decide +kernel)) (by decide +kernel) (by decide +kernel) (fun m24 => ?_)
    refine q_o (mz_fe (e := (74, .aload_n 1, 1, (0, 0, 0), [])) (by decide +kernel)) (pc2 := 75) rfl ?_
    refine q_getR (b := (a1 + 2)) (mz_fe (e := (75, .getfield 83, 20, (6, 1, 2), [])) (by decide +kernel)) rfl (st_t ha1) (by rw [(st_l ha1)]; decide) (st_w ha1) ?_
    refine q_o (mz_fe (e := (78, .iload 6, 2, (0, 0, 0), [])) (by decide +kernel)) (pc2 := 80) rfl ?_
    refine q_o (mz_fe (e := (80, .iload 7, 2, (0, 0, 0), [])) (by decide +kernel)) (pc2 := 82) rfl ?_
    refine q_ic (v := 2) (mz_fe (e := (82, .iconst 2, 1, (0, 0, 0), [])) (by decide +kernel)) (by decide) ?_
    refine q_o (mz_fe (e := (83, .iload 8, 2, (0, 0, 0), [])) (by decide +kernel)) (pc2 := 85) rfl ?_
    refine q_o (mz_fe (e := (85, .imul, 1, (0, 0, 0), [])) (by decide +kernel)) (pc2 := 86) rfl ?_
    refine q_o (mz_fe (e := (86, .isub, 1, (0, 0, 0), [])) (by decide +kernel)) (pc2 := 87) rfl ?_
    refine q_stAg (f := (fun x => x)) rfl (mz_fe (e := (87, .iastore, 1, (0, 0, 0), [])) (by decide +kernel)) (fun _ => rfl) rfl (st_wt ha1) (st_wl ha1) (fun g27 => ?_)
    refine q_iinc (v := y6) (c := 1) (L3 := [some (.ref 27), some (.ref a1), some (.int y2), some (.int y3), some (.int y4), some (.int y5), some (.int (y6 + 1)), some (.int v16), some (.int ((v16 - v19) / 2))]) (mz_fe (e := (88, .iinc 6 1, 3, (0, 0, 0), [])) (by decide +kernel)) rfl rfl (by decide) rfl ?_
    refine q_o (mz_fe (e := (91, .goto (-67), 3, (0, 0, 0), [])) (by decide +kernel)) (pc2 := 24) rfl ?_
    exact congrArg mz_cV (mz_At_msk (L := [some (.ref 27), some (.ref a1), some (.int y2), some (.int y3), some (.int y4), some (.int y5), some (.int (y6 + 1)), some (.int v16), some (.int ((v16 - v19) / 2))]) (L2 := [some (.ref 27), some (.ref a1), some (.int y2), some (.int y3), some (.int y4), some (.int y5), some (.int (y6 + 1)), none, none]) (mz_fe (e := (24, .iload 6, 2, (0, 0, 0), [true, true, true, true, true, true, true, false, false])) (by decide +kernel)) rfl rfl)
set_option maxRecDepth 10000 in
theorem R_X3_goDays_eq (d : Nat) (s : Nat) (x0 : Int32) (x1 : Int32) (m : MzM) (hs : mz_isS s = true) : R_X3_goDays d s x0 x1 m = H_X3_goDays_3 d s x0 x1 0 m := by
  show mz_cV (mz_T d 37 0 (mz_en (mz_xl 37) [.ref 27, .ref s, .int x0, .int x1]) [] m) = _
  rw [show mz_en (mz_xl 37) [.ref 27, .ref s, .int x0, .int x1] = [some (.ref 27), some (.ref s), some (.int x0), some (.int x1), none, none] from by rw [show mz_xl 37 = 6 from by decide +kernel]; rfl]
  refine q_ic (v := 0) (mz_fe (e := (0, .iconst 0, 1, (0, 0, 0), [])) (by decide +kernel)) (by decide) ?_
  refine q_s (mz_fe (e := (1, .istore 4, 2, (0, 0, 0), [])) (by decide +kernel)) (pc' := 3) (L' := [some (.ref 27), some (.ref s), some (.int x0), some (.int x1), some (.int 0), none]) (st' := []) rfl ?_
  exact congrArg mz_cV (mz_At_msk (L := [some (.ref 27), some (.ref s), some (.int x0), some (.int x1), some (.int 0), none]) (L2 := [some (.ref 27), some (.ref s), some (.int x0), some (.int x1), some (.int 0), none]) (mz_fe (e := (3, .iload 4, 2, (0, 0, 0), [true, true, true, true, true, false])) (by decide +kernel)) rfl rfl)
set_option maxRecDepth 10000 in
theorem H_X3_goDays_3_eq (d : Nat) (a1 : Nat) (y2 : Int32) (y3 : Int32) (y4 : Int32) (m : MzM) (ha1 : mz_isS a1 = true) : H_X3_goDays_3 d a1 y2 y3 y4 m = if y2 ≤ y4 then some m else ((R_X3_goSuits d a1 m).bind (fun m2 => (R_X8_isThumb d 4 y3 (mz_rd m a1 3) m2).bind (fun u7 => if u7.1 = 0 then (H_X3_goDays_3 d a1 y2 y3 (y4 + 1) u7.2) else ((R_X8_thumbStuff d y3 (mz_rd m a1 3) u7.2).bind (fun u11 => mz_g (mz_ok u11.1 4) (mz_g (mz_ok u11.1 4) (H_X3_goDays_3 d a1 y2 y3 (y4 + 1) (mz_wr u11.2 (a1 + 2) (u11.1 : Int32).toNatClampNeg ((mz_rd u11.2 (a1 + 2) (u11.1 : Int32).toNatClampNeg) + 1))))))))) := by
  show mz_cV (mz_T d 37 3 [some (.ref 27), some (.ref a1), some (.int y2), some (.int y3), some (.int y4), none] [] m) = _
  refine q_s (mz_fe (e := (3, .iload 4, 2, (0, 0, 0), [true, true, true, true, true, false])) (by decide +kernel)) (pc' := 5) (L' := [some (.ref 27), some (.ref a1), some (.int y2), some (.int y3), some (.int y4), none]) (st' := [.int y4]) rfl ?_
  refine q_o (mz_fe (e := (5, .iload_n 2, 1, (0, 0, 0), [])) (by decide +kernel)) (pc2 := 6) rfl ?_
  refine q_if (c := .ge) (off := 48) (t := 54) (x := y4) (y := y2) (st := []) (mz_fe (e := (6, .if_icmp .ge 48, 3, (0, 0, 0), [])) (by decide +kernel)) (fun _ => rfl) rfl rfl rfl (fun c1 => ?_) (fun c1 => ?_)
  · exact q_retV (mz_fe (e := (54, .return_, 1, (0, 0, 0), [])) (by decide +kernel)) (by decide +kernel)
  · refine q_o (mz_fe (e := (9, .aload_n 1, 1, (0, 0, 0), [])) (by decide +kernel)) (pc2 := 10) rfl ?_
    refine q_getI (mz_fe (e := (10, .getfield 40, 17, (6, 3, 0), [])) (by decide +kernel)) rfl (by decide) (st_t ha1) (by rw [(st_l ha1)]; decide) ?_
    refine q_s (mz_fe (e := (13, .istore 5, 2, (0, 0, 0), [])) (by decide +kernel)) (pc' := 15) (L' := [some (.ref 27), some (.ref a1), some (.int y2), some (.int y3), some (.int y4), some (.int (mz_rd m a1 3))]) (st' := []) rfl ?_
    refine q_o (mz_fe (e := (15, .aload_n 0, 1, (0, 0, 0), [])) (by decide +kernel)) (pc2 := 16) rfl ?_
    refine q_o (mz_fe (e := (16, .aload_n 1, 1, (0, 0, 0), [])) (by decide +kernel)) (pc2 := 17) rfl ?_
    refine q_callV (N := 38) (vs := [.ref 27, .ref a1]) (rest := []) (L' := [some (.ref 27), some (.ref a1), some (.int y2), some (.int y3), some (.int y4), some (.int (mz_rd m a1 3))]) rfl (mz_fe (e := (17, .invokevirtual 102, 26, (38, 2, 9), [])) (by decide +kernel)) rfl (mz_inv_virt (N := 38) (k := 2) (t := 9) (st := [.ref a1, .ref 27]) (rest := []) (b := 27) (vs := [.ref a1]) (h := (mz_S0, m)) rfl rfl (Nat.le_of_ble_eq_true rfl) (Nat.le_of_ble_eq_true rfl) tg_27 (by decide)) (mz_dc_lt (n := 2) rfl (by decide +kernel) (by decide +kernel)) (by decide +kernel) (by decide +kernel) (fun m2 => ?_)
    refine q_o (mz_fe (e := (20, .aload_n 0, 1, (0, 0, 0), [])) (by decide +kernel)) (pc2 := 21) rfl ?_
    refine q_getR (b := 4) (mz_fe (e := (21, .getfield 17, 14, (3, 0, 2), [])) (by decide +kernel)) rfl tg_27 (by rw [ln_27]; decide) (mz_rfS (by decide +kernel)) ?_
    refine q_o (mz_fe (e := (24, .iload_n 3, 1, (0, 0, 0), [])) (by decide +kernel)) (pc2 := 25) rfl ?_
    refine q_o (mz_fe (e := (25, .iload 5, 2, (0, 0, 0), [])) (by decide +kernel)) (pc2 := 27) rfl ?_
    refine q_callI (N := 88) (vs := [.ref 4, .int y3, .int (mz_rd m a1 3)]) (rest := []) (L' := [some (.ref 27), some (.ref a1), some (.int y2), some (.int y3), some (.int y4), some (.int (mz_rd m a1 3))]) (f := fun v6 m5 => if v6 = 0 then (H_X3_goDays_3 d a1 y2 y3 (y4 + 1) m5) else ((R_X8_thumbStuff d y3 (mz_rd m a1 3) m5).bind (fun u11 => mz_g (mz_ok u11.1 4) (mz_g (mz_ok u11.1 4) (H_X3_goDays_3 d a1 y2 y3 (y4 + 1) (mz_wr u11.2 (a1 + 2) (u11.1 : Int32).toNatClampNeg ((mz_rd u11.2 (a1 + 2) (u11.1 : Int32).toNatClampNeg) + 1))))))) rfl (mz_fe (e := (27, .invokevirtual 106, 27, (88, 3, 14), [])) (by decide +kernel)) rfl (mz_inv_virt (N := 88) (k := 3) (t := 14) (st := [.int (mz_rd m a1 3), .int y3, .ref 4]) (rest := []) (b := 4) (vs := [.int y3, .int (mz_rd m a1 3)]) (h := (mz_S0, m2)) rfl rfl (Nat.le_of_ble_eq_true rfl) (Nat.le_of_ble_eq_true rfl) tg_4 (by decide)) (mz_dc_lt (n := 3) rfl (by decide +kernel) (by decide +kernel)) (by decide +kernel) (Or.inr (by decide +kernel)) (fun v6 m5 => ?_)
    refine q_if (c := .eq) (off := 18) (t := 48) (x := v6) (y := 0) (st := []) (mz_fe (e := (30, .ifCond .eq 18, 3, (0, 0, 0), [])) (by decide +kernel)) (fun _ => rfl) rfl rfl rfl (fun c8 => ?_) (fun c8 => ?_)
    · refine q_iinc (v := y4) (c := 1) (L3 := [some (.ref 27), some (.ref a1), some (.int y2), some (.int y3), some (.int (y4 + 1)), some (.int (mz_rd m a1 3))]) (mz_fe (e := (48, .iinc 4 1, 3, (0, 0, 0), [])) (by decide +kernel)) rfl rfl (by decide) rfl ?_
      refine q_o (mz_fe (e := (51, .goto (-48), 3, (0, 0, 0), [])) (by decide +kernel)) (pc2 := 3) rfl ?_
      exact congrArg mz_cV (mz_At_msk (L := [some (.ref 27), some (.ref a1), some (.int y2), some (.int y3), some (.int (y4 + 1)), some (.int (mz_rd m a1 3))]) (L2 := [some (.ref 27), some (.ref a1), some (.int y2), some (.int y3), some (.int (y4 + 1)), none]) (mz_fe (e := (3, .iload 4, 2, (0, 0, 0), [true, true, true, true, true, false])) (by decide +kernel)) rfl rfl)
    · refine q_o (mz_fe (e := (33, .aload_n 1, 1, (0, 0, 0), [])) (by decide +kernel)) (pc2 := 34) rfl ?_
      refine q_getR (b := (a1 + 2)) (mz_fe (e := (34, .getfield 83, 20, (6, 1, 2), [])) (by decide +kernel)) rfl (st_t ha1) (by rw [(st_l ha1)]; decide) (st_w ha1) ?_
      refine q_o (mz_fe (e := (37, .iload_n 3, 1, (0, 0, 0), [])) (by decide +kernel)) (pc2 := 38) rfl ?_
      refine q_o (mz_fe (e := (38, .iload 5, 2, (0, 0, 0), [])) (by decide +kernel)) (pc2 := 40) rfl ?_
      refine q_callI (N := 89) (vs := [.int y3, .int (mz_rd m a1 3)]) (rest := [.ref (a1 + 2)]) (L' := [some (.ref 27), some (.ref a1), some (.int y2), some (.int y3), some (.int y4), some (.int (mz_rd m a1 3))]) (f := fun v10 m9 => mz_g (mz_ok v10 4) (mz_g (mz_ok v10 4) (H_X3_goDays_3 d a1 y2 y3 (y4 + 1) (mz_wr m9 (a1 + 2) (v10 : Int32).toNatClampNeg ((mz_rd m9 (a1 + 2) (v10 : Int32).toNatClampNeg) + 1))))) rfl (mz_fe (e := (40, .invokestatic 110, 28, (89, 2, 1000), [])) (by decide +kernel)) rfl (mz_inv_stat (N := 89) (k := 2) (st := [.int (mz_rd m a1 3), .int y3, .ref (a1 + 2)]) (rest := [.ref (a1 + 2)]) (vs := [.int y3, .int (mz_rd m a1 3)]) (h := (mz_S0, m5)) rfl rfl (Nat.le_of_ble_eq_true rfl) (Nat.le_of_ble_eq_true rfl)) (mz_dc_lt (n := 2) rfl (by decide +kernel) (by decide +kernel)) (by decide +kernel) (Or.inl (by decide +kernel)) (fun v10 m9 => ?_)
      refine q_o (mz_fe (e := (43, .dup2, 1, (0, 0, 0), [])) (by decide +kernel)) (pc2 := 44) rfl ?_
      refine q_ialdg rfl (mz_fe (e := (44, .iaload, 1, (0, 0, 0), [])) (by decide +kernel)) rfl (by omega) (st_wt ha1) (st_wl ha1) (fun g12 => ?_)
      refine q_ic (v := 1) (mz_fe (e := (45, .iconst 1, 1, (0, 0, 0), [])) (by decide +kernel)) (by decide) ?_
      refine q_o (mz_fe (e := (46, .iadd, 1, (0, 0, 0), [])) (by decide +kernel)) (pc2 := 47) rfl ?_
      refine q_stAg (f := (fun x => x)) rfl (mz_fe (e := (47, .iastore, 1, (0, 0, 0), [])) (by decide +kernel)) (fun _ => rfl) rfl (st_wt ha1) (st_wl ha1) (fun g13 => ?_)
      refine q_iinc (v := y4) (c := 1) (L3 := [some (.ref 27), some (.ref a1), some (.int y2), some (.int y3), some (.int (y4 + 1)), some (.int (mz_rd m a1 3))]) (mz_fe (e := (48, .iinc 4 1, 3, (0, 0, 0), [])) (by decide +kernel)) rfl rfl (by decide) rfl ?_
      refine q_o (mz_fe (e := (51, .goto (-48), 3, (0, 0, 0), [])) (by decide +kernel)) (pc2 := 3) rfl ?_
      exact congrArg mz_cV (mz_At_msk (L := [some (.ref 27), some (.ref a1), some (.int y2), some (.int y3), some (.int (y4 + 1)), some (.int (mz_rd m a1 3))]) (L2 := [some (.ref 27), some (.ref a1), some (.int y2), some (.int y3), some (.int (y4 + 1)), none]) (mz_fe (e := (3, .iload 4, 2, (0, 0, 0), [true, true, true, true, true, false])) (by decide +kernel)) rfl rfl)
set_option maxRecDepth 10000 in
theorem R_X3_goSuits_eq (d : Nat) (s : Nat) (m : MzM) (hs : mz_isS s = true) : R_X3_goSuits d s m = H_X3_goSuits_2 d s 0 m := by
  show mz_cV (mz_T d 38 0 (mz_en (mz_xl 38) [.ref 27, .ref s]) [] m) = _
  rw [show mz_en (mz_xl 38) [.ref 27, .ref s] = [some (.ref 27), some (.ref s), none, none, none] from by rw [show mz_xl 38 = 5 from by decide +kernel]; rfl]
  refine q_ic (v := 0) (mz_fe (e := (0, .iconst 0, 1, (0, 0, 0), [])) (by decide +kernel)) (by decide) ?_
  refine q_s (mz_fe (e := (1, .istore_n 2, 1, (0, 0, 0), [])) (by decide +kernel)) (pc' := 2) (L' := [some (.ref 27), some (.ref s), some (.int 0), none, none]) (st' := []) rfl ?_
  exact congrArg mz_cV (mz_At_msk (L := [some (.ref 27), some (.ref s), some (.int 0), none, none]) (L2 := [some (.ref 27), some (.ref s), some (.int 0), none, none]) (mz_fe (e := (2, .iload_n 2, 1, (0, 0, 0), [true, true, true, false, false])) (by decide +kernel)) rfl rfl)
set_option maxRecDepth 10000 in
theorem H_X3_goSuits_2_eq (d : Nat) (a1 : Nat) (y2 : Int32) (m : MzM) (ha1 : mz_isS a1 = true) : H_X3_goSuits_2 d a1 y2 m = if (mz_rd m 4 5) ≤ y2 then (some (mz_wr m a1 3 ((mz_rd m a1 3) + 1))) else ((R_X8_suitPart d 4 y2 0 m).bind (fun u4 => (R_X8_suitPart d 4 y2 1 u4.2).bind (fun u7 => (R_X8_isDue d 4 y2 (mz_rd u7.2 a1 3) u7.2).bind (fun u10 => if u10.1 = 0 then (H_X3_goSuits_2 d a1 (y2 + 1) u10.2) else ((R_X3_quarrel d a1 u4.1 u7.1 u10.2).bind (fun u14 => if u14.1 = 0 then (H_X3_goSuits_2 d a1 (y2 + 1) u14.2) else ((R_X3_putThrough d a1 u4.1 u7.1 u14.2).bind (fun m16 => H_X3_goSuits_2 d a1 (y2 + 1) m16)))))))) := by
  show mz_cV (mz_T d 38 2 [some (.ref 27), some (.ref a1), some (.int y2), none, none] [] m) = _
  refine q_s (mz_fe (e := (2, .iload_n 2, 1, (0, 0, 0), [true, true, true, false, false])) (by decide +kernel)) (pc' := 3) (L' := [some (.ref 27), some (.ref a1), some (.int y2), none, none]) (st' := [.int y2]) rfl ?_
  refine q_o (mz_fe (e := (3, .aload_n 0, 1, (0, 0, 0), [])) (by decide +kernel)) (pc2 := 4) rfl ?_
  refine q_getR (b := 4) (mz_fe (e := (4, .getfield 17, 14, (3, 0, 2), [])) (by decide +kernel)) rfl tg_27 (by rw [ln_27]; decide) (mz_rfS (by decide +kernel)) ?_
  refine q_getI (mz_fe (e := (7, .getfield 113, 23, (8, 5, 0), [])) (by decide +kernel)) rfl (by decide) tg_4 (by rw [ln_4]; decide) ?_
  refine q_if (c := .ge) (off := 64) (t := 74) (x := y2) (y := (mz_rd m 4 5)) (st := []) (mz_fe (e := (10, .if_icmp .ge 64, 3, (0, 0, 0), [])) (by decide +kernel)) (fun _ => rfl) rfl rfl rfl (fun c1 => ?_) (fun c1 => ?_)
  · refine q_o (mz_fe (e := (74, .aload_n 1, 1, (0, 0, 0), [])) (by decide +kernel)) (pc2 := 75) rfl ?_
    refine q_o (mz_fe (e := (75, .dup, 1, (0, 0, 0), [])) (by decide +kernel)) (pc2 := 76) rfl ?_
    refine q_getI (mz_fe (e := (76, .getfield 40, 17, (6, 3, 0), [])) (by decide +kernel)) rfl (by decide) (st_t ha1) (by rw [(st_l ha1)]; decide) ?_
    refine q_ic (v := 1) (mz_fe (e := (79, .iconst 1, 1, (0, 0, 0), [])) (by decide +kernel)) (by decide) ?_
    refine q_o (mz_fe (e := (80, .iadd, 1, (0, 0, 0), [])) (by decide +kernel)) (pc2 := 81) rfl ?_
    refine q_putI (mz_fe (e := (81, .putfield 40, 17, (6, 3, 0), [])) (by decide +kernel)) rfl (st_t ha1) (by rw [(st_l ha1)]; decide) ?_
    exact q_retV (mz_fe (e := (84, .return_, 1, (0, 0, 0), [])) (by decide +kernel)) (by decide +kernel)
  · refine q_o (mz_fe (e := (13, .aload_n 0, 1, (0, 0, 0), [])) (by decide +kernel)) (pc2 := 14) rfl ?_
    refine q_getR (b := 4) (mz_fe (e := (14, .getfield 17, 14, (3, 0, 2), [])) (by decide +kernel)) rfl tg_27 (by rw [ln_27]; decide) (mz_rfS (by decide +kernel)) ?_
    refine q_o (mz_fe (e := (17, .iload_n 2, 1, (0, 0, 0), [])) (by decide +kernel)) (pc2 := 18) rfl ?_
    refine q_ic (v := 0) (mz_fe (e := (18, .iconst 0, 1, (0, 0, 0), [])) (by decide +kernel)) (by decide) ?_
    refine q_callI (N := 86) (vs := [.ref 4, .int y2, .int 0]) (rest := []) (L' := [some (.ref 27), some (.ref a1), some (.int y2), none, none]) (f := fun v3 m2 => (R_X8_suitPart d 4 y2 1 m2).bind (fun u7 => (R_X8_isDue d 4 y2 (mz_rd u7.2 a1 3) u7.2).bind (fun u10 => if u10.1 = 0 then (H_X3_goSuits_2 d a1 (y2 + 1) u10.2) else ((R_X3_quarrel d a1 v3 u7.1 u10.2).bind (fun u14 => if u14.1 = 0 then (H_X3_goSuits_2 d a1 (y2 + 1) u14.2) else ((R_X3_putThrough d a1 v3 u7.1 u14.2).bind (fun m16 => H_X3_goSuits_2 d a1 (y2 + 1) m16))))))) rfl (mz_fe (e := (19, .invokevirtual 116, 29, (86, 3, 14), [])) (by decide +kernel)) rfl (mz_inv_virt (N := 86) (k := 3) (t := 14) (st := [.int 0, .int y2, .ref 4]) (rest := []) (b := 4) (vs := [.int y2, .int 0]) (h := (mz_S0, m)) rfl rfl (Nat.le_of_ble_eq_true rfl) (Nat.le_of_ble_eq_true rfl) tg_4 (by decide)) (mz_dc_lt (n := 3) rfl (by decide +kernel) (by decide +kernel)) (by decide +kernel) (Or.inl (by decide +kernel)) (fun v3 m2 => ?_)
    refine q_s (mz_fe (e := (22, .istore_n 3, 1, (0, 0, 0), [])) (by decide +kernel)) (pc' := 23) (L' := [some (.ref 27), some (.ref a1), some (.int y2), some (.int v3), none]) (st' := []) rfl ?_
    refine q_o (mz_fe (e := (23, .aload_n 0, 1, (0, 0, 0), [])) (by decide +kernel)) (pc2 := 24) rfl ?_
    refine q_getR (b := 4) (mz_fe (e := (24, .getfield 17, 14, (3, 0, 2), [])) (by decide +kernel)) rfl tg_27 (by rw [ln_27]; decide) (mz_rfS (by decide +kernel)) ?_
    refine q_o (mz_fe (e := (27, .iload_n 2, 1, (0, 0, 0), [])) (by decide +kernel)) (pc2 := 28) rfl ?_
    refine q_ic (v := 1) (mz_fe (e := (28, .iconst 1, 1, (0, 0, 0), [])) (by decide +kernel)) (by decide) ?_
    refine q_callI (N := 86) (vs := [.ref 4, .int y2, .int 1]) (rest := []) (L' := [some (.ref 27), some (.ref a1), some (.int y2), some (.int v3), none]) (f := fun v6 m5 => (R_X8_isDue d 4 y2 (mz_rd m5 a1 3) m5).bind (fun u10 => if u10.1 = 0 then (H_X3_goSuits_2 d a1 (y2 + 1) u10.2) else ((R_X3_quarrel d a1 v3 v6 u10.2).bind (fun u14 => if u14.1 = 0 then (H_X3_goSuits_2 d a1 (y2 + 1) u14.2) else ((R_X3_putThrough d a1 v3 v6 u14.2).bind (fun m16 => H_X3_goSuits_2 d a1 (y2 + 1) m16)))))) rfl (mz_fe (e := (29, .invokevirtual 116, 29, (86, 3, 14), [])) (by decide +kernel)) rfl (mz_inv_virt (N := 86) (k := 3) (t := 14) (st := [.int 1, .int y2, .ref 4]) (rest := []) (b := 4) (vs := [.int y2, .int 1]) (h := (mz_S0, m2)) rfl rfl (Nat.le_of_ble_eq_true rfl) (Nat.le_of_ble_eq_true rfl) tg_4 (by decide)) (mz_dc_lt (n := 3) rfl (by decide +kernel) (by decide +kernel)) (by decide +kernel) (Or.inl (by decide +kernel)) (fun v6 m5 => ?_)
    refine q_s (mz_fe (e := (32, .istore 4, 2, (0, 0, 0), [])) (by decide +kernel)) (pc' := 34) (L' := [some (.ref 27), some (.ref a1), some (.int y2), some (.int v3), some (.int v6)]) (st' := []) rfl ?_
    refine q_o (mz_fe (e := (34, .aload_n 0, 1, (0, 0, 0), [])) (by decide +kernel)) (pc2 := 35) rfl ?_
    refine q_getR (b := 4) (mz_fe (e := (35, .getfield 17, 14, (3, 0, 2), [])) (by decide +kernel)) rfl tg_27 (by rw [ln_27]; decide) (mz_rfS (by decide +kernel)) ?_
    refine q_o (mz_fe (e := (38, .iload_n 2, 1, (0, 0, 0), [])) (by decide +kernel)) (pc2 := 39) rfl ?_
    refine q_o (mz_fe (e := (39, .aload_n 1, 1, (0, 0, 0), [])) (by decide +kernel)) (pc2 := 40) rfl ?_
    refine q_getI (mz_fe (e := (40, .getfield 40, 17, (6, 3, 0), [])) (by decide +kernel)) rfl (by decide) (st_t ha1) (by rw [(st_l ha1)]; decide) ?_
    refine q_callI (N := 87) (vs := [.ref 4, .int y2, .int (mz_rd m5 a1 3)]) (rest := []) (L' := [some (.ref 27), some (.ref a1), some (.int y2), some (.int v3), some (.int v6)]) (f := fun v9 m8 => if v9 = 0 then (H_X3_goSuits_2 d a1 (y2 + 1) m8) else ((R_X3_quarrel d a1 v3 v6 m8).bind (fun u14 => if u14.1 = 0 then (H_X3_goSuits_2 d a1 (y2 + 1) u14.2) else ((R_X3_putThrough d a1 v3 v6 u14.2).bind (fun m16 => H_X3_goSuits_2 d a1 (y2 + 1) m16))))) rfl (mz_fe (e := (43, .invokevirtual 119, 30, (87, 3, 14), [])) (by decide +kernel)) rfl (mz_inv_virt (N := 87) (k := 3) (t := 14) (st := [.int (mz_rd m5 a1 3), .int y2, .ref 4]) (rest := []) (b := 4) (vs := [.int y2, .int (mz_rd m5 a1 3)]) (h := (mz_S0, m5)) rfl rfl (Nat.le_of_ble_eq_true rfl) (Nat.le_of_ble_eq_true rfl) tg_4 (by decide)) (mz_dc_lt (n := 3) rfl (by decide +kernel) (by decide +kernel)) (by decide +kernel) (Or.inr (by decide +kernel)) (fun v9 m8 => ?_)
    refine q_if (c := .eq) (off := 22) (t := 68) (x := v9) (y := 0) (st := []) (mz_fe (e := (46, .ifCond .eq 22, 3, (0, 0, 0), [])) (by decide +kernel)) (fun _ => rfl) rfl rfl rfl (fun c11 => ?_) (fun c11 => ?_)
    · refine q_iinc (v := y2) (c := 1) (L3 := [some (.ref 27), some (.ref a1), some (.int (y2 + 1)), some (.int v3), some (.int v6)]) (mz_fe (e := (68, .iinc 2 1, 3, (0, 0, 0), [])) (by decide +kernel)) rfl rfl (by decide) rfl ?_
      refine q_o (mz_fe (e := (71, .goto (-69), 3, (0, 0, 0), [])) (by decide +kernel)) (pc2 := 2) rfl ?_
      exact congrArg mz_cV (mz_At_msk (L := [some (.ref 27), some (.ref a1), some (.int (y2 + 1)), some (.int v3), some (.int v6)]) (L2 := [some (.ref 27), some (.ref a1), some (.int (y2 + 1)), none, none]) (mz_fe (e := (2, .iload_n 2, 1, (0, 0, 0), [true, true, true, false, false])) (by decide +kernel)) rfl rfl)
    · refine q_o (mz_fe (e := (49, .aload_n 0, 1, (0, 0, 0), [])) (by decide +kernel)) (pc2 := 50) rfl ?_
      refine q_o (mz_fe (e := (50, .aload_n 1, 1, (0, 0, 0), [])) (by decide +kernel)) (pc2 := 51) rfl ?_
      refine q_o (mz_fe (e := (51, .iload_n 3, 1, (0, 0, 0), [])) (by decide +kernel)) (pc2 := 52) rfl ?_
      refine q_o (mz_fe (e := (52, .iload 4, 2, (0, 0, 0), [])) (by decide +kernel)) (pc2 := 54) rfl ?_
      refine q_callI (N := 28) (vs := [.ref 27, .ref a1, .int v3, .int v6]) (rest := []) (L' := [some (.ref 27), some (.ref a1), some (.int y2), some (.int v3), some (.int v6)]) (f := fun v13 m12 => if v13 = 0 then (H_X3_goSuits_2 d a1 (y2 + 1) m12) else ((R_X3_putThrough d a1 v3 v6 m12).bind (fun m16 => H_X3_goSuits_2 d a1 (y2 + 1) m16))) rfl (mz_fe (e := (54, .invokevirtual 122, 31, (28, 4, 9), [])) (by decide +kernel)) rfl (mz_inv_virt (N := 28) (k := 4) (t := 9) (st := [.int v6, .int v3, .ref a1, .ref 27]) (rest := []) (b := 27) (vs := [.ref a1, .int v3, .int v6]) (h := (mz_S0, m8)) rfl rfl (Nat.le_of_ble_eq_true rfl) (Nat.le_of_ble_eq_true rfl) tg_27 (by decide)) (mz_dc_lt (n := 4) rfl (by decide +kernel) (by decide +kernel)) (by decide +kernel) (Or.inr (by decide +kernel)) (fun v13 m12 => ?_)
      refine q_if (c := .eq) (off := 11) (t := 68) (x := v13) (y := 0) (st := []) (mz_fe (e := (57, .ifCond .eq 11, 3, (0, 0, 0), [])) (by decide +kernel)) (fun _ => rfl) rfl rfl rfl (fun c15 => ?_) (fun c15 => ?_)
      · refine q_iinc (v := y2) (c := 1) (L3 := [some (.ref 27), some (.ref a1), some (.int (y2 + 1)), some (.int v3), some (.int v6)]) (mz_fe (e := (68, .iinc 2 1, 3, (0, 0, 0), [])) (by decide +kernel)) rfl rfl (by decide) rfl ?_
        refine q_o (mz_fe (e := (71, .goto (-69), 3, (0, 0, 0), [])) (by decide +kernel)) (pc2 := 2) rfl ?_
        exact congrArg mz_cV (mz_At_msk (L := [some (.ref 27), some (.ref a1), some (.int (y2 + 1)), some (.int v3), some (.int v6)]) (L2 := [some (.ref 27), some (.ref a1), some (.int (y2 + 1)), none, none]) (mz_fe (e := (2, .iload_n 2, 1, (0, 0, 0), [true, true, true, false, false])) (by decide +kernel)) rfl rfl)
      · refine q_o (mz_fe (e := (60, .aload_n 0, 1, (0, 0, 0), [])) (by decide +kernel)) (pc2 := 61) rfl ?_
        refine q_o (mz_fe (e := (61, .aload_n 1, 1, (0, 0, 0), [])) (by decide +kernel)) (pc2 := 62) rfl ?_
        refine q_o (mz_fe (e := (62, .iload_n 3, 1, (0, 0, 0), [])) (by decide +kernel)) (pc2 := 63) rfl ?_
        refine q_o (mz_fe (e := (63, .iload 4, 2, (0, 0, 0), [])) (by decide +kernel)) (pc2 := 65) rfl ?_
        refine q_callV (N := 36) (vs := [.ref 27, .ref a1, .int v3, .int v6]) (rest := []) (L' := [some (.ref 27), some (.ref a1), some (.int y2), some (.int v3), some (.int v6)]) rfl (mz_fe (e := (65, .invokevirtual 126, 32, (36, 4, 9), [])) (by decide +kernel)) rfl (mz_inv_virt (N := 36) (k := 4) (t := 9) (st := [.int v6, .int v3, .ref a1, .ref 27]) (rest := []) (b := 27) (vs := [.ref a1, .int v3, .int v6]) (h := (mz_S0, m12)) rfl rfl (Nat.le_of_ble_eq_true rfl) (Nat.le_of_ble_eq_true rfl) tg_27 (by decide)) (mz_dc_lt (n := 4) rfl (by decide +kernel) (by decide +kernel)) (by decide +kernel) (by decide +kernel) (fun m16 => ?_)
        refine q_iinc (v := y2) (c := 1) (L3 := [some (.ref 27), some (.ref a1), some (.int (y2 + 1)), some (.int v3), some (.int v6)]) (mz_fe (e := (68, .iinc 2 1, 3, (0, 0, 0), [])) (by decide +kernel)) rfl rfl (by decide) rfl ?_
        refine q_o (mz_fe (e := (71, .goto (-69), 3, (0, 0, 0), [])) (by decide +kernel)) (pc2 := 2) rfl ?_
        exact congrArg mz_cV (mz_At_msk (L := [some (.ref 27), some (.ref a1), some (.int (y2 + 1)), some (.int v3), some (.int v6)]) (L2 := [some (.ref 27), some (.ref a1), some (.int (y2 + 1)), none, none]) (mz_fe (e := (2, .iload_n 2, 1, (0, 0, 0), [true, true, true, false, false])) (by decide +kernel)) rfl rfl)
set_option maxRecDepth 10000 in
theorem R_X3_anySuitQuarrels_eq (d : Nat) (s : Nat) (m : MzM) (hs : mz_isS s = true) : R_X3_anySuitQuarrels d s m = H_X3_anySuitQuarrels_2 d s 0 m := by
  show mz_cI (mz_T d 39 0 (mz_en (mz_xl 39) [.ref 27, .ref s]) [] m) = _
  rw [show mz_en (mz_xl 39) [.ref 27, .ref s] = [some (.ref 27), some (.ref s), none] from by rw [show mz_xl 39 = 3 from by decide +kernel]; rfl]
  refine q_ic (v := 0) (mz_fe (e := (0, .iconst 0, 1, (0, 0, 0), [])) (by decide +kernel)) (by decide) ?_
  refine q_s (mz_fe (e := (1, .istore_n 2, 1, (0, 0, 0), [])) (by decide +kernel)) (pc' := 2) (L' := [some (.ref 27), some (.ref s), some (.int 0)]) (st' := []) rfl ?_
  exact congrArg mz_cI (mz_At_msk (L := [some (.ref 27), some (.ref s), some (.int 0)]) (L2 := [some (.ref 27), some (.ref s), some (.int 0)]) (mz_fe (e := (2, .iload_n 2, 1, (0, 0, 0), [true, true, true])) (by decide +kernel)) rfl rfl)
set_option maxRecDepth 10000 in
theorem H_X3_anySuitQuarrels_2_eq (d : Nat) (a1 : Nat) (y2 : Int32) (m : MzM) (ha1 : mz_isS a1 = true) : H_X3_anySuitQuarrels_2 d a1 y2 m = if (mz_rd m 4 5) ≤ y2 then (some (0, m)) else ((R_X8_suitPart d 4 y2 0 m).bind (fun u4 => (R_X8_suitPart d 4 y2 1 u4.2).bind (fun u7 => (R_X3_quarrel d a1 u4.1 u7.1 u7.2).bind (fun u10 => if u10.1 = 0 then (H_X3_anySuitQuarrels_2 d a1 (y2 + 1) u10.2) else (some (1, u10.2)))))) := by
  show mz_cI (mz_T d 39 2 [some (.ref 27), some (.ref a1), some (.int y2)] [] m) = _
  refine q_s (mz_fe (e := (2, .iload_n 2, 1, (0, 0, 0), [true, true, true])) (by decide +kernel)) (pc' := 3) (L' := [some (.ref 27), some (.ref a1), some (.int y2)]) (st' := [.int y2]) rfl ?_
  refine q_o (mz_fe (e := (3, .aload_n 0, 1, (0, 0, 0), [])) (by decide +kernel)) (pc2 := 4) rfl ?_
  refine q_getR (b := 4) (mz_fe (e := (4, .getfield 17, 14, (3, 0, 2), [])) (by decide +kernel)) rfl tg_27 (by rw [ln_27]; decide) (mz_rfS (by decide +kernel)) ?_
  refine q_getI (mz_fe (e := (7, .getfield 113, 23, (8, 5, 0), [])) (by decide +kernel)) rfl (by decide) tg_4 (by rw [ln_4]; decide) ?_
  refine q_if (c := .ge) (off := 37) (t := 47) (x := y2) (y := (mz_rd m 4 5)) (st := []) (mz_fe (e := (10, .if_icmp .ge 37, 3, (0, 0, 0), [])) (by decide +kernel)) (fun _ => rfl) rfl rfl rfl (fun c1 => ?_) (fun c1 => ?_)
  · refine q_ic (v := 0) (mz_fe (e := (47, .iconst 0, 1, (0, 0, 0), [])) (by decide +kernel)) (by decide) ?_
    exact q_retZ (mz_fe (e := (48, .ireturn, 1, (0, 0, 0), [])) (by decide +kernel)) (by decide +kernel) (by decide)
  · refine q_o (mz_fe (e := (13, .aload_n 0, 1, (0, 0, 0), [])) (by decide +kernel)) (pc2 := 14) rfl ?_
    refine q_o (mz_fe (e := (14, .aload_n 1, 1, (0, 0, 0), [])) (by decide +kernel)) (pc2 := 15) rfl ?_
    refine q_o (mz_fe (e := (15, .aload_n 0, 1, (0, 0, 0), [])) (by decide +kernel)) (pc2 := 16) rfl ?_
    refine q_getR (b := 4) (mz_fe (e := (16, .getfield 17, 14, (3, 0, 2), [])) (by decide +kernel)) rfl tg_27 (by rw [ln_27]; decide) (mz_rfS (by decide +kernel)) ?_
    refine q_o (mz_fe (e := (19, .iload_n 2, 1, (0, 0, 0), [])) (by decide +kernel)) (pc2 := 20) rfl ?_
    refine q_ic (v := 0) (mz_fe (e := (20, .iconst 0, 1, (0, 0, 0), [])) (by decide +kernel)) (by decide) ?_
    refine q_callI (N := 86) (vs := [.ref 4, .int y2, .int 0]) (rest := [.ref a1, .ref 27]) (L' := [some (.ref 27), some (.ref a1), some (.int y2)]) (f := fun v3 m2 => (R_X8_suitPart d 4 y2 1 m2).bind (fun u7 => (R_X3_quarrel d a1 v3 u7.1 u7.2).bind (fun u10 => if u10.1 = 0 then (H_X3_anySuitQuarrels_2 d a1 (y2 + 1) u10.2) else (some (1, u10.2))))) rfl (mz_fe (e := (21, .invokevirtual 116, 29, (86, 3, 14), [])) (by decide +kernel)) rfl (mz_inv_virt (N := 86) (k := 3) (t := 14) (st := [.int 0, .int y2, .ref 4, .ref a1, .ref 27]) (rest := [.ref a1, .ref 27]) (b := 4) (vs := [.int y2, .int 0]) (h := (mz_S0, m)) rfl rfl (Nat.le_of_ble_eq_true rfl) (Nat.le_of_ble_eq_true rfl) tg_4 (by decide)) (mz_dc_lt (n := 3) rfl (by decide +kernel) (by decide +kernel)) (by decide +kernel) (Or.inl (by decide +kernel)) (fun v3 m2 => ?_)
    refine q_o (mz_fe (e := (24, .aload_n 0, 1, (0, 0, 0), [])) (by decide +kernel)) (pc2 := 25) rfl ?_
    refine q_getR (b := 4) (mz_fe (e := (25, .getfield 17, 14, (3, 0, 2), [])) (by decide +kernel)) rfl tg_27 (by rw [ln_27]; decide) (mz_rfS (by decide +kernel)) ?_
    refine q_o (mz_fe (e := (28, .iload_n 2, 1, (0, 0, 0), [])) (by decide +kernel)) (pc2 := 29) rfl ?_
    refine q_ic (v := 1) (mz_fe (e := (29, .iconst 1, 1, (0, 0, 0), [])) (by decide +kernel)) (by decide) ?_
    refine q_callI (N := 86) (vs := [.ref 4, .int y2, .int 1]) (rest := [.int v3, .ref a1, .ref 27]) (L' := [some (.ref 27), some (.ref a1), some (.int y2)]) (f := fun v6 m5 => (R_X3_quarrel d a1 v3 v6 m5).bind (fun u10 => if u10.1 = 0 then (H_X3_anySuitQuarrels_2 d a1 (y2 + 1) u10.2) else (some (1, u10.2)))) rfl (mz_fe (e := (30, .invokevirtual 116, 29, (86, 3, 14), [])) (by decide +kernel)) rfl (mz_inv_virt (N := 86) (k := 3) (t := 14) (st := [.int 1, .int y2, .ref 4, .int v3, .ref a1, .ref 27]) (rest := [.int v3, .ref a1, .ref 27]) (b := 4) (vs := [.int y2, .int 1]) (h := (mz_S0, m2)) rfl rfl (Nat.le_of_ble_eq_true rfl) (Nat.le_of_ble_eq_true rfl) tg_4 (by decide)) (mz_dc_lt (n := 3) rfl (by decide +kernel) (by decide +kernel)) (by decide +kernel) (Or.inl (by decide +kernel)) (fun v6 m5 => ?_)
    refine q_callI (N := 28) (vs := [.ref 27, .ref a1, .int v3, .int v6]) (rest := []) (L' := [some (.ref 27), some (.ref a1), some (.int y2)]) (f := fun v9 m8 => if v9 = 0 then (H_X3_anySuitQuarrels_2 d a1 (y2 + 1) m8) else (some (1, m8))) rfl (mz_fe (e := (33, .invokevirtual 122, 31, (28, 4, 9), [])) (by decide +kernel)) rfl (mz_inv_virt (N := 28) (k := 4) (t := 9) (st := [.int v6, .int v3, .ref a1, .ref 27]) (rest := []) (b := 27) (vs := [.ref a1, .int v3, .int v6]) (h := (mz_S0, m5)) rfl rfl (Nat.le_of_ble_eq_true rfl) (Nat.le_of_ble_eq_true rfl) tg_27 (by decide)) (mz_dc_lt (n := 4) rfl (by decide +kernel) (by decide +kernel)) (by decide +kernel) (Or.inr (by decide +kernel)) (fun v9 m8 => ?_)
    refine q_if (c := .eq) (off := 5) (t := 41) (x := v9) (y := 0) (st := []) (mz_fe (e := (36, .ifCond .eq 5, 3, (0, 0, 0), [])) (by decide +kernel)) (fun _ => rfl) rfl rfl rfl (fun c11 => ?_) (fun c11 => ?_)
    · refine q_iinc (v := y2) (c := 1) (L3 := [some (.ref 27), some (.ref a1), some (.int (y2 + 1))]) (mz_fe (e := (41, .iinc 2 1, 3, (0, 0, 0), [])) (by decide +kernel)) rfl rfl (by decide) rfl ?_
      refine q_o (mz_fe (e := (44, .goto (-42), 3, (0, 0, 0), [])) (by decide +kernel)) (pc2 := 2) rfl ?_
      exact congrArg mz_cI (mz_At_msk (L := [some (.ref 27), some (.ref a1), some (.int (y2 + 1))]) (L2 := [some (.ref 27), some (.ref a1), some (.int (y2 + 1))]) (mz_fe (e := (2, .iload_n 2, 1, (0, 0, 0), [true, true, true])) (by decide +kernel)) rfl rfl)
    · refine q_ic (v := 1) (mz_fe (e := (39, .iconst 1, 1, (0, 0, 0), [])) (by decide +kernel)) (by decide) ?_
      exact q_retZ (mz_fe (e := (40, .ireturn, 1, (0, 0, 0), [])) (by decide +kernel)) (by decide +kernel) (by decide)
set_option maxRecDepth 10000 in
theorem R_X3_foesOf_eq (d : Nat) (s : Nat) (x0 : Int32) (m : MzM) (hs : mz_isS s = true) : R_X3_foesOf d s x0 m = H_X3_foesOf_5 d s x0 0 0 m := by
  show mz_cI (mz_T d 40 0 (mz_en (mz_xl 40) [.ref 27, .ref s, .int x0]) [] m) = _
  rw [show mz_en (mz_xl 40) [.ref 27, .ref s, .int x0] = [some (.ref 27), some (.ref s), some (.int x0), none, none] from by rw [show mz_xl 40 = 5 from by decide +kernel]; rfl]
  refine q_ic (v := 0) (mz_fe (e := (0, .iconst 0, 1, (0, 0, 0), [])) (by decide +kernel)) (by decide) ?_
  refine q_s (mz_fe (e := (1, .istore_n 3, 1, (0, 0, 0), [])) (by decide +kernel)) (pc' := 2) (L' := [some (.ref 27), some (.ref s), some (.int x0), some (.int 0), none]) (st' := []) rfl ?_
  refine q_ic (v := 0) (mz_fe (e := (2, .iconst 0, 1, (0, 0, 0), [])) (by decide +kernel)) (by decide) ?_
  refine q_s (mz_fe (e := (3, .istore 4, 2, (0, 0, 0), [])) (by decide +kernel)) (pc' := 5) (L' := [some (.ref 27), some (.ref s), some (.int x0), some (.int 0), some (.int 0)]) (st' := []) rfl ?_
  exact congrArg mz_cI (mz_At_msk (L := [some (.ref 27), some (.ref s), some (.int x0), some (.int 0), some (.int 0)]) (L2 := [some (.ref 27), some (.ref s), some (.int x0), some (.int 0), some (.int 0)]) (mz_fe (e := (5, .iload 4, 2, (0, 0, 0), [true, true, true, true, true])) (by decide +kernel)) rfl rfl)
set_option maxRecDepth 10000 in
theorem H_X3_foesOf_5_eq (d : Nat) (a1 : Nat) (y2 : Int32) (y3 : Int32) (y4 : Int32) (m : MzM) (ha1 : mz_isS a1 = true) : H_X3_foesOf_5 d a1 y2 y3 y4 m = if (mz_rd m 4 4) ≤ y4 then (some (y3, m)) else (if y4 = y2 then (H_X3_foesOf_5 d a1 y2 y3 (y4 + 1) m) else ((R_X3_quarrel d a1 y2 y4 m).bind (fun u5 => if u5.1 = 0 then (H_X3_foesOf_5 d a1 y2 y3 (y4 + 1) u5.2) else (H_X3_foesOf_5 d a1 y2 (y3 ||| ((1 : Int32) <<< (y4 &&& 31))) (y4 + 1) u5.2)))) := by
  show mz_cI (mz_T d 40 5 [some (.ref 27), some (.ref a1), some (.int y2), some (.int y3), some (.int y4)] [] m) = _
  refine q_s (mz_fe (e := (5, .iload 4, 2, (0, 0, 0), [true, true, true, true, true])) (by decide +kernel)) (pc' := 7) (L' := [some (.ref 27), some (.ref a1), some (.int y2), some (.int y3), some (.int y4)]) (st' := [.int y4]) rfl ?_
  refine q_o (mz_fe (e := (7, .aload_n 0, 1, (0, 0, 0), [])) (by decide +kernel)) (pc2 := 8) rfl ?_
  refine q_getR (b := 4) (mz_fe (e := (8, .getfield 17, 14, (3, 0, 2), [])) (by decide +kernel)) rfl tg_27 (by rw [ln_27]; decide) (mz_rfS (by decide +kernel)) ?_
  refine q_getI (mz_fe (e := (11, .getfield 129, 24, (8, 4, 0), [])) (by decide +kernel)) rfl (by decide) tg_4 (by rw [ln_4]; decide) ?_
  refine q_if (c := .ge) (off := 33) (t := 47) (x := y4) (y := (mz_rd m 4 4)) (st := []) (mz_fe (e := (14, .if_icmp .ge 33, 3, (0, 0, 0), [])) (by decide +kernel)) (fun _ => rfl) rfl rfl rfl (fun c1 => ?_) (fun c1 => ?_)
  · refine q_o (mz_fe (e := (47, .iload_n 3, 1, (0, 0, 0), [])) (by decide +kernel)) (pc2 := 48) rfl ?_
    exact q_retI (mz_fe (e := (48, .ireturn, 1, (0, 0, 0), [])) (by decide +kernel)) (by decide +kernel)
  · refine q_o (mz_fe (e := (17, .iload 4, 2, (0, 0, 0), [])) (by decide +kernel)) (pc2 := 19) rfl ?_
    refine q_o (mz_fe (e := (19, .iload_n 2, 1, (0, 0, 0), [])) (by decide +kernel)) (pc2 := 20) rfl ?_
    refine q_if (c := .eq) (off := 21) (t := 41) (x := y4) (y := y2) (st := []) (mz_fe (e := (20, .if_icmp .eq 21, 3, (0, 0, 0), [])) (by decide +kernel)) (fun _ => rfl) rfl rfl rfl (fun c2 => ?_) (fun c2 => ?_)
    · refine q_iinc (v := y4) (c := 1) (L3 := [some (.ref 27), some (.ref a1), some (.int y2), some (.int y3), some (.int (y4 + 1))]) (mz_fe (e := (41, .iinc 4 1, 3, (0, 0, 0), [])) (by decide +kernel)) rfl rfl (by decide) rfl ?_
      refine q_o (mz_fe (e := (44, .goto (-39), 3, (0, 0, 0), [])) (by decide +kernel)) (pc2 := 5) rfl ?_
      exact congrArg mz_cI (mz_At_msk (L := [some (.ref 27), some (.ref a1), some (.int y2), some (.int y3), some (.int (y4 + 1))]) (L2 := [some (.ref 27), some (.ref a1), some (.int y2), some (.int y3), some (.int (y4 + 1))]) (mz_fe (e := (5, .iload 4, 2, (0, 0, 0), [true, true, true, true, true])) (by decide +kernel)) rfl rfl)
    · refine q_o (mz_fe (e := (23, .aload_n 0, 1, (0, 0, 0), [])) (by decide +kernel)) (pc2 := 24) rfl ?_
      refine q_o (mz_fe (e := (24, .aload_n 1, 1, (0, 0, 0), [])) (by decide +kernel)) (pc2 := 25) rfl ?_
      refine q_o (mz_fe (e := (25, .iload_n 2, 1, (0, 0, 0), [])) (by decide +kernel)) (pc2 := 26) rfl ?_
      refine q_o (mz_fe (e := (26, .iload 4, 2, (0, 0, 0), [])) (by decide +kernel)) (pc2 := 28) rfl ?_
      refine q_callI (N := 28) (vs := [.ref 27, .ref a1, .int y2, .int y4]) (rest := []) (L' := [some (.ref 27), some (.ref a1), some (.int y2), some (.int y3), some (.int y4)]) (f := fun v4 m3 => if v4 = 0 then (H_X3_foesOf_5 d a1 y2 y3 (y4 + 1) m3) else (H_X3_foesOf_5 d a1 y2 (y3 ||| ((1 : Int32) <<< (y4 &&& 31))) (y4 + 1) m3)) rfl (mz_fe (e := (28, .invokevirtual 122, 31, (28, 4, 9), [])) (by decide +kernel)) rfl (mz_inv_virt (N := 28) (k := 4) (t := 9) (st := [.int y4, .int y2, .ref a1, .ref 27]) (rest := []) (b := 27) (vs := [.ref a1, .int y2, .int y4]) (h := (mz_S0, m)) rfl rfl (Nat.le_of_ble_eq_true rfl) (Nat.le_of_ble_eq_true rfl) tg_27 (by decide)) (mz_dc_lt (n := 4) rfl (by decide +kernel) (by decide +kernel)) (by decide +kernel) (Or.inr (by decide +kernel)) (fun v4 m3 => ?_)
      refine q_if (c := .eq) (off := 10) (t := 41) (x := v4) (y := 0) (st := []) (mz_fe (e := (31, .ifCond .eq 10, 3, (0, 0, 0), [])) (by decide +kernel)) (fun _ => rfl) rfl rfl rfl (fun c6 => ?_) (fun c6 => ?_)
      · refine q_iinc (v := y4) (c := 1) (L3 := [some (.ref 27), some (.ref a1), some (.int y2), some (.int y3), some (.int (y4 + 1))]) (mz_fe (e := (41, .iinc 4 1, 3, (0, 0, 0), [])) (by decide +kernel)) rfl rfl (by decide) rfl ?_
        refine q_o (mz_fe (e := (44, .goto (-39), 3, (0, 0, 0), [])) (by decide +kernel)) (pc2 := 5) rfl ?_
        exact congrArg mz_cI (mz_At_msk (L := [some (.ref 27), some (.ref a1), some (.int y2), some (.int y3), some (.int (y4 + 1))]) (L2 := [some (.ref 27), some (.ref a1), some (.int y2), some (.int y3), some (.int (y4 + 1))]) (mz_fe (e := (5, .iload 4, 2, (0, 0, 0), [true, true, true, true, true])) (by decide +kernel)) rfl rfl)
      · refine q_o (mz_fe (e := (34, .iload_n 3, 1, (0, 0, 0), [])) (by decide +kernel)) (pc2 := 35) rfl ?_
        refine q_ic (v := 1) (mz_fe (e := (35, .iconst 1, 1, (0, 0, 0), [])) (by decide +kernel)) (by decide) ?_
        refine q_o (mz_fe (e := (36, .iload 4, 2, (0, 0, 0), [])) (by decide +kernel)) (pc2 := 38) rfl ?_
        refine q_o (mz_fe (e := (38, .ishl, 1, (0, 0, 0), [])) (by decide +kernel)) (pc2 := 39) rfl ?_
        refine q_o (mz_fe (e := (39, .ior, 1, (0, 0, 0), [])) (by decide +kernel)) (pc2 := 40) rfl ?_
        refine q_s (mz_fe (e := (40, .istore_n 3, 1, (0, 0, 0), [])) (by decide +kernel)) (pc' := 41) (L' := [some (.ref 27), some (.ref a1), some (.int y2), some (.int (y3 ||| ((1 : Int32) <<< (y4 &&& 31)))), some (.int y4)]) (st' := []) rfl ?_
        refine q_iinc (v := y4) (c := 1) (L3 := [some (.ref 27), some (.ref a1), some (.int y2), some (.int (y3 ||| ((1 : Int32) <<< (y4 &&& 31)))), some (.int (y4 + 1))]) (mz_fe (e := (41, .iinc 4 1, 3, (0, 0, 0), [])) (by decide +kernel)) rfl rfl (by decide) rfl ?_
        refine q_o (mz_fe (e := (44, .goto (-39), 3, (0, 0, 0), [])) (by decide +kernel)) (pc2 := 5) rfl ?_
        exact congrArg mz_cI (mz_At_msk (L := [some (.ref 27), some (.ref a1), some (.int y2), some (.int (y3 ||| ((1 : Int32) <<< (y4 &&& 31)))), some (.int (y4 + 1))]) (L2 := [some (.ref 27), some (.ref a1), some (.int y2), some (.int (y3 ||| ((1 : Int32) <<< (y4 &&& 31)))), some (.int (y4 + 1))]) (mz_fe (e := (5, .iload 4, 2, (0, 0, 0), [true, true, true, true, true])) (by decide +kernel)) rfl rfl)
set_option maxRecDepth 10000 in
theorem R_X3_whoQuarrels_eq (d : Nat) (s : Nat) (m : MzM) (hs : mz_isS s = true) : R_X3_whoQuarrels d s m = H_X3_whoQuarrels_4 d s 0 0 m := by
  show mz_cI (mz_T d 41 0 (mz_en (mz_xl 41) [.ref 27, .ref s]) [] m) = _
  rw [show mz_en (mz_xl 41) [.ref 27, .ref s] = [some (.ref 27), some (.ref s), none, none] from by rw [show mz_xl 41 = 4 from by decide +kernel]; rfl]
  refine q_ic (v := 0) (mz_fe (e := (0, .iconst 0, 1, (0, 0, 0), [])) (by decide +kernel)) (by decide) ?_
  refine q_s (mz_fe (e := (1, .istore_n 2, 1, (0, 0, 0), [])) (by decide +kernel)) (pc' := 2) (L' := [some (.ref 27), some (.ref s), some (.int 0), none]) (st' := []) rfl ?_
  refine q_ic (v := 0) (mz_fe (e := (2, .iconst 0, 1, (0, 0, 0), [])) (by decide +kernel)) (by decide) ?_
  refine q_s (mz_fe (e := (3, .istore_n 3, 1, (0, 0, 0), [])) (by decide +kernel)) (pc' := 4) (L' := [some (.ref 27), some (.ref s), some (.int 0), some (.int 0)]) (st' := []) rfl ?_
  exact congrArg mz_cI (mz_At_msk (L := [some (.ref 27), some (.ref s), some (.int 0), some (.int 0)]) (L2 := [some (.ref 27), some (.ref s), some (.int 0), some (.int 0)]) (mz_fe (e := (4, .iload_n 3, 1, (0, 0, 0), [true, true, true, true])) (by decide +kernel)) rfl rfl)
set_option maxRecDepth 10000 in
theorem H_X3_whoQuarrels_4_eq (d : Nat) (a1 : Nat) (y2 : Int32) (y3 : Int32) (m : MzM) (ha1 : mz_isS a1 = true) : H_X3_whoQuarrels_4 d a1 y2 y3 m = if (mz_rd m 4 4) ≤ y3 then (some (y2, m)) else ((R_X3_foesOf d a1 y3 m).bind (fun u4 => H_X3_whoQuarrels_4 d a1 (y2 ||| u4.1) (y3 + 1) u4.2)) := by
  show mz_cI (mz_T d 41 4 [some (.ref 27), some (.ref a1), some (.int y2), some (.int y3)] [] m) = _
  refine q_s (mz_fe (e := (4, .iload_n 3, 1, (0, 0, 0), [true, true, true, true])) (by decide +kernel)) (pc' := 5) (L' := [some (.ref 27), some (.ref a1), some (.int y2), some (.int y3)]) (st' := [.int y3]) rfl ?_
  refine q_o (mz_fe (e := (5, .aload_n 0, 1, (0, 0, 0), [])) (by decide +kernel)) (pc2 := 6) rfl ?_
  refine q_getR (b := 4) (mz_fe (e := (6, .getfield 17, 14, (3, 0, 2), [])) (by decide +kernel)) rfl tg_27 (by rw [ln_27]; decide) (mz_rfS (by decide +kernel)) ?_
  refine q_getI (mz_fe (e := (9, .getfield 129, 24, (8, 4, 0), [])) (by decide +kernel)) rfl (by decide) tg_4 (by rw [ln_4]; decide) ?_
  refine q_if (c := .ge) (off := 18) (t := 30) (x := y3) (y := (mz_rd m 4 4)) (st := []) (mz_fe (e := (12, .if_icmp .ge 18, 3, (0, 0, 0), [])) (by decide +kernel)) (fun _ => rfl) rfl rfl rfl (fun c1 => ?_) (fun c1 => ?_)
  · refine q_o (mz_fe (e := (30, .iload_n 2, 1, (0, 0, 0), [])) (by decide +kernel)) (pc2 := 31) rfl ?_
    exact q_retI (mz_fe (e := (31, .ireturn, 1, (0, 0, 0), [])) (by decide +kernel)) (by decide +kernel)
  · refine q_o (mz_fe (e := (15, .iload_n 2, 1, (0, 0, 0), [])) (by decide +kernel)) (pc2 := 16) rfl ?_
    refine q_o (mz_fe (e := (16, .aload_n 0, 1, (0, 0, 0), [])) (by decide +kernel)) (pc2 := 17) rfl ?_
    refine q_o (mz_fe (e := (17, .aload_n 1, 1, (0, 0, 0), [])) (by decide +kernel)) (pc2 := 18) rfl ?_
    refine q_o (mz_fe (e := (18, .iload_n 3, 1, (0, 0, 0), [])) (by decide +kernel)) (pc2 := 19) rfl ?_
    refine q_callI (N := 40) (vs := [.ref 27, .ref a1, .int y3]) (rest := [.int y2]) (L' := [some (.ref 27), some (.ref a1), some (.int y2), some (.int y3)]) (f := fun v3 m2 => H_X3_whoQuarrels_4 d a1 (y2 ||| v3) (y3 + 1) m2) rfl (mz_fe (e := (19, .invokevirtual 132, 33, (40, 3, 9), [])) (by decide +kernel)) rfl (mz_inv_virt (N := 40) (k := 3) (t := 9) (st := [.int y3, .ref a1, .ref 27, .int y2]) (rest := [.int y2]) (b := 27) (vs := [.ref a1, .int y3]) (h := (mz_S0, m)) rfl rfl (Nat.le_of_ble_eq_true rfl) (Nat.le_of_ble_eq_true rfl) tg_27 (by decide)) (mz_dc_lt (n := 3) rfl (by decide +kernel) (by decide +kernel)) (by decide +kernel) (Or.inl (by decide +kernel)) (fun v3 m2 => ?_)
    refine q_o (mz_fe (e := (22, .ior, 1, (0, 0, 0), [])) (by decide +kernel)) (pc2 := 23) rfl ?_
    refine q_s (mz_fe (e := (23, .istore_n 2, 1, (0, 0, 0), [])) (by decide +kernel)) (pc' := 24) (L' := [some (.ref 27), some (.ref a1), some (.int (y2 ||| v3)), some (.int y3)]) (st' := []) rfl ?_
    refine q_iinc (v := y3) (c := 1) (L3 := [some (.ref 27), some (.ref a1), some (.int (y2 ||| v3)), some (.int (y3 + 1))]) (mz_fe (e := (24, .iinc 3 1, 3, (0, 0, 0), [])) (by decide +kernel)) rfl rfl (by decide) rfl ?_
    refine q_o (mz_fe (e := (27, .goto (-23), 3, (0, 0, 0), [])) (by decide +kernel)) (pc2 := 4) rfl ?_
    exact congrArg mz_cI (mz_At_msk (L := [some (.ref 27), some (.ref a1), some (.int (y2 ||| v3)), some (.int (y3 + 1))]) (L2 := [some (.ref 27), some (.ref a1), some (.int (y2 ||| v3)), some (.int (y3 + 1))]) (mz_fe (e := (4, .iload_n 3, 1, (0, 0, 0), [true, true, true, true])) (by decide +kernel)) rfl rfl)
set_option maxRecDepth 10000 in
theorem R_X3_quarrels_eq (d : Nat) (s : Nat) (m : MzM) (hs : mz_isS s = true) : R_X3_quarrels d s m = H_X3_quarrels_4 d s 0 0 m := by
  show mz_cI (mz_T d 42 0 (mz_en (mz_xl 42) [.ref 27, .ref s]) [] m) = _
  rw [show mz_en (mz_xl 42) [.ref 27, .ref s] = [some (.ref 27), some (.ref s), none, none, none] from by rw [show mz_xl 42 = 5 from by decide +kernel]; rfl]
  refine q_ic (v := 0) (mz_fe (e := (0, .iconst 0, 1, (0, 0, 0), [])) (by decide +kernel)) (by decide) ?_
  refine q_s (mz_fe (e := (1, .istore_n 2, 1, (0, 0, 0), [])) (by decide +kernel)) (pc' := 2) (L' := [some (.ref 27), some (.ref s), some (.int 0), none, none]) (st' := []) rfl ?_
  refine q_ic (v := 0) (mz_fe (e := (2, .iconst 0, 1, (0, 0, 0), [])) (by decide +kernel)) (by decide) ?_
  refine q_s (mz_fe (e := (3, .istore_n 3, 1, (0, 0, 0), [])) (by decide +kernel)) (pc' := 4) (L' := [some (.ref 27), some (.ref s), some (.int 0), some (.int 0), none]) (st' := []) rfl ?_
  exact congrArg mz_cI (mz_At_msk (L := [some (.ref 27), some (.ref s), some (.int 0), some (.int 0), none]) (L2 := [some (.ref 27), some (.ref s), some (.int 0), some (.int 0), none]) (mz_fe (e := (4, .iload_n 3, 1, (0, 0, 0), [true, true, true, true, false])) (by decide +kernel)) rfl rfl)
set_option maxRecDepth 10000 in
theorem H_X3_quarrels_4_eq (d : Nat) (a1 : Nat) (y2 : Int32) (y3 : Int32) (m : MzM) (ha1 : mz_isS a1 = true) : H_X3_quarrels_4 d a1 y2 y3 m = if (mz_rd m 4 4) ≤ y3 then (some (y2, m)) else (H_X3_quarrels_20 d a1 y2 y3 (y3 + 1) m) := by
  show mz_cI (mz_T d 42 4 [some (.ref 27), some (.ref a1), some (.int y2), some (.int y3), none] [] m) = _
  refine q_s (mz_fe (e := (4, .iload_n 3, 1, (0, 0, 0), [true, true, true, true, false])) (by decide +kernel)) (pc' := 5) (L' := [some (.ref 27), some (.ref a1), some (.int y2), some (.int y3), none]) (st' := [.int y3]) rfl ?_
  refine q_o (mz_fe (e := (5, .aload_n 0, 1, (0, 0, 0), [])) (by decide +kernel)) (pc2 := 6) rfl ?_
  refine q_getR (b := 4) (mz_fe (e := (6, .getfield 17, 14, (3, 0, 2), [])) (by decide +kernel)) rfl tg_27 (by rw [ln_27]; decide) (mz_rfS (by decide +kernel)) ?_
  refine q_getI (mz_fe (e := (9, .getfield 129, 24, (8, 4, 0), [])) (by decide +kernel)) rfl (by decide) tg_4 (by rw [ln_4]; decide) ?_
  refine q_if (c := .ge) (off := 51) (t := 63) (x := y3) (y := (mz_rd m 4 4)) (st := []) (mz_fe (e := (12, .if_icmp .ge 51, 3, (0, 0, 0), [])) (by decide +kernel)) (fun _ => rfl) rfl rfl rfl (fun c1 => ?_) (fun c1 => ?_)
  · refine q_o (mz_fe (e := (63, .iload_n 2, 1, (0, 0, 0), [])) (by decide +kernel)) (pc2 := 64) rfl ?_
    exact q_retI (mz_fe (e := (64, .ireturn, 1, (0, 0, 0), [])) (by decide +kernel)) (by decide +kernel)
  · refine q_o (mz_fe (e := (15, .iload_n 3, 1, (0, 0, 0), [])) (by decide +kernel)) (pc2 := 16) rfl ?_
    refine q_ic (v := 1) (mz_fe (e := (16, .iconst 1, 1, (0, 0, 0), [])) (by decide +kernel)) (by decide) ?_
    refine q_o (mz_fe (e := (17, .iadd, 1, (0, 0, 0), [])) (by decide +kernel)) (pc2 := 18) rfl ?_
    refine q_s (mz_fe (e := (18, .istore 4, 2, (0, 0, 0), [])) (by decide +kernel)) (pc' := 20) (L' := [some (.ref 27), some (.ref a1), some (.int y2), some (.int y3), some (.int (y3 + 1))]) (st' := []) rfl ?_
    exact congrArg mz_cI (mz_At_msk (L := [some (.ref 27), some (.ref a1), some (.int y2), some (.int y3), some (.int (y3 + 1))]) (L2 := [some (.ref 27), some (.ref a1), some (.int y2), some (.int y3), some (.int (y3 + 1))]) (mz_fe (e := (20, .iload 4, 2, (0, 0, 0), [true, true, true, true, true])) (by decide +kernel)) rfl rfl)
set_option maxRecDepth 10000 in
theorem H_X3_quarrels_20_eq (d : Nat) (a1 : Nat) (y2 : Int32) (y3 : Int32) (y4 : Int32) (m : MzM) (ha1 : mz_isS a1 = true) : H_X3_quarrels_20 d a1 y2 y3 y4 m = if (mz_rd m 4 4) ≤ y4 then (H_X3_quarrels_4 d a1 y2 (y3 + 1) m) else ((R_X3_quarrel d a1 y3 y4 m).bind (fun u5 => if u5.1 = 0 then (H_X3_quarrels_20 d a1 (y2 + 0) y3 (y4 + 1) u5.2) else (H_X3_quarrels_20 d a1 (y2 + 1) y3 (y4 + 1) u5.2))) := by
  show mz_cI (mz_T d 42 20 [some (.ref 27), some (.ref a1), some (.int y2), some (.int y3), some (.int y4)] [] m) = _
  refine q_s (mz_fe (e := (20, .iload 4, 2, (0, 0, 0), [true, true, true, true, true])) (by decide +kernel)) (pc' := 22) (L' := [some (.ref 27), some (.ref a1), some (.int y2), some (.int y3), some (.int y4)]) (st' := [.int y4]) rfl ?_
  refine q_o (mz_fe (e := (22, .aload_n 0, 1, (0, 0, 0), [])) (by decide +kernel)) (pc2 := 23) rfl ?_
  refine q_getR (b := 4) (mz_fe (e := (23, .getfield 17, 14, (3, 0, 2), [])) (by decide +kernel)) rfl tg_27 (by rw [ln_27]; decide) (mz_rfS (by decide +kernel)) ?_
  refine q_getI (mz_fe (e := (26, .getfield 129, 24, (8, 4, 0), [])) (by decide +kernel)) rfl (by decide) tg_4 (by rw [ln_4]; decide) ?_
  refine q_if (c := .ge) (off := 28) (t := 57) (x := y4) (y := (mz_rd m 4 4)) (st := []) (mz_fe (e := (29, .if_icmp .ge 28, 3, (0, 0, 0), [])) (by decide +kernel)) (fun _ => rfl) rfl rfl rfl (fun c2 => ?_) (fun c2 => ?_)
  · refine q_iinc (v := y3) (c := 1) (L3 := [some (.ref 27), some (.ref a1), some (.int y2), some (.int (y3 + 1)), some (.int y4)]) (mz_fe (e := (57, .iinc 3 1, 3, (0, 0, 0), [])) (by decide +kernel)) rfl rfl (by decide) rfl ?_
    refine q_o (mz_fe (e := (60, .goto (-56), 3, (0, 0, 0), [])) (by decide +kernel)) (pc2 := 4) rfl ?_
    exact congrArg mz_cI (mz_At_msk (L := [some (.ref 27), some (.ref a1), some (.int y2), some (.int (y3 + 1)), some (.int y4)]) (L2 := [some (.ref 27), some (.ref a1), some (.int y2), some (.int (y3 + 1)), none]) (mz_fe (e := (4, .iload_n 3, 1, (0, 0, 0), [true, true, true, true, false])) (by decide +kernel)) rfl rfl)
  · refine q_o (mz_fe (e := (32, .iload_n 2, 1, (0, 0, 0), [])) (by decide +kernel)) (pc2 := 33) rfl ?_
    refine q_o (mz_fe (e := (33, .aload_n 0, 1, (0, 0, 0), [])) (by decide +kernel)) (pc2 := 34) rfl ?_
    refine q_o (mz_fe (e := (34, .aload_n 1, 1, (0, 0, 0), [])) (by decide +kernel)) (pc2 := 35) rfl ?_
    refine q_o (mz_fe (e := (35, .iload_n 3, 1, (0, 0, 0), [])) (by decide +kernel)) (pc2 := 36) rfl ?_
    refine q_o (mz_fe (e := (36, .iload 4, 2, (0, 0, 0), [])) (by decide +kernel)) (pc2 := 38) rfl ?_
    refine q_callI (N := 28) (vs := [.ref 27, .ref a1, .int y3, .int y4]) (rest := [.int y2]) (L' := [some (.ref 27), some (.ref a1), some (.int y2), some (.int y3), some (.int y4)]) (f := fun v4 m3 => if v4 = 0 then (H_X3_quarrels_20 d a1 (y2 + 0) y3 (y4 + 1) m3) else (H_X3_quarrels_20 d a1 (y2 + 1) y3 (y4 + 1) m3)) rfl (mz_fe (e := (38, .invokevirtual 122, 31, (28, 4, 9), [])) (by decide +kernel)) rfl (mz_inv_virt (N := 28) (k := 4) (t := 9) (st := [.int y4, .int y3, .ref a1, .ref 27, .int y2]) (rest := [.int y2]) (b := 27) (vs := [.ref a1, .int y3, .int y4]) (h := (mz_S0, m)) rfl rfl (Nat.le_of_ble_eq_true rfl) (Nat.le_of_ble_eq_true rfl) tg_27 (by decide)) (mz_dc_lt (n := 4) rfl (by decide +kernel) (by decide +kernel)) (by decide +kernel) (Or.inr (by decide +kernel)) (fun v4 m3 => ?_)
    refine q_if (c := .eq) (off := 7) (t := 48) (x := v4) (y := 0) (st := [.int y2]) (mz_fe (e := (41, .ifCond .eq 7, 3, (0, 0, 0), [])) (by decide +kernel)) (fun _ => rfl) rfl rfl rfl (fun c6 => ?_) (fun c6 => ?_)
    · refine q_ic (v := 0) (mz_fe (e := (48, .iconst 0, 1, (0, 0, 0), [])) (by decide +kernel)) (by decide) ?_
      refine q_o (mz_fe (e := (49, .iadd, 1, (0, 0, 0), [])) (by decide +kernel)) (pc2 := 50) rfl ?_
      refine q_s (mz_fe (e := (50, .istore_n 2, 1, (0, 0, 0), [])) (by decide +kernel)) (pc' := 51) (L' := [some (.ref 27), some (.ref a1), some (.int (y2 + 0)), some (.int y3), some (.int y4)]) (st' := []) rfl ?_
      refine q_iinc (v := y4) (c := 1) (L3 := [some (.ref 27), some (.ref a1), some (.int (y2 + 0)), some (.int y3), some (.int (y4 + 1))]) (mz_fe (e := (51, .iinc 4 1, 3, (0, 0, 0), [])) (by decide +kernel)) rfl rfl (by decide) rfl ?_
      refine q_o (mz_fe (e := (54, .goto (-34), 3, (0, 0, 0), [])) (by decide +kernel)) (pc2 := 20) rfl ?_
      exact congrArg mz_cI (mz_At_msk (L := [some (.ref 27), some (.ref a1), some (.int (y2 + 0)), some (.int y3), some (.int (y4 + 1))]) (L2 := [some (.ref 27), some (.ref a1), some (.int (y2 + 0)), some (.int y3), some (.int (y4 + 1))]) (mz_fe (e := (20, .iload 4, 2, (0, 0, 0), [true, true, true, true, true])) (by decide +kernel)) rfl rfl)
    · refine q_ic (v := 1) (mz_fe (e := (44, .iconst 1, 1, (0, 0, 0), [])) (by decide +kernel)) (by decide) ?_
      refine q_o (mz_fe (e := (45, .goto 4, 3, (0, 0, 0), [])) (by decide +kernel)) (pc2 := 49) rfl ?_
      refine q_o (mz_fe (e := (49, .iadd, 1, (0, 0, 0), [])) (by decide +kernel)) (pc2 := 50) rfl ?_
      refine q_s (mz_fe (e := (50, .istore_n 2, 1, (0, 0, 0), [])) (by decide +kernel)) (pc' := 51) (L' := [some (.ref 27), some (.ref a1), some (.int (y2 + 1)), some (.int y3), some (.int y4)]) (st' := []) rfl ?_
      refine q_iinc (v := y4) (c := 1) (L3 := [some (.ref 27), some (.ref a1), some (.int (y2 + 1)), some (.int y3), some (.int (y4 + 1))]) (mz_fe (e := (51, .iinc 4 1, 3, (0, 0, 0), [])) (by decide +kernel)) rfl rfl (by decide) rfl ?_
      refine q_o (mz_fe (e := (54, .goto (-34), 3, (0, 0, 0), [])) (by decide +kernel)) (pc2 := 20) rfl ?_
      exact congrArg mz_cI (mz_At_msk (L := [some (.ref 27), some (.ref a1), some (.int (y2 + 1)), some (.int y3), some (.int (y4 + 1))]) (L2 := [some (.ref 27), some (.ref a1), some (.int (y2 + 1)), some (.int y3), some (.int (y4 + 1))]) (mz_fe (e := (20, .iload 4, 2, (0, 0, 0), [true, true, true, true, true])) (by decide +kernel)) rfl rfl)
set_option maxRecDepth 10000 in
theorem R_X3_firstQuarrel_eq (d : Nat) (s : Nat) (m : MzM) (hs : mz_isS s = true) : R_X3_firstQuarrel d s m = H_X3_firstQuarrel_2 d s 0 m := by
  show mz_cI (mz_T d 43 0 (mz_en (mz_xl 43) [.ref 27, .ref s]) [] m) = _
  rw [show mz_en (mz_xl 43) [.ref 27, .ref s] = [some (.ref 27), some (.ref s), none, none] from by rw [show mz_xl 43 = 4 from by decide +kernel]; rfl]
  refine q_ic (v := 0) (mz_fe (e := (0, .iconst 0, 1, (0, 0, 0), [])) (by decide +kernel)) (by decide) ?_
  refine q_s (mz_fe (e := (1, .istore_n 2, 1, (0, 0, 0), [])) (by decide +kernel)) (pc' := 2) (L' := [some (.ref 27), some (.ref s), some (.int 0), none]) (st' := []) rfl ?_
  exact congrArg mz_cI (mz_At_msk (L := [some (.ref 27), some (.ref s), some (.int 0), none]) (L2 := [some (.ref 27), some (.ref s), some (.int 0), none]) (mz_fe (e := (2, .iload_n 2, 1, (0, 0, 0), [true, true, true, false])) (by decide +kernel)) rfl rfl)
set_option maxRecDepth 10000 in
theorem H_X3_firstQuarrel_2_eq (d : Nat) (a1 : Nat) (y2 : Int32) (m : MzM) (ha1 : mz_isS a1 = true) : H_X3_firstQuarrel_2 d a1 y2 m = if (mz_rd m 4 4) ≤ y2 then (some ((-2), m)) else (H_X3_firstQuarrel_17 d a1 y2 (y2 + 1) m) := by
  show mz_cI (mz_T d 43 2 [some (.ref 27), some (.ref a1), some (.int y2), none] [] m) = _
  refine q_s (mz_fe (e := (2, .iload_n 2, 1, (0, 0, 0), [true, true, true, false])) (by decide +kernel)) (pc' := 3) (L' := [some (.ref 27), some (.ref a1), some (.int y2), none]) (st' := [.int y2]) rfl ?_
  refine q_o (mz_fe (e := (3, .aload_n 0, 1, (0, 0, 0), [])) (by decide +kernel)) (pc2 := 4) rfl ?_
  refine q_getR (b := 4) (mz_fe (e := (4, .getfield 17, 14, (3, 0, 2), [])) (by decide +kernel)) rfl tg_27 (by rw [ln_27]; decide) (mz_rfS (by decide +kernel)) ?_
  refine q_getI (mz_fe (e := (7, .getfield 129, 24, (8, 4, 0), [])) (by decide +kernel)) rfl (by decide) tg_4 (by rw [ln_4]; decide) ?_
  refine q_if (c := .ge) (off := 47) (t := 57) (x := y2) (y := (mz_rd m 4 4)) (st := []) (mz_fe (e := (10, .if_icmp .ge 47, 3, (0, 0, 0), [])) (by decide +kernel)) (fun _ => rfl) rfl rfl rfl (fun c1 => ?_) (fun c1 => ?_)
  · refine q_bi (v := (-2)) (mz_fe (e := (57, .bipush (-2), 2, (0, 0, 0), [])) (by decide +kernel)) (by decide) ?_
    exact q_retI (mz_fe (e := (59, .ireturn, 1, (0, 0, 0), [])) (by decide +kernel)) (by decide +kernel)
  · refine q_o (mz_fe (e := (13, .iload_n 2, 1, (0, 0, 0), [])) (by decide +kernel)) (pc2 := 14) rfl ?_
    refine q_ic (v := 1) (mz_fe (e := (14, .iconst 1, 1, (0, 0, 0), [])) (by decide +kernel)) (by decide) ?_
    refine q_o (mz_fe (e := (15, .iadd, 1, (0, 0, 0), [])) (by decide +kernel)) (pc2 := 16) rfl ?_
    refine q_s (mz_fe (e := (16, .istore_n 3, 1, (0, 0, 0), [])) (by decide +kernel)) (pc' := 17) (L' := [some (.ref 27), some (.ref a1), some (.int y2), some (.int (y2 + 1))]) (st' := []) rfl ?_
    exact congrArg mz_cI (mz_At_msk (L := [some (.ref 27), some (.ref a1), some (.int y2), some (.int (y2 + 1))]) (L2 := [some (.ref 27), some (.ref a1), some (.int y2), some (.int (y2 + 1))]) (mz_fe (e := (17, .iload_n 3, 1, (0, 0, 0), [true, true, true, true])) (by decide +kernel)) rfl rfl)
set_option maxRecDepth 10000 in
theorem H_X3_firstQuarrel_17_eq (d : Nat) (a1 : Nat) (y2 : Int32) (y3 : Int32) (m : MzM) (ha1 : mz_isS a1 = true) : H_X3_firstQuarrel_17 d a1 y2 y3 m = if (mz_rd m 4 4) ≤ y3 then (H_X3_firstQuarrel_2 d a1 (y2 + 1) m) else ((R_X3_quarrel d a1 y2 y3 m).bind (fun u5 => if u5.1 = 0 then (H_X3_firstQuarrel_17 d a1 y2 (y3 + 1) u5.2) else (some ((((10 : Int32) * y2) + y3), u5.2)))) := by
  show mz_cI (mz_T d 43 17 [some (.ref 27), some (.ref a1), some (.int y2), some (.int y3)] [] m) = _
  refine q_s (mz_fe (e := (17, .iload_n 3, 1, (0, 0, 0), [true, true, true, true])) (by decide +kernel)) (pc' := 18) (L' := [some (.ref 27), some (.ref a1), some (.int y2), some (.int y3)]) (st' := [.int y3]) rfl ?_
  refine q_o (mz_fe (e := (18, .aload_n 0, 1, (0, 0, 0), [])) (by decide +kernel)) (pc2 := 19) rfl ?_
  refine q_getR (b := 4) (mz_fe (e := (19, .getfield 17, 14, (3, 0, 2), [])) (by decide +kernel)) rfl tg_27 (by rw [ln_27]; decide) (mz_rfS (by decide +kernel)) ?_
  refine q_getI (mz_fe (e := (22, .getfield 129, 24, (8, 4, 0), [])) (by decide +kernel)) rfl (by decide) tg_4 (by rw [ln_4]; decide) ?_
  refine q_if (c := .ge) (off := 26) (t := 51) (x := y3) (y := (mz_rd m 4 4)) (st := []) (mz_fe (e := (25, .if_icmp .ge 26, 3, (0, 0, 0), [])) (by decide +kernel)) (fun _ => rfl) rfl rfl rfl (fun c2 => ?_) (fun c2 => ?_)
  · refine q_iinc (v := y2) (c := 1) (L3 := [some (.ref 27), some (.ref a1), some (.int (y2 + 1)), some (.int y3)]) (mz_fe (e := (51, .iinc 2 1, 3, (0, 0, 0), [])) (by decide +kernel)) rfl rfl (by decide) rfl ?_
    refine q_o (mz_fe (e := (54, .goto (-52), 3, (0, 0, 0), [])) (by decide +kernel)) (pc2 := 2) rfl ?_
    exact congrArg mz_cI (mz_At_msk (L := [some (.ref 27), some (.ref a1), some (.int (y2 + 1)), some (.int y3)]) (L2 := [some (.ref 27), some (.ref a1), some (.int (y2 + 1)), none]) (mz_fe (e := (2, .iload_n 2, 1, (0, 0, 0), [true, true, true, false])) (by decide +kernel)) rfl rfl)
  · refine q_o (mz_fe (e := (28, .aload_n 0, 1, (0, 0, 0), [])) (by decide +kernel)) (pc2 := 29) rfl ?_
    refine q_o (mz_fe (e := (29, .aload_n 1, 1, (0, 0, 0), [])) (by decide +kernel)) (pc2 := 30) rfl ?_
    refine q_o (mz_fe (e := (30, .iload_n 2, 1, (0, 0, 0), [])) (by decide +kernel)) (pc2 := 31) rfl ?_
    refine q_o (mz_fe (e := (31, .iload_n 3, 1, (0, 0, 0), [])) (by decide +kernel)) (pc2 := 32) rfl ?_
    refine q_callI (N := 28) (vs := [.ref 27, .ref a1, .int y2, .int y3]) (rest := []) (L' := [some (.ref 27), some (.ref a1), some (.int y2), some (.int y3)]) (f := fun v4 m3 => if v4 = 0 then (H_X3_firstQuarrel_17 d a1 y2 (y3 + 1) m3) else (some ((((10 : Int32) * y2) + y3), m3))) rfl (mz_fe (e := (32, .invokevirtual 122, 31, (28, 4, 9), [])) (by decide +kernel)) rfl (mz_inv_virt (N := 28) (k := 4) (t := 9) (st := [.int y3, .int y2, .ref a1, .ref 27]) (rest := []) (b := 27) (vs := [.ref a1, .int y2, .int y3]) (h := (mz_S0, m)) rfl rfl (Nat.le_of_ble_eq_true rfl) (Nat.le_of_ble_eq_true rfl) tg_27 (by decide)) (mz_dc_lt (n := 4) rfl (by decide +kernel) (by decide +kernel)) (by decide +kernel) (Or.inr (by decide +kernel)) (fun v4 m3 => ?_)
    refine q_if (c := .eq) (off := 10) (t := 45) (x := v4) (y := 0) (st := []) (mz_fe (e := (35, .ifCond .eq 10, 3, (0, 0, 0), [])) (by decide +kernel)) (fun _ => rfl) rfl rfl rfl (fun c6 => ?_) (fun c6 => ?_)
    · refine q_iinc (v := y3) (c := 1) (L3 := [some (.ref 27), some (.ref a1), some (.int y2), some (.int (y3 + 1))]) (mz_fe (e := (45, .iinc 3 1, 3, (0, 0, 0), [])) (by decide +kernel)) rfl rfl (by decide) rfl ?_
      refine q_o (mz_fe (e := (48, .goto (-31), 3, (0, 0, 0), [])) (by decide +kernel)) (pc2 := 17) rfl ?_
      exact congrArg mz_cI (mz_At_msk (L := [some (.ref 27), some (.ref a1), some (.int y2), some (.int (y3 + 1))]) (L2 := [some (.ref 27), some (.ref a1), some (.int y2), some (.int (y3 + 1))]) (mz_fe (e := (17, .iload_n 3, 1, (0, 0, 0), [true, true, true, true])) (by decide +kernel)) rfl rfl)
    · refine q_bi (v := 10) (mz_fe (e := (38, .bipush 10, 2, (0, 0, 0), [])) (by decide +kernel)) (by decide) ?_
      refine q_o (mz_fe (e := (40, .iload_n 2, 1, (0, 0, 0), [])) (by decide +kernel)) (pc2 := 41) rfl ?_
      refine q_o (mz_fe (e := (41, .imul, 1, (0, 0, 0), [])) (by decide +kernel)) (pc2 := 42) rfl ?_
      refine q_o (mz_fe (e := (42, .iload_n 3, 1, (0, 0, 0), [])) (by decide +kernel)) (pc2 := 43) rfl ?_
      refine q_o (mz_fe (e := (43, .iadd, 1, (0, 0, 0), [])) (by decide +kernel)) (pc2 := 44) rfl ?_
      exact q_retI (mz_fe (e := (44, .ireturn, 1, (0, 0, 0), [])) (by decide +kernel)) (by decide +kernel)
set_option maxRecDepth 10000 in
theorem R_X5_forgetFound_eq (d : Nat)  (m : MzM)  : R_X5_forgetFound d  m = some (mz_wr m 201 4 0) := by
  show mz_cV (mz_T d 61 0 (mz_en (mz_xl 61) [.ref 201]) [] m) = _
  rw [show mz_en (mz_xl 61) [.ref 201] = [some (.ref 201)] from by rw [show mz_xl 61 = 1 from by decide +kernel]; rfl]
  refine q_o (mz_fe (e := (0, .aload_n 0, 1, (0, 0, 0), [])) (by decide +kernel)) (pc2 := 1) rfl ?_
  refine q_ic (v := 0) (mz_fe (e := (1, .iconst 0, 1, (0, 0, 0), [])) (by decide +kernel)) (by decide) ?_
  refine q_putZ (mz_fe (e := (2, .putfield 30, 47, (5, 4, 1), [])) (by decide +kernel)) rfl tg_201 (by rw [ln_201]; decide) (by decide) ?_
  exact q_retV (mz_fe (e := (5, .return_, 1, (0, 0, 0), [])) (by decide +kernel)) (by decide +kernel)
set_option maxRecDepth 10000 in
theorem R_X5_find_eq (d : Nat) (s : Nat) (x0 : Int32) (x1 : Int32) (x2 : Int32) (x3 : Int32) (m : MzM) (hs : mz_isS s = true) : R_X5_find d s x0 x1 x2 x3 m = if (mz_rd m 201 4) = 0 then ((R_X6_copyFrom d 204 s (mz_wr (mz_wr (mz_wr (mz_wr (mz_wr (mz_wr m 201 6 x0) 201 7 x1) 201 8 x2) 201 9 x3) 201 4 1) 201 5 (-2))).bind (fun m3 => H_X5_find_88 d 0 m3)) else (if ¬ (mz_rd m 201 6) = x0 then ((R_X6_copyFrom d 204 s (mz_wr (mz_wr (mz_wr (mz_wr (mz_wr (mz_wr m 201 6 x0) 201 7 x1) 201 8 x2) 201 9 x3) 201 4 1) 201 5 (-2))).bind (fun m8 => H_X5_find_88 d 0 m8)) else (if ¬ (mz_rd m 201 7) = x1 then ((R_X6_copyFrom d 204 s (mz_wr (mz_wr (mz_wr (mz_wr (mz_wr (mz_wr m 201 6 x0) 201 7 x1) 201 8 x2) 201 9 x3) 201 4 1) 201 5 (-2))).bind (fun m13 => H_X5_find_88 d 0 m13)) else (if ¬ (mz_rd m 201 8) = x2 then ((R_X6_copyFrom d 204 s (mz_wr (mz_wr (mz_wr (mz_wr (mz_wr (mz_wr m 201 6 x0) 201 7 x1) 201 8 x2) 201 9 x3) 201 4 1) 201 5 (-2))).bind (fun m18 => H_X5_find_88 d 0 m18)) else (if ¬ (mz_rd m 201 9) = x3 then ((R_X6_copyFrom d 204 s (mz_wr (mz_wr (mz_wr (mz_wr (mz_wr (mz_wr m 201 6 x0) 201 7 x1) 201 8 x2) 201 9 x3) 201 4 1) 201 5 (-2))).bind (fun m23 => H_X5_find_88 d 0 m23)) else some m)))) := by
  show mz_cV (mz_T d 62 0 (mz_en (mz_xl 62) [.ref 201, .ref s, .int x0, .int x1, .int x2, .int x3]) [] m) = _
  rw [show mz_en (mz_xl 62) [.ref 201, .ref s, .int x0, .int x1, .int x2, .int x3] = [some (.ref 201), some (.ref s), some (.int x0), some (.int x1), some (.int x2), some (.int x3), none] from by rw [show mz_xl 62 = 7 from by decide +kernel]; rfl]
  refine q_o (mz_fe (e := (0, .aload_n 0, 1, (0, 0, 0), [])) (by decide +kernel)) (pc2 := 1) rfl ?_
  refine q_getI (mz_fe (e := (1, .getfield 30, 47, (5, 4, 1), [])) (by decide +kernel)) rfl (by decide) tg_201 (by rw [ln_201]; decide) ?_
  refine q_if (c := .eq) (off := 38) (t := 42) (x := (mz_rd m 201 4)) (y := 0) (st := []) (mz_fe (e := (4, .ifCond .eq 38, 3, (0, 0, 0), [])) (by decide +kernel)) (fun _ => rfl) rfl rfl rfl (fun c1 => ?_) (fun c1 => ?_)
  · refine q_o (mz_fe (e := (42, .aload_n 0, 1, (0, 0, 0), [])) (by decide +kernel)) (pc2 := 43) rfl ?_
    refine q_o (mz_fe (e := (43, .iload_n 2, 1, (0, 0, 0), [])) (by decide +kernel)) (pc2 := 44) rfl ?_
    refine q_putI (mz_fe (e := (44, .putfield 34, 48, (5, 6, 0), [])) (by decide +kernel)) rfl tg_201 (by rw [ln_201]; decide) ?_
    refine q_o (mz_fe (e := (47, .aload_n 0, 1, (0, 0, 0), [])) (by decide +kernel)) (pc2 := 48) rfl ?_
    refine q_o (mz_fe (e := (48, .iload_n 3, 1, (0, 0, 0), [])) (by decide +kernel)) (pc2 := 49) rfl ?_
    refine q_putI (mz_fe (e := (49, .putfield 38, 49, (5, 7, 0), [])) (by decide +kernel)) rfl tg_201 (by rw [ln_201]; decide) ?_
    refine q_o (mz_fe (e := (52, .aload_n 0, 1, (0, 0, 0), [])) (by decide +kernel)) (pc2 := 53) rfl ?_
    refine q_o (mz_fe (e := (53, .iload 4, 2, (0, 0, 0), [])) (by decide +kernel)) (pc2 := 55) rfl ?_
    refine q_putI (mz_fe (e := (55, .putfield 41, 50, (5, 8, 0), [])) (by decide +kernel)) rfl tg_201 (by rw [ln_201]; decide) ?_
    refine q_o (mz_fe (e := (58, .aload_n 0, 1, (0, 0, 0), [])) (by decide +kernel)) (pc2 := 59) rfl ?_
    refine q_o (mz_fe (e := (59, .iload 5, 2, (0, 0, 0), [])) (by decide +kernel)) (pc2 := 61) rfl ?_
    refine q_putI (mz_fe (e := (61, .putfield 44, 51, (5, 9, 0), [])) (by decide +kernel)) rfl tg_201 (by rw [ln_201]; decide) ?_
    refine q_o (mz_fe (e := (64, .aload_n 0, 1, (0, 0, 0), [])) (by decide +kernel)) (pc2 := 65) rfl ?_
    refine q_ic (v := 1) (mz_fe (e := (65, .iconst 1, 1, (0, 0, 0), [])) (by decide +kernel)) (by decide) ?_
    refine q_putZ (mz_fe (e := (66, .putfield 30, 47, (5, 4, 1), [])) (by decide +kernel)) rfl tg_201 (by rw [ln_201]; decide) (by decide) ?_
    refine q_o (mz_fe (e := (69, .aload_n 0, 1, (0, 0, 0), [])) (by decide +kernel)) (pc2 := 70) rfl ?_
    refine q_bi (v := (-2)) (mz_fe (e := (70, .bipush (-2), 2, (0, 0, 0), [])) (by decide +kernel)) (by decide) ?_
    refine q_putI (mz_fe (e := (72, .putfield 47, 52, (5, 5, 0), [])) (by decide +kernel)) rfl tg_201 (by rw [ln_201]; decide) ?_
    refine q_o (mz_fe (e := (75, .aload_n 0, 1, (0, 0, 0), [])) (by decide +kernel)) (pc2 := 76) rfl ?_
    refine q_getR (b := 202) (mz_fe (e := (76, .getfield 13, 43, (5, 2, 2), [])) (by decide +kernel)) rfl tg_201 (by rw [ln_201]; decide) (mz_rfS (by decide +kernel)) ?_
    refine q_ic (v := 0) (mz_fe (e := (79, .iconst 0, 1, (0, 0, 0), [])) (by decide +kernel)) (by decide) ?_
    refine q_aald (b := 204) (mz_fe (e := (80, .aaload, 1, (0, 0, 0), [])) (by decide +kernel)) rfl tg_202 ln_202 (by decide) (mz_rfS (by decide +kernel)) ?_
    refine q_o (mz_fe (e := (81, .aload_n 1, 1, (0, 0, 0), [])) (by decide +kernel)) (pc2 := 82) rfl ?_
    refine q_callV (N := 68) (vs := [.ref 204, .ref s]) (rest := []) (L' := [some (.ref 201), some (.ref s), some (.int x0), some (.int x1), some (.int x2), some (.int x3), none]) rfl (mz_fe (e := (82, .invokevirtual 50, 61, (68, 2, 12), [])) (by decide +kernel)) rfl (mz_inv_virt (N := 68) (k := 2) (t := 12) (st := [.ref s, .ref 204]) (rest := []) (b := 204) (vs := [.ref s]) (h := (mz_S0, (mz_wr (mz_wr (mz_wr (mz_wr (mz_wr (mz_wr m 201 6 x0) 201 7 x1) 201 8 x2) 201 9 x3) 201 4 1) 201 5 (-2)))) rfl rfl (Nat.le_of_ble_eq_true rfl) (Nat.le_of_ble_eq_true rfl) (st_t (by decide : mz_isS 204 = true)) (by decide)) (mz_dc_lt (n := 2) rfl (by decide +kernel) (by decide +kernel)) (by decide +kernel) (by decide +kernel) (fun m3 => ?_)
    refine q_ic (v := 0) (mz_fe (e := (85, .iconst 0, 1, (0, 0, 0), [])) (by decide +kernel)) (by decide) ?_
    refine q_s (mz_fe (e := (86, .istore 6, 2, (0, 0, 0), [])) (by decide +kernel)) (pc' := 88) (L' := [some (.ref 201), some (.ref s), some (.int x0), some (.int x1), some (.int x2), some (.int x3), some (.int 0)]) (st' := []) rfl ?_
    exact congrArg mz_cV (mz_At_msk (L := [some (.ref 201), some (.ref s), some (.int x0), some (.int x1), some (.int x2), some (.int x3), some (.int 0)]) (L2 := [some (.ref 201), none, none, none, none, none, some (.int 0)]) (mz_fe (e := (88, .iload 6, 2, (0, 0, 0), [true, false, false, false, false, false, true])) (by decide +kernel)) rfl rfl)
  · refine q_o (mz_fe (e := (7, .aload_n 0, 1, (0, 0, 0), [])) (by decide +kernel)) (pc2 := 8) rfl ?_
    refine q_getI (mz_fe (e := (8, .getfield 34, 48, (5, 6, 0), [])) (by decide +kernel)) rfl (by decide) tg_201 (by rw [ln_201]; decide) ?_
    refine q_o (mz_fe (e := (11, .iload_n 2, 1, (0, 0, 0), [])) (by decide +kernel)) (pc2 := 12) rfl ?_
    refine q_if (c := .ne) (off := 30) (t := 42) (x := (mz_rd m 201 6)) (y := x0) (st := []) (mz_fe (e := (12, .if_icmp .ne 30, 3, (0, 0, 0), [])) (by decide +kernel)) (fun _ => rfl) rfl rfl rfl (fun c6 => ?_) (fun c6 => ?_)
    · refine q_o (mz_fe (e := (42, .aload_n 0, 1, (0, 0, 0), [])) (by decide +kernel)) (pc2 := 43) rfl ?_
      refine q_o (mz_fe (e := (43, .iload_n 2, 1, (0, 0, 0), [])) (by decide +kernel)) (pc2 := 44) rfl ?_
      refine q_putI (mz_fe (e := (44, .putfield 34, 48, (5, 6, 0), [])) (by decide +kernel)) rfl tg_201 (by rw [ln_201]; decide) ?_
      refine q_o (mz_fe (e := (47, .aload_n 0, 1, (0, 0, 0), [])) (by decide +kernel)) (pc2 := 48) rfl ?_
      refine q_o (mz_fe (e := (48, .iload_n 3, 1, (0, 0, 0), [])) (by decide +kernel)) (pc2 := 49) rfl ?_
      refine q_putI (mz_fe (e := (49, .putfield 38, 49, (5, 7, 0), [])) (by decide +kernel)) rfl tg_201 (by rw [ln_201]; decide) ?_
      refine q_o (mz_fe (e := (52, .aload_n 0, 1, (0, 0, 0), [])) (by decide +kernel)) (pc2 := 53) rfl ?_
      refine q_o (mz_fe (e := (53, .iload 4, 2, (0, 0, 0), [])) (by decide +kernel)) (pc2 := 55) rfl ?_
      refine q_putI (mz_fe (e := (55, .putfield 41, 50, (5, 8, 0), [])) (by decide +kernel)) rfl tg_201 (by rw [ln_201]; decide) ?_
      refine q_o (mz_fe (e := (58, .aload_n 0, 1, (0, 0, 0), [])) (by decide +kernel)) (pc2 := 59) rfl ?_
      refine q_o (mz_fe (e := (59, .iload 5, 2, (0, 0, 0), [])) (by decide +kernel)) (pc2 := 61) rfl ?_
      refine q_putI (mz_fe (e := (61, .putfield 44, 51, (5, 9, 0), [])) (by decide +kernel)) rfl tg_201 (by rw [ln_201]; decide) ?_
      refine q_o (mz_fe (e := (64, .aload_n 0, 1, (0, 0, 0), [])) (by decide +kernel)) (pc2 := 65) rfl ?_
      refine q_ic (v := 1) (mz_fe (e := (65, .iconst 1, 1, (0, 0, 0), [])) (by decide +kernel)) (by decide) ?_
      refine q_putZ (mz_fe (e := (66, .putfield 30, 47, (5, 4, 1), [])) (by decide +kernel)) rfl tg_201 (by rw [ln_201]; decide) (by decide) ?_
      refine q_o (mz_fe (e := (69, .aload_n 0, 1, (0, 0, 0), [])) (by decide +kernel)) (pc2 := 70) rfl ?_
      refine q_bi (v := (-2)) (mz_fe (e := (70, .bipush (-2), 2, (0, 0, 0), [])) (by decide +kernel)) (by decide) ?_
      refine q_putI (mz_fe (e := (72, .putfield 47, 52, (5, 5, 0), [])) (by decide +kernel)) rfl tg_201 (by rw [ln_201]; decide) ?_
      refine q_o (mz_fe (e := (75, .aload_n 0, 1, (0, 0, 0), [])) (by decide +kernel)) (pc2 := 76) rfl ?_
      refine q_getR (b := 202) (mz_fe (e := (76, .getfield 13, 43, (5, 2, 2), [])) (by decide +kernel)) rfl tg_201 (by rw [ln_201]; decide) (mz_rfS (by decide +kernel)) ?_
      refine q_ic (v := 0) (mz_fe (e := (79, .iconst 0, 1, (0, 0, 0), [])) (by decide +kernel)) (by decide) ?_
      refine q_aald (b := 204) (mz_fe (e := (80, .aaload, 1, (0, 0, 0), [])) (by decide +kernel)) rfl tg_202 ln_202 (by decide) (mz_rfS (by decide +kernel)) ?_
      refine q_o (mz_fe (e := (81, .aload_n 1, 1, (0, 0, 0), [])) (by decide +kernel)) (pc2 := 82) rfl ?_
      refine q_callV (N := 68) (vs := [.ref 204, .ref s]) (rest := []) (L' := [some (.ref 201), some (.ref s), some (.int x0), some (.int x1), some (.int x2), some (.int x3), none]) rfl (mz_fe (e := (82, .invokevirtual 50, 61, (68, 2, 12), [])) (by decide +kernel)) rfl (mz_inv_virt (N := 68) (k := 2) (t := 12) (st := [.ref s, .ref 204]) (rest := []) (b := 204) (vs := [.ref s]) (h := (mz_S0, (mz_wr (mz_wr (mz_wr (mz_wr (mz_wr (mz_wr m 201 6 x0) 201 7 x1) 201 8 x2) 201 9 x3) 201 4 1) 201 5 (-2)))) rfl rfl (Nat.le_of_ble_eq_true rfl) (Nat.le_of_ble_eq_true rfl) (st_t (by decide : mz_isS 204 = true)) (by decide)) (mz_dc_lt (n := 2) rfl (by decide +kernel) (by decide +kernel)) (by decide +kernel) (by decide +kernel) (fun m8 => ?_)
      refine q_ic (v := 0) (mz_fe (e := (85, .iconst 0, 1, (0, 0, 0), [])) (by decide +kernel)) (by decide) ?_
      refine q_s (mz_fe (e := (86, .istore 6, 2, (0, 0, 0), [])) (by decide +kernel)) (pc' := 88) (L' := [some (.ref 201), some (.ref s), some (.int x0), some (.int x1), some (.int x2), some (.int x3), some (.int 0)]) (st' := []) rfl ?_
      exact congrArg mz_cV (mz_At_msk (L := [some (.ref 201), some (.ref s), some (.int x0), some (.int x1), some (.int x2), some (.int x3), some (.int 0)]) (L2 := [some (.ref 201), none, none, none, none, none, some (.int 0)]) (mz_fe (e := (88, .iload 6, 2, (0, 0, 0), [true, false, false, false, false, false, true])) (by decide +kernel)) rfl rfl)
    · refine q_o (mz_fe (e := (15, .aload_n 0, 1, (0, 0, 0), [])) (by decide +kernel)) (pc2 := 16) rfl ?_
      refine q_getI (mz_fe (e := (16, .getfield 38, 49, (5, 7, 0), [])) (by decide +kernel)) rfl (by decide) tg_201 (by rw [ln_201]; decide) ?_
      refine q_o (mz_fe (e := (19, .iload_n 3, 1, (0, 0, 0), [])) (by decide +kernel)) (pc2 := 20) rfl ?_
      refine q_if (c := .ne) (off := 22) (t := 42) (x := (mz_rd m 201 7)) (y := x1) (st := []) (mz_fe (e := (20, .if_icmp .ne 22, 3, (0, 0, 0), [])) (by decide +kernel)) (fun _ => rfl) rfl rfl rfl (fun c11 => ?_) (fun c11 => ?_)
      · refine q_o (mz_fe (e := (42, .aload_n 0, 1, (0, 0, 0), [])) (by decide +kernel)) (pc2 := 43) rfl ?_
        refine q_o (mz_fe (e := (43, .iload_n 2, 1, (0, 0, 0), [])) (by decide +kernel)) (pc2 := 44) rfl ?_
        refine q_putI (mz_fe (e := (44, .putfield 34, 48, (5, 6, 0), [])) (by decide +kernel)) rfl tg_201 (by rw [ln_201]; decide) ?_
        refine q_o (mz_fe (e := (47, .aload_n 0, 1, (0, 0, 0), [])) (by decide +kernel)) (pc2 := 48) rfl ?_
        refine q_o (mz_fe (e := (48, .iload_n 3, 1, (0, 0, 0), [])) (by decide +kernel)) (pc2 := 49) rfl ?_
        refine q_putI (mz_fe (e := (49, .putfield 38, 49, (5, 7, 0), [])) (by decide +kernel)) rfl tg_201 (by rw [ln_201]; decide) ?_
        refine q_o (mz_fe (e := (52, .aload_n 0, 1, (0, 0, 0), [])) (by decide +kernel)) (pc2 := 53) rfl ?_
        refine q_o (mz_fe (e := (53, .iload 4, 2, (0, 0, 0), [])) (by decide +kernel)) (pc2 := 55) rfl ?_
        refine q_putI (mz_fe (e := (55, .putfield 41, 50, (5, 8, 0), [])) (by decide +kernel)) rfl tg_201 (by rw [ln_201]; decide) ?_
        refine q_o (mz_fe (e := (58, .aload_n 0, 1, (0, 0, 0), [])) (by decide +kernel)) (pc2 := 59) rfl ?_
        refine q_o (mz_fe (e := (59, .iload 5, 2, (0, 0, 0), [])) (by decide +kernel)) (pc2 := 61) rfl ?_
        refine q_putI (mz_fe (e := (61, .putfield 44, 51, (5, 9, 0), [])) (by decide +kernel)) rfl tg_201 (by rw [ln_201]; decide) ?_
        refine q_o (mz_fe (e := (64, .aload_n 0, 1, (0, 0, 0), [])) (by decide +kernel)) (pc2 := 65) rfl ?_
        refine q_ic (v := 1) (mz_fe (e := (65, .iconst 1, 1, (0, 0, 0), [])) (by decide +kernel)) (by decide) ?_
        refine q_putZ (mz_fe (e := (66, .putfield 30, 47, (5, 4, 1), [])) (by decide +kernel)) rfl tg_201 (by rw [ln_201]; decide) (by decide) ?_
        refine q_o (mz_fe (e := (69, .aload_n 0, 1, (0, 0, 0), [])) (by decide +kernel)) (pc2 := 70) rfl ?_
        refine q_bi (v := (-2)) (mz_fe (e := (70, .bipush (-2), 2, (0, 0, 0), [])) (by decide +kernel)) (by decide) ?_
        refine q_putI (mz_fe (e := (72, .putfield 47, 52, (5, 5, 0), [])) (by decide +kernel)) rfl tg_201 (by rw [ln_201]; decide) ?_
        refine q_o (mz_fe (e := (75, .aload_n 0, 1, (0, 0, 0), [])) (by decide +kernel)) (pc2 := 76) rfl ?_
        refine q_getR (b := 202) (mz_fe (e := (76, .getfield 13, 43, (5, 2, 2), [])) (by decide +kernel)) rfl tg_201 (by rw [ln_201]; decide) (mz_rfS (by decide +kernel)) ?_
        refine q_ic (v := 0) (mz_fe (e := (79, .iconst 0, 1, (0, 0, 0), [])) (by decide +kernel)) (by decide) ?_
        refine q_aald (b := 204) (mz_fe (e := (80, .aaload, 1, (0, 0, 0), [])) (by decide +kernel)) rfl tg_202 ln_202 (by decide) (mz_rfS (by decide +kernel)) ?_
        refine q_o (mz_fe (e := (81, .aload_n 1, 1, (0, 0, 0), [])) (by decide +kernel)) (pc2 := 82) rfl ?_
        refine q_callV (N := 68) (vs := [.ref 204, .ref s]) (rest := []) (L' := [some (.ref 201), some (.ref s), some (.int x0), some (.int x1), some (.int x2), some (.int x3), none]) rfl (mz_fe (e := (82, .invokevirtual 50, 61, (68, 2, 12), [])) (by decide +kernel)) rfl (mz_inv_virt (N := 68) (k := 2) (t := 12) (st := [.ref s, .ref 204]) (rest := []) (b := 204) (vs := [.ref s]) (h := (mz_S0, (mz_wr (mz_wr (mz_wr (mz_wr (mz_wr (mz_wr m 201 6 x0) 201 7 x1) 201 8 x2) 201 9 x3) 201 4 1) 201 5 (-2)))) rfl rfl (Nat.le_of_ble_eq_true rfl) (Nat.le_of_ble_eq_true rfl) (st_t (by decide : mz_isS 204 = true)) (by decide)) (mz_dc_lt (n := 2) rfl (by decide +kernel) (by decide +kernel)) (by decide +kernel) (by decide +kernel) (fun m13 => ?_)
        refine q_ic (v := 0) (mz_fe (e := (85, .iconst 0, 1, (0, 0, 0), [])) (by decide +kernel)) (by decide) ?_
        refine q_s (mz_fe (e := (86, .istore 6, 2, (0, 0, 0), [])) (by decide +kernel)) (pc' := 88) (L' := [some (.ref 201), some (.ref s), some (.int x0), some (.int x1), some (.int x2), some (.int x3), some (.int 0)]) (st' := []) rfl ?_
        exact congrArg mz_cV (mz_At_msk (L := [some (.ref 201), some (.ref s), some (.int x0), some (.int x1), some (.int x2), some (.int x3), some (.int 0)]) (L2 := [some (.ref 201), none, none, none, none, none, some (.int 0)]) (mz_fe (e := (88, .iload 6, 2, (0, 0, 0), [true, false, false, false, false, false, true])) (by decide +kernel)) rfl rfl)
      · refine q_o (mz_fe (e := (23, .aload_n 0, 1, (0, 0, 0), [])) (by decide +kernel)) (pc2 := 24) rfl ?_
        refine q_getI (mz_fe (e := (24, .getfield 41, 50, (5, 8, 0), [])) (by decide +kernel)) rfl (by decide) tg_201 (by rw [ln_201]; decide) ?_
        refine q_o (mz_fe (e := (27, .iload 4, 2, (0, 0, 0), [])) (by decide +kernel)) (pc2 := 29) rfl ?_
        refine q_if (c := .ne) (off := 13) (t := 42) (x := (mz_rd m 201 8)) (y := x2) (st := []) (mz_fe (e := (29, .if_icmp .ne 13, 3, (0, 0, 0), [])) (by decide +kernel)) (fun _ => rfl) rfl rfl rfl (fun c16 => ?_) (fun c16 => ?_)
        · refine q_o (mz_fe (e := (42, .aload_n 0, 1, (0, 0, 0), [])) (by decide +kernel)) (pc2 := 43) rfl ?_
          refine q_o (mz_fe (e := (43, .iload_n 2, 1, (0, 0, 0), [])) (by decide +kernel)) (pc2 := 44) rfl ?_
          refine q_putI (mz_fe (e := (44, .putfield 34, 48, (5, 6, 0), [])) (by decide +kernel)) rfl tg_201 (by rw [ln_201]; decide) ?_
          refine q_o (mz_fe (e := (47, .aload_n 0, 1, (0, 0, 0), [])) (by decide +kernel)) (pc2 := 48) rfl ?_
          refine q_o (mz_fe (e := (48, .iload_n 3, 1, (0, 0, 0), [])) (by decide +kernel)) (pc2 := 49) rfl ?_
          refine q_putI (mz_fe (e := (49, .putfield 38, 49, (5, 7, 0), [])) (by decide +kernel)) rfl tg_201 (by rw [ln_201]; decide) ?_
          refine q_o (mz_fe (e := (52, .aload_n 0, 1, (0, 0, 0), [])) (by decide +kernel)) (pc2 := 53) rfl ?_
          refine q_o (mz_fe (e := (53, .iload 4, 2, (0, 0, 0), [])) (by decide +kernel)) (pc2 := 55) rfl ?_
          refine q_putI (mz_fe (e := (55, .putfield 41, 50, (5, 8, 0), [])) (by decide +kernel)) rfl tg_201 (by rw [ln_201]; decide) ?_
          refine q_o (mz_fe (e := (58, .aload_n 0, 1, (0, 0, 0), [])) (by decide +kernel)) (pc2 := 59) rfl ?_
          refine q_o (mz_fe (e := (59, .iload 5, 2, (0, 0, 0), [])) (by decide +kernel)) (pc2 := 61) rfl ?_
          refine q_putI (mz_fe (e := (61, .putfield 44, 51, (5, 9, 0), [])) (by decide +kernel)) rfl tg_201 (by rw [ln_201]; decide) ?_
          refine q_o (mz_fe (e := (64, .aload_n 0, 1, (0, 0, 0), [])) (by decide +kernel)) (pc2 := 65) rfl ?_
          refine q_ic (v := 1) (mz_fe (e := (65, .iconst 1, 1, (0, 0, 0), [])) (by decide +kernel)) (by decide) ?_
          refine q_putZ (mz_fe (e := (66, .putfield 30, 47, (5, 4, 1), [])) (by decide +kernel)) rfl tg_201 (by rw [ln_201]; decide) (by decide) ?_
          refine q_o (mz_fe (e := (69, .aload_n 0, 1, (0, 0, 0), [])) (by decide +kernel)) (pc2 := 70) rfl ?_
          refine q_bi (v := (-2)) (mz_fe (e := (70, .bipush (-2), 2, (0, 0, 0), [])) (by decide +kernel)) (by decide) ?_
          refine q_putI (mz_fe (e := (72, .putfield 47, 52, (5, 5, 0), [])) (by decide +kernel)) rfl tg_201 (by rw [ln_201]; decide) ?_
          refine q_o (mz_fe (e := (75, .aload_n 0, 1, (0, 0, 0), [])) (by decide +kernel)) (pc2 := 76) rfl ?_
          refine q_getR (b := 202) (mz_fe (e := (76, .getfield 13, 43, (5, 2, 2), [])) (by decide +kernel)) rfl tg_201 (by rw [ln_201]; decide) (mz_rfS (by decide +kernel)) ?_
          refine q_ic (v := 0) (mz_fe (e := (79, .iconst 0, 1, (0, 0, 0), [])) (by decide +kernel)) (by decide) ?_
          refine q_aald (b := 204) (mz_fe (e := (80, .aaload, 1, (0, 0, 0), [])) (by decide +kernel)) rfl tg_202 ln_202 (by decide) (mz_rfS (by decide +kernel)) ?_
          refine q_o (mz_fe (e := (81, .aload_n 1, 1, (0, 0, 0), [])) (by decide +kernel)) (pc2 := 82) rfl ?_
          refine q_callV (N := 68) (vs := [.ref 204, .ref s]) (rest := []) (L' := [some (.ref 201), some (.ref s), some (.int x0), some (.int x1), some (.int x2), some (.int x3), none]) rfl (mz_fe (e := (82, .invokevirtual 50, 61, (68, 2, 12), [])) (by decide +kernel)) rfl (mz_inv_virt (N := 68) (k := 2) (t := 12) (st := [.ref s, .ref 204]) (rest := []) (b := 204) (vs := [.ref s]) (h := (mz_S0, (mz_wr (mz_wr (mz_wr (mz_wr (mz_wr (mz_wr m 201 6 x0) 201 7 x1) 201 8 x2) 201 9 x3) 201 4 1) 201 5 (-2)))) rfl rfl (Nat.le_of_ble_eq_true rfl) (Nat.le_of_ble_eq_true rfl) (st_t (by decide : mz_isS 204 = true)) (by decide)) (mz_dc_lt (n := 2) rfl (by decide +kernel) (by decide +kernel)) (by decide +kernel) (by decide +kernel) (fun m18 => ?_)
          refine q_ic (v := 0) (mz_fe (e := (85, .iconst 0, 1, (0, 0, 0), [])) (by decide +kernel)) (by decide) ?_
          refine q_s (mz_fe (e := (86, .istore 6, 2, (0, 0, 0), [])) (by decide +kernel)) (pc' := 88) (L' := [some (.ref 201), some (.ref s), some (.int x0), some (.int x1), some (.int x2), some (.int x3), some (.int 0)]) (st' := []) rfl ?_
          exact congrArg mz_cV (mz_At_msk (L := [some (.ref 201), some (.ref s), some (.int x0), some (.int x1), some (.int x2), some (.int x3), some (.int 0)]) (L2 := [some (.ref 201), none, none, none, none, none, some (.int 0)]) (mz_fe (e := (88, .iload 6, 2, (0, 0, 0), [true, false, false, false, false, false, true])) (by decide +kernel)) rfl rfl)
        · refine q_o (mz_fe (e := (32, .aload_n 0, 1, (0, 0, 0), [])) (by decide +kernel)) (pc2 := 33) rfl ?_
          refine q_getI (mz_fe (e := (33, .getfield 44, 51, (5, 9, 0), [])) (by decide +kernel)) rfl (by decide) tg_201 (by rw [ln_201]; decide) ?_
          refine q_o (mz_fe (e := (36, .iload 5, 2, (0, 0, 0), [])) (by decide +kernel)) (pc2 := 38) rfl ?_
          refine q_if (c := .ne) (off := 4) (t := 42) (x := (mz_rd m 201 9)) (y := x3) (st := []) (mz_fe (e := (38, .if_icmp .ne 4, 3, (0, 0, 0), [])) (by decide +kernel)) (fun _ => rfl) rfl rfl rfl (fun c21 => ?_) (fun c21 => ?_)
          · refine q_o (mz_fe (e := (42, .aload_n 0, 1, (0, 0, 0), [])) (by decide +kernel)) (pc2 := 43) rfl ?_
            refine q_o (mz_fe (e := (43, .iload_n 2, 1, (0, 0, 0), [])) (by decide +kernel)) (pc2 := 44) rfl ?_
            refine q_putI (mz_fe (e := (44, .putfield 34, 48, (5, 6, 0), [])) (by decide +kernel)) rfl tg_201 (by rw [ln_201]; decide) ?_
            refine q_o (mz_fe (e := (47, .aload_n 0, 1, (0, 0, 0), [])) (by decide +kernel)) (pc2 := 48) rfl ?_
            refine q_o (mz_fe (e := (48, .iload_n 3, 1, (0, 0, 0), [])) (by decide +kernel)) (pc2 := 49) rfl ?_
            refine q_putI (mz_fe (e := (49, .putfield 38, 49, (5, 7, 0), [])) (by decide +kernel)) rfl tg_201 (by rw [ln_201]; decide) ?_
            refine q_o (mz_fe (e := (52, .aload_n 0, 1, (0, 0, 0), [])) (by decide +kernel)) (pc2 := 53) rfl ?_
            refine q_o (mz_fe (e := (53, .iload 4, 2, (0, 0, 0), [])) (by decide +kernel)) (pc2 := 55) rfl ?_
            refine q_putI (mz_fe (e := (55, .putfield 41, 50, (5, 8, 0), [])) (by decide +kernel)) rfl tg_201 (by rw [ln_201]; decide) ?_
            refine q_o (mz_fe (e := (58, .aload_n 0, 1, (0, 0, 0), [])) (by decide +kernel)) (pc2 := 59) rfl ?_
            refine q_o (mz_fe (e := (59, .iload 5, 2, (0, 0, 0), [])) (by decide +kernel)) (pc2 := 61) rfl ?_
            refine q_putI (mz_fe (e := (61, .putfield 44, 51, (5, 9, 0), [])) (by decide +kernel)) rfl tg_201 (by rw [ln_201]; decide) ?_
            refine q_o (mz_fe (e := (64, .aload_n 0, 1, (0, 0, 0), [])) (by decide +kernel)) (pc2 := 65) rfl ?_
            refine q_ic (v := 1) (mz_fe (e := (65, .iconst 1, 1, (0, 0, 0), [])) (by decide +kernel)) (by decide) ?_
            refine q_putZ (mz_fe (e := (66, .putfield 30, 47, (5, 4, 1), [])) (by decide +kernel)) rfl tg_201 (by rw [ln_201]; decide) (by decide) ?_
            refine q_o (mz_fe (e := (69, .aload_n 0, 1, (0, 0, 0), [])) (by decide +kernel)) (pc2 := 70) rfl ?_
            refine q_bi (v := (-2)) (mz_fe (e := (70, .bipush (-2), 2, (0, 0, 0), [])) (by decide +kernel)) (by decide) ?_
            refine q_putI (mz_fe (e := (72, .putfield 47, 52, (5, 5, 0), [])) (by decide +kernel)) rfl tg_201 (by rw [ln_201]; decide) ?_
            refine q_o (mz_fe (e := (75, .aload_n 0, 1, (0, 0, 0), [])) (by decide +kernel)) (pc2 := 76) rfl ?_
            refine q_getR (b := 202) (mz_fe (e := (76, .getfield 13, 43, (5, 2, 2), [])) (by decide +kernel)) rfl tg_201 (by rw [ln_201]; decide) (mz_rfS (by decide +kernel)) ?_
            refine q_ic (v := 0) (mz_fe (e := (79, .iconst 0, 1, (0, 0, 0), [])) (by decide +kernel)) (by decide) ?_
            refine q_aald (b := 204) (mz_fe (e := (80, .aaload, 1, (0, 0, 0), [])) (by decide +kernel)) rfl tg_202 ln_202 (by decide) (mz_rfS (by decide +kernel)) ?_
            refine q_o (mz_fe (e := (81, .aload_n 1, 1, (0, 0, 0), [])) (by decide +kernel)) (pc2 := 82) rfl ?_
            refine q_callV (N := 68) (vs := [.ref 204, .ref s]) (rest := []) (L' := [some (.ref 201), some (.ref s), some (.int x0), some (.int x1), some (.int x2), some (.int x3), none]) rfl (mz_fe (e := (82, .invokevirtual 50, 61, (68, 2, 12), [])) (by decide +kernel)) rfl (mz_inv_virt (N := 68) (k := 2) (t := 12) (st := [.ref s, .ref 204]) (rest := []) (b := 204) (vs := [.ref s]) (h := (mz_S0, (mz_wr (mz_wr (mz_wr (mz_wr (mz_wr (mz_wr m 201 6 x0) 201 7 x1) 201 8 x2) 201 9 x3) 201 4 1) 201 5 (-2)))) rfl rfl (Nat.le_of_ble_eq_true rfl) (Nat.le_of_ble_eq_true rfl) (st_t (by decide : mz_isS 204 = true)) (by decide)) (mz_dc_lt (n := 2) rfl (by decide +kernel) (by decide +kernel)) (by decide +kernel) (by decide +kernel) (fun m23 => ?_)
            refine q_ic (v := 0) (mz_fe (e := (85, .iconst 0, 1, (0, 0, 0), [])) (by decide +kernel)) (by decide) ?_
            refine q_s (mz_fe (e := (86, .istore 6, 2, (0, 0, 0), [])) (by decide +kernel)) (pc' := 88) (L' := [some (.ref 201), some (.ref s), some (.int x0), some (.int x1), some (.int x2), some (.int x3), some (.int 0)]) (st' := []) rfl ?_
            exact congrArg mz_cV (mz_At_msk (L := [some (.ref 201), some (.ref s), some (.int x0), some (.int x1), some (.int x2), some (.int x3), some (.int 0)]) (L2 := [some (.ref 201), none, none, none, none, none, some (.int 0)]) (mz_fe (e := (88, .iload 6, 2, (0, 0, 0), [true, false, false, false, false, false, true])) (by decide +kernel)) rfl rfl)
          · exact q_retV (mz_fe (e := (41, .return_, 1, (0, 0, 0), [])) (by decide +kernel)) (by decide +kernel)
set_option maxRecDepth 10000 in
theorem H_X5_find_88_eq (d : Nat) (y6 : Int32) (m : MzM)  : H_X5_find_88 d y6 m = if (3 : Int32) < y6 then some m else (if ¬ (mz_rd m 201 5) = (-2) then some m else ((R_X5_reaches d 0 y6 m).bind (fun u30 => if u30.1 = 0 then (H_X5_find_88 d (y6 + 1) u30.2) else (H_X5_find_88 d (y6 + 1) (mz_wr u30.2 201 5 y6))))) := by
  show mz_cV (mz_T d 62 88 [some (.ref 201), none, none, none, none, none, some (.int y6)] [] m) = _
  refine q_s (mz_fe (e := (88, .iload 6, 2, (0, 0, 0), [true, false, false, false, false, false, true])) (by decide +kernel)) (pc' := 90) (L' := [some (.ref 201), none, none, none, none, none, some (.int y6)]) (st' := [.int y6]) rfl ?_
  refine q_ic (v := 3) (mz_fe (e := (90, .iconst 3, 1, (0, 0, 0), [])) (by decide +kernel)) (by decide) ?_
  refine q_if (c := .gt) (off := 34) (t := 125) (x := y6) (y := 3) (st := []) (mz_fe (e := (91, .if_icmp .gt 34, 3, (0, 0, 0), [])) (by decide +kernel)) (fun _ => rfl) rfl rfl rfl (fun c26 => ?_) (fun c26 => ?_)
  · exact q_retV (mz_fe (e := (125, .return_, 1, (0, 0, 0), [])) (by decide +kernel)) (by decide +kernel)
  · refine q_o (mz_fe (e := (94, .aload_n 0, 1, (0, 0, 0), [])) (by decide +kernel)) (pc2 := 95) rfl ?_
    refine q_getI (mz_fe (e := (95, .getfield 47, 52, (5, 5, 0), [])) (by decide +kernel)) rfl (by decide) tg_201 (by rw [ln_201]; decide) ?_
    refine q_bi (v := (-2)) (mz_fe (e := (98, .bipush (-2), 2, (0, 0, 0), [])) (by decide +kernel)) (by decide) ?_
    refine q_if (c := .ne) (off := 25) (t := 125) (x := (mz_rd m 201 5)) (y := (-2)) (st := []) (mz_fe (e := (100, .if_icmp .ne 25, 3, (0, 0, 0), [])) (by decide +kernel)) (fun _ => rfl) rfl rfl rfl (fun c27 => ?_) (fun c27 => ?_)
    · exact q_retV (mz_fe (e := (125, .return_, 1, (0, 0, 0), [])) (by decide +kernel)) (by decide +kernel)
    · refine q_o (mz_fe (e := (103, .aload_n 0, 1, (0, 0, 0), [])) (by decide +kernel)) (pc2 := 104) rfl ?_
      refine q_ic (v := 0) (mz_fe (e := (104, .iconst 0, 1, (0, 0, 0), [])) (by decide +kernel)) (by decide) ?_
      refine q_o (mz_fe (e := (105, .iload 6, 2, (0, 0, 0), [])) (by decide +kernel)) (pc2 := 107) rfl ?_
      refine q_callI (N := 64) (vs := [.ref 201, .int 0, .int y6]) (rest := []) (L' := [some (.ref 201), none, none, none, none, none, some (.int y6)]) (f := fun v29 m28 => if v29 = 0 then (H_X5_find_88 d (y6 + 1) m28) else (H_X5_find_88 d (y6 + 1) (mz_wr m28 201 5 y6))) rfl (mz_fe (e := (107, .invokevirtual 54, 62, (64, 3, 11), [])) (by decide +kernel)) rfl (mz_inv_virt (N := 64) (k := 3) (t := 11) (st := [.int y6, .int 0, .ref 201]) (rest := []) (b := 201) (vs := [.int 0, .int y6]) (h := (mz_S0, m)) rfl rfl (Nat.le_of_ble_eq_true rfl) (Nat.le_of_ble_eq_true rfl) tg_201 (by decide)) (mz_dc_lt (n := 3) rfl (by decide +kernel) (by decide +kernel)) (by decide +kernel) (Or.inr (by decide +kernel)) (fun v29 m28 => ?_)
      refine q_if (c := .eq) (off := 9) (t := 119) (x := v29) (y := 0) (st := []) (mz_fe (e := (110, .ifCond .eq 9, 3, (0, 0, 0), [])) (by decide +kernel)) (fun _ => rfl) rfl rfl rfl (fun c31 => ?_) (fun c31 => ?_)
      · refine q_iinc (v := y6) (c := 1) (L3 := [some (.ref 201), none, none, none, none, none, some (.int (y6 + 1))]) (mz_fe (e := (119, .iinc 6 1, 3, (0, 0, 0), [])) (by decide +kernel)) rfl rfl (by decide) rfl ?_
        refine q_o (mz_fe (e := (122, .goto (-34), 3, (0, 0, 0), [])) (by decide +kernel)) (pc2 := 88) rfl ?_
        exact congrArg mz_cV (mz_At_msk (L := [some (.ref 201), none, none, none, none, none, some (.int (y6 + 1))]) (L2 := [some (.ref 201), none, none, none, none, none, some (.int (y6 + 1))]) (mz_fe (e := (88, .iload 6, 2, (0, 0, 0), [true, false, false, false, false, false, true])) (by decide +kernel)) rfl rfl)
      · refine q_o (mz_fe (e := (113, .aload_n 0, 1, (0, 0, 0), [])) (by decide +kernel)) (pc2 := 114) rfl ?_
        refine q_o (mz_fe (e := (114, .iload 6, 2, (0, 0, 0), [])) (by decide +kernel)) (pc2 := 116) rfl ?_
        refine q_putI (mz_fe (e := (116, .putfield 47, 52, (5, 5, 0), [])) (by decide +kernel)) rfl tg_201 (by rw [ln_201]; decide) ?_
        refine q_iinc (v := y6) (c := 1) (L3 := [some (.ref 201), none, none, none, none, none, some (.int (y6 + 1))]) (mz_fe (e := (119, .iinc 6 1, 3, (0, 0, 0), [])) (by decide +kernel)) rfl rfl (by decide) rfl ?_
        refine q_o (mz_fe (e := (122, .goto (-34), 3, (0, 0, 0), [])) (by decide +kernel)) (pc2 := 88) rfl ?_
        exact congrArg mz_cV (mz_At_msk (L := [some (.ref 201), none, none, none, none, none, some (.int (y6 + 1))]) (L2 := [some (.ref 201), none, none, none, none, none, some (.int (y6 + 1))]) (mz_fe (e := (88, .iload 6, 2, (0, 0, 0), [true, false, false, false, false, false, true])) (by decide +kernel)) rfl rfl)
set_option maxRecDepth 10000 in
theorem R_X5_answer_eq (d : Nat) (x0 : Int32) (m : MzM)  : R_X5_answer d x0 m = if (mz_rd m 201 5) = (-2) then (some ((mz_rd m 201 5), m)) else (if ¬ x0 = (-1) then (if x0 < 0 then (some ((-1), m)) else (if (mz_rd m 201 5) ≤ x0 then (some ((-1), m)) else (mz_g (mz_ok x0 3) (some ((mz_rd m 203 (x0 : Int32).toNatClampNeg), m))))) else (some ((mz_rd m 201 5), m))) := by
  show mz_cI (mz_T d 63 0 (mz_en (mz_xl 63) [.ref 201, .int x0]) [] m) = _
  rw [show mz_en (mz_xl 63) [.ref 201, .int x0] = [some (.ref 201), some (.int x0)] from by rw [show mz_xl 63 = 2 from by decide +kernel]; rfl]
  refine q_o (mz_fe (e := (0, .aload_n 0, 1, (0, 0, 0), [])) (by decide +kernel)) (pc2 := 1) rfl ?_
  refine q_getI (mz_fe (e := (1, .getfield 47, 52, (5, 5, 0), [])) (by decide +kernel)) rfl (by decide) tg_201 (by rw [ln_201]; decide) ?_
  refine q_bi (v := (-2)) (mz_fe (e := (4, .bipush (-2), 2, (0, 0, 0), [])) (by decide +kernel)) (by decide) ?_
  refine q_if (c := .eq) (off := 8) (t := 14) (x := (mz_rd m 201 5)) (y := (-2)) (st := []) (mz_fe (e := (6, .if_icmp .eq 8, 3, (0, 0, 0), [])) (by decide +kernel)) (fun _ => rfl) rfl rfl rfl (fun c1 => ?_) (fun c1 => ?_)
  · refine q_o (mz_fe (e := (14, .aload_n 0, 1, (0, 0, 0), [])) (by decide +kernel)) (pc2 := 15) rfl ?_
    refine q_getI (mz_fe (e := (15, .getfield 47, 52, (5, 5, 0), [])) (by decide +kernel)) rfl (by decide) tg_201 (by rw [ln_201]; decide) ?_
    exact q_retI (mz_fe (e := (18, .ireturn, 1, (0, 0, 0), [])) (by decide +kernel)) (by decide +kernel)
  · refine q_o (mz_fe (e := (9, .iload_n 1, 1, (0, 0, 0), [])) (by decide +kernel)) (pc2 := 10) rfl ?_
    refine q_ic (v := (-1)) (mz_fe (e := (10, .iconst (-1), 1, (0, 0, 0), [])) (by decide +kernel)) (by decide) ?_
    refine q_if (c := .ne) (off := 8) (t := 19) (x := x0) (y := (-1)) (st := []) (mz_fe (e := (11, .if_icmp .ne 8, 3, (0, 0, 0), [])) (by decide +kernel)) (fun _ => rfl) rfl rfl rfl (fun c2 => ?_) (fun c2 => ?_)
    · refine q_o (mz_fe (e := (19, .iload_n 1, 1, (0, 0, 0), [])) (by decide +kernel)) (pc2 := 20) rfl ?_
      refine q_if (c := .lt) (off := 20) (t := 40) (x := x0) (y := 0) (st := []) (mz_fe (e := (20, .ifCond .lt 20, 3, (0, 0, 0), [])) (by decide +kernel)) (fun _ => rfl) rfl rfl rfl (fun c3 => ?_) (fun c3 => ?_)
      · refine q_ic (v := (-1)) (mz_fe (e := (40, .iconst (-1), 1, (0, 0, 0), [])) (by decide +kernel)) (by decide) ?_
        exact q_retI (mz_fe (e := (41, .ireturn, 1, (0, 0, 0), [])) (by decide +kernel)) (by decide +kernel)
      · refine q_o (mz_fe (e := (23, .iload_n 1, 1, (0, 0, 0), [])) (by decide +kernel)) (pc2 := 24) rfl ?_
        refine q_o (mz_fe (e := (24, .aload_n 0, 1, (0, 0, 0), [])) (by decide +kernel)) (pc2 := 25) rfl ?_
        refine q_getI (mz_fe (e := (25, .getfield 47, 52, (5, 5, 0), [])) (by decide +kernel)) rfl (by decide) tg_201 (by rw [ln_201]; decide) ?_
        refine q_if (c := .ge) (off := 12) (t := 40) (x := x0) (y := (mz_rd m 201 5)) (st := []) (mz_fe (e := (28, .if_icmp .ge 12, 3, (0, 0, 0), [])) (by decide +kernel)) (fun _ => rfl) rfl rfl rfl (fun c4 => ?_) (fun c4 => ?_)
        · refine q_ic (v := (-1)) (mz_fe (e := (40, .iconst (-1), 1, (0, 0, 0), [])) (by decide +kernel)) (by decide) ?_
          exact q_retI (mz_fe (e := (41, .ireturn, 1, (0, 0, 0), [])) (by decide +kernel)) (by decide +kernel)
        · refine q_o (mz_fe (e := (31, .aload_n 0, 1, (0, 0, 0), [])) (by decide +kernel)) (pc2 := 32) rfl ?_
          refine q_getR (b := 203) (mz_fe (e := (32, .getfield 17, 44, (5, 3, 2), [])) (by decide +kernel)) rfl tg_201 (by rw [ln_201]; decide) (mz_rfS (by decide +kernel)) ?_
          refine q_o (mz_fe (e := (35, .iload_n 1, 1, (0, 0, 0), [])) (by decide +kernel)) (pc2 := 36) rfl ?_
          refine q_ialdg rfl (mz_fe (e := (36, .iaload, 1, (0, 0, 0), [])) (by decide +kernel)) rfl (by decide) tg_203 ln_203 (fun g5 => ?_)
          refine q_o (mz_fe (e := (37, .goto 4, 3, (0, 0, 0), [])) (by decide +kernel)) (pc2 := 41) rfl ?_
          exact q_retI (mz_fe (e := (41, .ireturn, 1, (0, 0, 0), [])) (by decide +kernel)) (by decide +kernel)
    · refine q_o (mz_fe (e := (14, .aload_n 0, 1, (0, 0, 0), [])) (by decide +kernel)) (pc2 := 15) rfl ?_
      refine q_getI (mz_fe (e := (15, .getfield 47, 52, (5, 5, 0), [])) (by decide +kernel)) rfl (by decide) tg_201 (by rw [ln_201]; decide) ?_
      exact q_retI (mz_fe (e := (18, .ireturn, 1, (0, 0, 0), [])) (by decide +kernel)) (by decide +kernel)
set_option maxRecDepth 10000 in
theorem R_X5_reaches_eq (d' : Nat) (x0 : Int32) (x1 : Int32) (m : MzM)  : R_X5_reaches (d' + 1) x0 x1 m = if x1 ≤ x0 then (mz_g (mz_ok x0 4) ((R_X5_isSo (d' + 1) (204 + 4 * (x0 : Int32).toNatClampNeg) m).bind (fun u5 => mz_g (decide (u5.1 = 0 ∨ u5.1 = 1)) (some (u5.1, u5.2))))) else (if x0 < 3 then (H_X5_reaches_23 (d' + 1) x0 x1 0 m) else (mz_g (mz_ok x0 4) ((R_X5_isSo (d' + 1) (204 + 4 * (x0 : Int32).toNatClampNeg) m).bind (fun u10 => mz_g (decide (u10.1 = 0 ∨ u10.1 = 1)) (some (u10.1, u10.2)))))) := by
  show mz_cI (mz_T (d' + 1) 64 0 (mz_en (mz_xl 64) [.ref 201, .int x0, .int x1]) [] m) = _
  rw [show mz_en (mz_xl 64) [.ref 201, .int x0, .int x1] = [some (.ref 201), some (.int x0), some (.int x1), none, none] from by rw [show mz_xl 64 = 5 from by decide +kernel]; rfl]
  refine q_o (mz_fe (e := (0, .iload_n 1, 1, (0, 0, 0), [])) (by decide +kernel)) (pc2 := 1) rfl ?_
  refine q_o (mz_fe (e := (1, .iload_n 2, 1, (0, 0, 0), [])) (by decide +kernel)) (pc2 := 2) rfl ?_
  refine q_if (c := .ge) (off := 8) (t := 10) (x := x0) (y := x1) (st := []) (mz_fe (e := (2, .if_icmp .ge 8, 3, (0, 0, 0), [])) (by decide +kernel)) (fun _ => rfl) rfl rfl rfl (fun c1 => ?_) (fun c1 => ?_)
  · refine q_o (mz_fe (e := (10, .aload_n 0, 1, (0, 0, 0), [])) (by decide +kernel)) (pc2 := 11) rfl ?_
    refine q_o (mz_fe (e := (11, .aload_n 0, 1, (0, 0, 0), [])) (by decide +kernel)) (pc2 := 12) rfl ?_
    refine q_getR (b := 202) (mz_fe (e := (12, .getfield 13, 43, (5, 2, 2), [])) (by decide +kernel)) rfl tg_201 (by rw [ln_201]; decide) (mz_rfS (by decide +kernel)) ?_
    refine q_o (mz_fe (e := (15, .iload_n 1, 1, (0, 0, 0), [])) (by decide +kernel)) (pc2 := 16) rfl ?_
    refine q_aaldg (F := fun j => 204 + 4 * j) rfl (mz_fe (e := (16, .aaload, 1, (0, 0, 0), [])) (by decide +kernel)) rfl tg_202 ln_202 rf_behind (fun g2 => ?_)
    refine q_callI (N := 66) (vs := [.ref 201, .ref (204 + 4 * (x0 : Int32).toNatClampNeg)]) (rest := []) (L' := [some (.ref 201), some (.int x0), some (.int x1), none, none]) (f := fun v4 m3 => mz_g (decide (v4 = 0 ∨ v4 = 1)) (some (v4, m3))) rfl (mz_fe (e := (17, .invokevirtual 58, 63, (66, 2, 11), [])) (by decide +kernel)) rfl (mz_inv_virt (N := 66) (k := 2) (t := 11) (st := [.ref (204 + 4 * (x0 : Int32).toNatClampNeg), .ref 201]) (rest := []) (b := 201) (vs := [.ref (204 + 4 * (x0 : Int32).toNatClampNeg)]) (h := (mz_S0, m)) rfl rfl (Nat.le_of_ble_eq_true rfl) (Nat.le_of_ble_eq_true rfl) tg_201 (by decide)) (mz_dc_lt (n := 2) rfl (by decide +kernel) (by decide +kernel)) (by decide +kernel) (Or.inr (by decide +kernel)) (fun v4 m3 => ?_)
    exact q_retZg (mz_fe (e := (20, .ireturn, 1, (0, 0, 0), [])) (by decide +kernel)) (by decide +kernel)
  · refine q_o (mz_fe (e := (5, .iload_n 1, 1, (0, 0, 0), [])) (by decide +kernel)) (pc2 := 6) rfl ?_
    refine q_ic (v := 3) (mz_fe (e := (6, .iconst 3, 1, (0, 0, 0), [])) (by decide +kernel)) (by decide) ?_
    refine q_if (c := .lt) (off := 14) (t := 21) (x := x0) (y := 3) (st := []) (mz_fe (e := (7, .if_icmp .lt 14, 3, (0, 0, 0), [])) (by decide +kernel)) (fun _ => rfl) rfl rfl rfl (fun c6 => ?_) (fun c6 => ?_)
    · refine q_ic (v := 0) (mz_fe (e := (21, .iconst 0, 1, (0, 0, 0), [])) (by decide +kernel)) (by decide) ?_
      refine q_s (mz_fe (e := (22, .istore_n 3, 1, (0, 0, 0), [])) (by decide +kernel)) (pc' := 23) (L' := [some (.ref 201), some (.int x0), some (.int x1), some (.int 0), none]) (st' := []) rfl ?_
      exact congrArg mz_cI (mz_At_msk (L := [some (.ref 201), some (.int x0), some (.int x1), some (.int 0), none]) (L2 := [some (.ref 201), some (.int x0), some (.int x1), some (.int 0), none]) (mz_fe (e := (23, .iload_n 3, 1, (0, 0, 0), [true, true, true, true, false])) (by decide +kernel)) rfl rfl)
    · refine q_o (mz_fe (e := (10, .aload_n 0, 1, (0, 0, 0), [])) (by decide +kernel)) (pc2 := 11) rfl ?_
      refine q_o (mz_fe (e := (11, .aload_n 0, 1, (0, 0, 0), [])) (by decide +kernel)) (pc2 := 12) rfl ?_
      refine q_getR (b := 202) (mz_fe (e := (12, .getfield 13, 43, (5, 2, 2), [])) (by decide +kernel)) rfl tg_201 (by rw [ln_201]; decide) (mz_rfS (by decide +kernel)) ?_
      refine q_o (mz_fe (e := (15, .iload_n 1, 1, (0, 0, 0), [])) (by decide +kernel)) (pc2 := 16) rfl ?_
      refine q_aaldg (F := fun j => 204 + 4 * j) rfl (mz_fe (e := (16, .aaload, 1, (0, 0, 0), [])) (by decide +kernel)) rfl tg_202 ln_202 rf_behind (fun g7 => ?_)
      refine q_callI (N := 66) (vs := [.ref 201, .ref (204 + 4 * (x0 : Int32).toNatClampNeg)]) (rest := []) (L' := [some (.ref 201), some (.int x0), some (.int x1), none, none]) (f := fun v9 m8 => mz_g (decide (v9 = 0 ∨ v9 = 1)) (some (v9, m8))) rfl (mz_fe (e := (17, .invokevirtual 58, 63, (66, 2, 11), [])) (by decide +kernel)) rfl (mz_inv_virt (N := 66) (k := 2) (t := 11) (st := [.ref (204 + 4 * (x0 : Int32).toNatClampNeg), .ref 201]) (rest := []) (b := 201) (vs := [.ref (204 + 4 * (x0 : Int32).toNatClampNeg)]) (h := (mz_S0, m)) rfl rfl (Nat.le_of_ble_eq_true rfl) (Nat.le_of_ble_eq_true rfl) tg_201 (by decide)) (mz_dc_lt (n := 2) rfl (by decide +kernel) (by decide +kernel)) (by decide +kernel) (Or.inr (by decide +kernel)) (fun v9 m8 => ?_)
      exact q_retZg (mz_fe (e := (20, .ireturn, 1, (0, 0, 0), [])) (by decide +kernel)) (by decide +kernel)
set_option maxRecDepth 10000 in
theorem H_X5_reaches_23_eq (d' : Nat) (y1 : Int32) (y2 : Int32) (y3 : Int32) (m : MzM)  : H_X5_reaches_23 (d' + 1) y1 y2 y3 m = if (mz_rd m 4 4) ≤ y3 then (some (0, m)) else (H_X5_reaches_39 (d' + 1) y1 y2 y3 (y3 + 1) m) := by
  show mz_cI (mz_T (d' + 1) 64 23 [some (.ref 201), some (.int y1), some (.int y2), some (.int y3), none] [] m) = _
  refine q_s (mz_fe (e := (23, .iload_n 3, 1, (0, 0, 0), [true, true, true, true, false])) (by decide +kernel)) (pc' := 24) (L' := [some (.ref 201), some (.int y1), some (.int y2), some (.int y3), none]) (st' := [.int y3]) rfl ?_
  refine q_o (mz_fe (e := (24, .aload_n 0, 1, (0, 0, 0), [])) (by decide +kernel)) (pc2 := 25) rfl ?_
  refine q_getR (b := 4) (mz_fe (e := (25, .getfield 21, 45, (5, 0, 2), [])) (by decide +kernel)) rfl tg_201 (by rw [ln_201]; decide) (mz_rfS (by decide +kernel)) ?_
  refine q_getI (mz_fe (e := (28, .getfield 62, 53, (8, 4, 0), [])) (by decide +kernel)) rfl (by decide) tg_4 (by rw [ln_4]; decide) ?_
  refine q_if (c := .ge) (off := 110) (t := 141) (x := y3) (y := (mz_rd m 4 4)) (st := []) (mz_fe (e := (31, .if_icmp .ge 110, 3, (0, 0, 0), [])) (by decide +kernel)) (fun _ => rfl) rfl rfl rfl (fun c11 => ?_) (fun c11 => ?_)
  · refine q_ic (v := 0) (mz_fe (e := (141, .iconst 0, 1, (0, 0, 0), [])) (by decide +kernel)) (by decide) ?_
    exact q_retZ (mz_fe (e := (142, .ireturn, 1, (0, 0, 0), [])) (by decide +kernel)) (by decide +kernel) (by decide)
  · refine q_o (mz_fe (e := (34, .iload_n 3, 1, (0, 0, 0), [])) (by decide +kernel)) (pc2 := 35) rfl ?_
    refine q_ic (v := 1) (mz_fe (e := (35, .iconst 1, 1, (0, 0, 0), [])) (by decide +kernel)) (by decide) ?_
    refine q_o (mz_fe (e := (36, .iadd, 1, (0, 0, 0), [])) (by decide +kernel)) (pc2 := 37) rfl ?_
    refine q_s (mz_fe (e := (37, .istore 4, 2, (0, 0, 0), [])) (by decide +kernel)) (pc' := 39) (L' := [some (.ref 201), some (.int y1), some (.int y2), some (.int y3), some (.int (y3 + 1))]) (st' := []) rfl ?_
    exact congrArg mz_cI (mz_At_msk (L := [some (.ref 201), some (.int y1), some (.int y2), some (.int y3), some (.int (y3 + 1))]) (L2 := [some (.ref 201), some (.int y1), some (.int y2), some (.int y3), some (.int (y3 + 1))]) (mz_fe (e := (39, .iload 4, 2, (0, 0, 0), [true, true, true, true, true])) (by decide +kernel)) rfl rfl)
set_option maxRecDepth 10000 in
theorem H_X5_reaches_39_eq (d' : Nat) (y1 : Int32) (y2 : Int32) (y3 : Int32) (y4 : Int32) (m : MzM)  : H_X5_reaches_39 (d' + 1) y1 y2 y3 y4 m = if (mz_rd m 4 4) ≤ y4 then (H_X5_reaches_23 (d' + 1) y1 y2 (y3 + 1) m) else (if (y1 + 1) < y2 then (mz_g (mz_ok y1 3) (mz_g (mz_ok (y1 + 1) 4) (mz_g (mz_ok y1 4) ((R_X6_copyFrom (d' + 1) (204 + 4 * ((y1 + 1) : Int32).toNatClampNeg) (204 + 4 * (y1 : Int32).toNatClampNeg) (mz_wr m 203 (y1 : Int32).toNatClampNeg (((10 : Int32) * y3) + y4))).bind (fun m17 => mz_g (mz_ok (y1 + 1) 4) ((R_X3_putThrough (d' + 1) (204 + 4 * ((y1 + 1) : Int32).toNatClampNeg) y3 y4 m17).bind (fun m21 => (R_X5_reaches d' (y1 + 1) y2 m21).bind (fun u26 => if u26.1 = 0 then (H_X5_reaches_39 (d' + 1) y1 y2 y3 (y4 + 1) u26.2) else (some (1, u26.2)))))))))) else ((R_X5_canMakeSo (d' + 1) y3 y4 m).bind (fun u30 => if u30.1 = 0 then (H_X5_reaches_39 (d' + 1) y1 y2 y3 (y4 + 1) u30.2) else (mz_g (mz_ok y1 3) (mz_g (mz_ok (y1 + 1) 4) (mz_g (mz_ok y1 4) ((R_X6_copyFrom (d' + 1) (204 + 4 * ((y1 + 1) : Int32).toNatClampNeg) (204 + 4 * (y1 : Int32).toNatClampNeg) (mz_wr u30.2 203 (y1 : Int32).toNatClampNeg (((10 : Int32) * y3) + y4))).bind (fun m35 => mz_g (mz_ok (y1 + 1) 4) ((R_X3_putThrough (d' + 1) (204 + 4 * ((y1 + 1) : Int32).toNatClampNeg) y3 y4 m35).bind (fun m39 => (R_X5_reaches d' (y1 + 1) y2 m39).bind (fun u44 => if u44.1 = 0 then (H_X5_reaches_39 (d' + 1) y1 y2 y3 (y4 + 1) u44.2) else (some (1, u44.2))))))))))))) := by
  show mz_cI (mz_T (d' + 1) 64 39 [some (.ref 201), some (.int y1), some (.int y2), some (.int y3), some (.int y4)] [] m) = _
  refine q_s (mz_fe (e := (39, .iload 4, 2, (0, 0, 0), [true, true, true, true, true])) (by decide +kernel)) (pc' := 41) (L' := [some (.ref 201), some (.int y1), some (.int y2), some (.int y3), some (.int y4)]) (st' := [.int y4]) rfl ?_
  refine q_o (mz_fe (e := (41, .aload_n 0, 1, (0, 0, 0), [])) (by decide +kernel)) (pc2 := 42) rfl ?_
  refine q_getR (b := 4) (mz_fe (e := (42, .getfield 21, 45, (5, 0, 2), [])) (by decide +kernel)) rfl tg_201 (by rw [ln_201]; decide) (mz_rfS (by decide +kernel)) ?_
  refine q_getI (mz_fe (e := (45, .getfield 62, 53, (8, 4, 0), [])) (by decide +kernel)) rfl (by decide) tg_4 (by rw [ln_4]; decide) ?_
  refine q_if (c := .ge) (off := 87) (t := 135) (x := y4) (y := (mz_rd m 4 4)) (st := []) (mz_fe (e := (48, .if_icmp .ge 87, 3, (0, 0, 0), [])) (by decide +kernel)) (fun _ => rfl) rfl rfl rfl (fun c12 => ?_) (fun c12 => ?_)
  · refine q_iinc (v := y3) (c := 1) (L3 := [some (.ref 201), some (.int y1), some (.int y2), some (.int (y3 + 1)), some (.int y4)]) (mz_fe (e := (135, .iinc 3 1, 3, (0, 0, 0), [])) (by decide +kernel)) rfl rfl (by decide) rfl ?_
    refine q_o (mz_fe (e := (138, .goto (-115), 3, (0, 0, 0), [])) (by decide +kernel)) (pc2 := 23) rfl ?_
    exact congrArg mz_cI (mz_At_msk (L := [some (.ref 201), some (.int y1), some (.int y2), some (.int (y3 + 1)), some (.int y4)]) (L2 := [some (.ref 201), some (.int y1), some (.int y2), some (.int (y3 + 1)), none]) (mz_fe (e := (23, .iload_n 3, 1, (0, 0, 0), [true, true, true, true, false])) (by decide +kernel)) rfl rfl)
  · refine q_o (mz_fe (e := (51, .iload_n 1, 1, (0, 0, 0), [])) (by decide +kernel)) (pc2 := 52) rfl ?_
    refine q_ic (v := 1) (mz_fe (e := (52, .iconst 1, 1, (0, 0, 0), [])) (by decide +kernel)) (by decide) ?_
    refine q_o (mz_fe (e := (53, .iadd, 1, (0, 0, 0), [])) (by decide +kernel)) (pc2 := 54) rfl ?_
    refine q_o (mz_fe (e := (54, .iload_n 2, 1, (0, 0, 0), [])) (by decide +kernel)) (pc2 := 55) rfl ?_
    refine q_if (c := .lt) (off := 13) (t := 68) (x := (y1 + 1)) (y := y2) (st := []) (mz_fe (e := (55, .if_icmp .lt 13, 3, (0, 0, 0), [])) (by decide +kernel)) (fun _ => rfl) rfl rfl rfl (fun c13 => ?_) (fun c13 => ?_)
    · refine q_o (mz_fe (e := (68, .aload_n 0, 1, (0, 0, 0), [])) (by decide +kernel)) (pc2 := 69) rfl ?_
      refine q_getR (b := 203) (mz_fe (e := (69, .getfield 17, 44, (5, 3, 2), [])) (by decide +kernel)) rfl tg_201 (by rw [ln_201]; decide) (mz_rfS (by decide +kernel)) ?_
      refine q_o (mz_fe (e := (72, .iload_n 1, 1, (0, 0, 0), [])) (by decide +kernel)) (pc2 := 73) rfl ?_
      refine q_bi (v := 10) (mz_fe (e := (73, .bipush 10, 2, (0, 0, 0), [])) (by decide +kernel)) (by decide) ?_
      refine q_o (mz_fe (e := (75, .iload_n 3, 1, (0, 0, 0), [])) (by decide +kernel)) (pc2 := 76) rfl ?_
      refine q_o (mz_fe (e := (76, .imul, 1, (0, 0, 0), [])) (by decide +kernel)) (pc2 := 77) rfl ?_
      refine q_o (mz_fe (e := (77, .iload 4, 2, (0, 0, 0), [])) (by decide +kernel)) (pc2 := 79) rfl ?_
      refine q_o (mz_fe (e := (79, .iadd, 1, (0, 0, 0), [])) (by decide +kernel)) (pc2 := 80) rfl ?_
      refine q_stAg (f := (fun x => x)) rfl (mz_fe (e := (80, .iastore, 1, (0, 0, 0), [])) (by decide +kernel)) (fun _ => rfl) rfl tg_203 ln_203 (fun g14 => ?_)
      refine q_o (mz_fe (e := (81, .aload_n 0, 1, (0, 0, 0), [])) (by decide +kernel)) (pc2 := 82) rfl ?_
      refine q_getR (b := 202) (mz_fe (e := (82, .getfield 13, 43, (5, 2, 2), [])) (by decide +kernel)) rfl tg_201 (by rw [ln_201]; decide) (mz_rfS (by decide +kernel)) ?_
      refine q_o (mz_fe (e := (85, .iload_n 1, 1, (0, 0, 0), [])) (by decide +kernel)) (pc2 := 86) rfl ?_
      refine q_ic (v := 1) (mz_fe (e := (86, .iconst 1, 1, (0, 0, 0), [])) (by decide +kernel)) (by decide) ?_
      refine q_o (mz_fe (e := (87, .iadd, 1, (0, 0, 0), [])) (by decide +kernel)) (pc2 := 88) rfl ?_
      refine q_aaldg (F := fun j => 204 + 4 * j) rfl (mz_fe (e := (88, .aaload, 1, (0, 0, 0), [])) (by decide +kernel)) rfl tg_202 ln_202 rf_behind (fun g15 => ?_)
      refine q_o (mz_fe (e := (89, .aload_n 0, 1, (0, 0, 0), [])) (by decide +kernel)) (pc2 := 90) rfl ?_
      refine q_getR (b := 202) (mz_fe (e := (90, .getfield 13, 43, (5, 2, 2), [])) (by decide +kernel)) rfl tg_201 (by rw [ln_201]; decide) (mz_rfS (by decide +kernel)) ?_
      refine q_o (mz_fe (e := (93, .iload_n 1, 1, (0, 0, 0), [])) (by decide +kernel)) (pc2 := 94) rfl ?_
      refine q_aaldg (F := fun j => 204 + 4 * j) rfl (mz_fe (e := (94, .aaload, 1, (0, 0, 0), [])) (by decide +kernel)) rfl tg_202 ln_202 rf_behind (fun g16 => ?_)
      refine q_callV (N := 68) (vs := [.ref (204 + 4 * ((y1 + 1) : Int32).toNatClampNeg), .ref (204 + 4 * (y1 : Int32).toNatClampNeg)]) (rest := []) (L' := [some (.ref 201), some (.int y1), some (.int y2), some (.int y3), some (.int y4)]) rfl (mz_fe (e := (95, .invokevirtual 50, 61, (68, 2, 12), [])) (by decide +kernel)) rfl (mz_inv_virt (N := 68) (k := 2) (t := 12) (st := [.ref (204 + 4 * (y1 : Int32).toNatClampNeg), .ref (204 + 4 * ((y1 + 1) : Int32).toNatClampNeg)]) (rest := []) (b := (204 + 4 * ((y1 + 1) : Int32).toNatClampNeg)) (vs := [.ref (204 + 4 * (y1 : Int32).toNatClampNeg)]) (h := (mz_S0, (mz_wr m 203 (y1 : Int32).toNatClampNeg (((10 : Int32) * y3) + y4)))) rfl rfl (Nat.le_of_ble_eq_true rfl) (Nat.le_of_ble_eq_true rfl) (st_t (isS_behind _ (mz_okL g15))) (by decide)) (mz_dc_lt (n := 2) rfl (by decide +kernel) (by decide +kernel)) (by decide +kernel) (by decide +kernel) (fun m17 => ?_)
      refine q_o (mz_fe (e := (98, .aload_n 0, 1, (0, 0, 0), [])) (by decide +kernel)) (pc2 := 99) rfl ?_
      refine q_getR (b := 27) (mz_fe (e := (99, .getfield 25, 46, (5, 1, 2), [])) (by decide +kernel)) rfl tg_201 (by rw [ln_201]; decide) (mz_rfS (by decide +kernel)) ?_
      refine q_o (mz_fe (e := (102, .aload_n 0, 1, (0, 0, 0), [])) (by decide +kernel)) (pc2 := 103) rfl ?_
      refine q_getR (b := 202) (mz_fe (e := (103, .getfield 13, 43, (5, 2, 2), [])) (by decide +kernel)) rfl tg_201 (by rw [ln_201]; decide) (mz_rfS (by decide +kernel)) ?_
      refine q_o (mz_fe (e := (106, .iload_n 1, 1, (0, 0, 0), [])) (by decide +kernel)) (pc2 := 107) rfl ?_
      refine q_ic (v := 1) (mz_fe (e := (107, .iconst 1, 1, (0, 0, 0), [])) (by decide +kernel)) (by decide) ?_
      refine q_o (mz_fe (e := (108, .iadd, 1, (0, 0, 0), [])) (by decide +kernel)) (pc2 := 109) rfl ?_
      refine q_aaldg (F := fun j => 204 + 4 * j) rfl (mz_fe (e := (109, .aaload, 1, (0, 0, 0), [])) (by decide +kernel)) rfl tg_202 ln_202 rf_behind (fun g20 => ?_)
      refine q_o (mz_fe (e := (110, .iload_n 3, 1, (0, 0, 0), [])) (by decide +kernel)) (pc2 := 111) rfl ?_
      refine q_o (mz_fe (e := (111, .iload 4, 2, (0, 0, 0), [])) (by decide +kernel)) (pc2 := 113) rfl ?_
      refine q_callV (N := 36) (vs := [.ref 27, .ref (204 + 4 * ((y1 + 1) : Int32).toNatClampNeg), .int y3, .int y4]) (rest := []) (L' := [some (.ref 201), some (.int y1), some (.int y2), some (.int y3), some (.int y4)]) rfl (mz_fe (e := (113, .invokevirtual 70, 65, (36, 4, 9), [])) (by decide +kernel)) rfl (mz_inv_virt (N := 36) (k := 4) (t := 9) (st := [.int y4, .int y3, .ref (204 + 4 * ((y1 + 1) : Int32).toNatClampNeg), .ref 27]) (rest := []) (b := 27) (vs := [.ref (204 + 4 * ((y1 + 1) : Int32).toNatClampNeg), .int y3, .int y4]) (h := (mz_S0, m17)) rfl rfl (Nat.le_of_ble_eq_true rfl) (Nat.le_of_ble_eq_true rfl) tg_27 (by decide)) (mz_dc_lt (n := 4) rfl (by decide +kernel) (by decide +kernel)) (by decide +kernel) (by decide +kernel) (fun m21 => ?_)
      refine q_o (mz_fe (e := (116, .aload_n 0, 1, (0, 0, 0), [])) (by decide +kernel)) (pc2 := 117) rfl ?_
      refine q_o (mz_fe (e := (117, .iload_n 1, 1, (0, 0, 0), [])) (by decide +kernel)) (pc2 := 118) rfl ?_
      refine q_ic (v := 1) (mz_fe (e := (118, .iconst 1, 1, (0, 0, 0), [])) (by decide +kernel)) (by decide) ?_
      refine q_o (mz_fe (e := (119, .iadd, 1, (0, 0, 0), [])) (by decide +kernel)) (pc2 := 120) rfl ?_
      refine q_o (mz_fe (e := (120, .iload_n 2, 1, (0, 0, 0), [])) (by decide +kernel)) (pc2 := 121) rfl ?_
      refine q_callI (N := 64) (vs := [.ref 201, .int (y1 + 1), .int y2]) (rest := []) (L' := [some (.ref 201), some (.int y1), some (.int y2), some (.int y3), some (.int y4)]) (f := fun v25 m24 => if v25 = 0 then (H_X5_reaches_39 (d' + 1) y1 y2 y3 (y4 + 1) m24) else (some (1, m24))) rfl (mz_fe (e := (121, .invokevirtual 54, 62, (64, 3, 11), [])) (by decide +kernel)) rfl (mz_inv_virt (N := 64) (k := 3) (t := 11) (st := [.int y2, .int (y1 + 1), .ref 201]) (rest := []) (b := 201) (vs := [.int (y1 + 1), .int y2]) (h := (mz_S0, m21)) rfl rfl (Nat.le_of_ble_eq_true rfl) (Nat.le_of_ble_eq_true rfl) tg_201 (by decide)) (mz_dc_rec (n := 3) rfl (by decide +kernel) (by decide +kernel) (by decide +kernel)) (by decide +kernel) (Or.inr (by decide +kernel)) (fun v25 m24 => ?_)
      refine q_if (c := .eq) (off := 5) (t := 129) (x := v25) (y := 0) (st := []) (mz_fe (e := (124, .ifCond .eq 5, 3, (0, 0, 0), [])) (by decide +kernel)) (fun _ => rfl) rfl rfl rfl (fun c27 => ?_) (fun c27 => ?_)
      · refine q_iinc (v := y4) (c := 1) (L3 := [some (.ref 201), some (.int y1), some (.int y2), some (.int y3), some (.int (y4 + 1))]) (mz_fe (e := (129, .iinc 4 1, 3, (0, 0, 0), [])) (by decide +kernel)) rfl rfl (by decide) rfl ?_
        refine q_o (mz_fe (e := (132, .goto (-93), 3, (0, 0, 0), [])) (by decide +kernel)) (pc2 := 39) rfl ?_
        exact congrArg mz_cI (mz_At_msk (L := [some (.ref 201), some (.int y1), some (.int y2), some (.int y3), some (.int (y4 + 1))]) (L2 := [some (.ref 201), some (.int y1), some (.int y2), some (.int y3), some (.int (y4 + 1))]) (mz_fe (e := (39, .iload 4, 2, (0, 0, 0), [true, true, true, true, true])) (by decide +kernel)) rfl rfl)
      · refine q_ic (v := 1) (mz_fe (e := (127, .iconst 1, 1, (0, 0, 0), [])) (by decide +kernel)) (by decide) ?_
        exact q_retZ (mz_fe (e := (128, .ireturn, 1, (0, 0, 0), [])) (by decide +kernel)) (by decide +kernel) (by decide)
    · refine q_o (mz_fe (e := (58, .aload_n 0, 1, (0, 0, 0), [])) (by decide +kernel)) (pc2 := 59) rfl ?_
      refine q_o (mz_fe (e := (59, .iload_n 3, 1, (0, 0, 0), [])) (by decide +kernel)) (pc2 := 60) rfl ?_
      refine q_o (mz_fe (e := (60, .iload 4, 2, (0, 0, 0), [])) (by decide +kernel)) (pc2 := 62) rfl ?_
      refine q_callI (N := 65) (vs := [.ref 201, .int y3, .int y4]) (rest := []) (L' := [some (.ref 201), some (.int y1), some (.int y2), some (.int y3), some (.int y4)]) (f := fun v29 m28 => if v29 = 0 then (H_X5_reaches_39 (d' + 1) y1 y2 y3 (y4 + 1) m28) else (mz_g (mz_ok y1 3) (mz_g (mz_ok (y1 + 1) 4) (mz_g (mz_ok y1 4) ((R_X6_copyFrom (d' + 1) (204 + 4 * ((y1 + 1) : Int32).toNatClampNeg) (204 + 4 * (y1 : Int32).toNatClampNeg) (mz_wr m28 203 (y1 : Int32).toNatClampNeg (((10 : Int32) * y3) + y4))).bind (fun m35 => mz_g (mz_ok (y1 + 1) 4) ((R_X3_putThrough (d' + 1) (204 + 4 * ((y1 + 1) : Int32).toNatClampNeg) y3 y4 m35).bind (fun m39 => (R_X5_reaches d' (y1 + 1) y2 m39).bind (fun u44 => if u44.1 = 0 then (H_X5_reaches_39 (d' + 1) y1 y2 y3 (y4 + 1) u44.2) else (some (1, u44.2))))))))))) rfl (mz_fe (e := (62, .invokevirtual 67, 64, (65, 3, 11), [])) (by decide +kernel)) rfl (mz_inv_virt (N := 65) (k := 3) (t := 11) (st := [.int y4, .int y3, .ref 201]) (rest := []) (b := 201) (vs := [.int y3, .int y4]) (h := (mz_S0, m)) rfl rfl (Nat.le_of_ble_eq_true rfl) (Nat.le_of_ble_eq_true rfl) tg_201 (by decide)) (mz_dc_lt (n := 3) rfl (by decide +kernel) (by decide +kernel)) (by decide +kernel) (Or.inr (by decide +kernel)) (fun v29 m28 => ?_)
      refine q_if (c := .eq) (off := 64) (t := 129) (x := v29) (y := 0) (st := []) (mz_fe (e := (65, .ifCond .eq 64, 3, (0, 0, 0), [])) (by decide +kernel)) (fun _ => rfl) rfl rfl rfl (fun c31 => ?_) (fun c31 => ?_)
      · refine q_iinc (v := y4) (c := 1) (L3 := [some (.ref 201), some (.int y1), some (.int y2), some (.int y3), some (.int (y4 + 1))]) (mz_fe (e := (129, .iinc 4 1, 3, (0, 0, 0), [])) (by decide +kernel)) rfl rfl (by decide) rfl ?_
        refine q_o (mz_fe (e := (132, .goto (-93), 3, (0, 0, 0), [])) (by decide +kernel)) (pc2 := 39) rfl ?_
        exact congrArg mz_cI (mz_At_msk (L := [some (.ref 201), some (.int y1), some (.int y2), some (.int y3), some (.int (y4 + 1))]) (L2 := [some (.ref 201), some (.int y1), some (.int y2), some (.int y3), some (.int (y4 + 1))]) (mz_fe (e := (39, .iload 4, 2, (0, 0, 0), [true, true, true, true, true])) (by decide +kernel)) rfl rfl)
      · refine q_o (mz_fe (e := (68, .aload_n 0, 1, (0, 0, 0), [])) (by decide +kernel)) (pc2 := 69) rfl ?_
        refine q_getR (b := 203) (mz_fe (e := (69, .getfield 17, 44, (5, 3, 2), [])) (by decide +kernel)) rfl tg_201 (by rw [ln_201]; decide) (mz_rfS (by decide +kernel)) ?_
        refine q_o (mz_fe (e := (72, .iload_n 1, 1, (0, 0, 0), [])) (by decide +kernel)) (pc2 := 73) rfl ?_
        refine q_bi (v := 10) (mz_fe (e := (73, .bipush 10, 2, (0, 0, 0), [])) (by decide +kernel)) (by decide) ?_
        refine q_o (mz_fe (e := (75, .iload_n 3, 1, (0, 0, 0), [])) (by decide +kernel)) (pc2 := 76) rfl ?_
        refine q_o (mz_fe (e := (76, .imul, 1, (0, 0, 0), [])) (by decide +kernel)) (pc2 := 77) rfl ?_
        refine q_o (mz_fe (e := (77, .iload 4, 2, (0, 0, 0), [])) (by decide +kernel)) (pc2 := 79) rfl ?_
        refine q_o (mz_fe (e := (79, .iadd, 1, (0, 0, 0), [])) (by decide +kernel)) (pc2 := 80) rfl ?_
        refine q_stAg (f := (fun x => x)) rfl (mz_fe (e := (80, .iastore, 1, (0, 0, 0), [])) (by decide +kernel)) (fun _ => rfl) rfl tg_203 ln_203 (fun g32 => ?_)
        refine q_o (mz_fe (e := (81, .aload_n 0, 1, (0, 0, 0), [])) (by decide +kernel)) (pc2 := 82) rfl ?_
        refine q_getR (b := 202) (mz_fe (e := (82, .getfield 13, 43, (5, 2, 2), [])) (by decide +kernel)) rfl tg_201 (by rw [ln_201]; decide) (mz_rfS (by decide +kernel)) ?_
        refine q_o (mz_fe (e := (85, .iload_n 1, 1, (0, 0, 0), [])) (by decide +kernel)) (pc2 := 86) rfl ?_
        refine q_ic (v := 1) (mz_fe (e := (86, .iconst 1, 1, (0, 0, 0), [])) (by decide +kernel)) (by decide) ?_
        refine q_o (mz_fe (e := (87, .iadd, 1, (0, 0, 0), [])) (by decide +kernel)) (pc2 := 88) rfl ?_
        refine q_aaldg (F := fun j => 204 + 4 * j) rfl (mz_fe (e := (88, .aaload, 1, (0, 0, 0), [])) (by decide +kernel)) rfl tg_202 ln_202 rf_behind (fun g33 => ?_)
        refine q_o (mz_fe (e := (89, .aload_n 0, 1, (0, 0, 0), [])) (by decide +kernel)) (pc2 := 90) rfl ?_
        refine q_getR (b := 202) (mz_fe (e := (90, .getfield 13, 43, (5, 2, 2), [])) (by decide +kernel)) rfl tg_201 (by rw [ln_201]; decide) (mz_rfS (by decide +kernel)) ?_
        refine q_o (mz_fe (e := (93, .iload_n 1, 1, (0, 0, 0), [])) (by decide +kernel)) (pc2 := 94) rfl ?_
        refine q_aaldg (F := fun j => 204 + 4 * j) rfl (mz_fe (e := (94, .aaload, 1, (0, 0, 0), [])) (by decide +kernel)) rfl tg_202 ln_202 rf_behind (fun g34 => ?_)
        refine q_callV (N := 68) (vs := [.ref (204 + 4 * ((y1 + 1) : Int32).toNatClampNeg), .ref (204 + 4 * (y1 : Int32).toNatClampNeg)]) (rest := []) (L' := [some (.ref 201), some (.int y1), some (.int y2), some (.int y3), some (.int y4)]) rfl (mz_fe (e := (95, .invokevirtual 50, 61, (68, 2, 12), [])) (by decide +kernel)) rfl (mz_inv_virt (N := 68) (k := 2) (t := 12) (st := [.ref (204 + 4 * (y1 : Int32).toNatClampNeg), .ref (204 + 4 * ((y1 + 1) : Int32).toNatClampNeg)]) (rest := []) (b := (204 + 4 * ((y1 + 1) : Int32).toNatClampNeg)) (vs := [.ref (204 + 4 * (y1 : Int32).toNatClampNeg)]) (h := (mz_S0, (mz_wr m28 203 (y1 : Int32).toNatClampNeg (((10 : Int32) * y3) + y4)))) rfl rfl (Nat.le_of_ble_eq_true rfl) (Nat.le_of_ble_eq_true rfl) (st_t (isS_behind _ (mz_okL g33))) (by decide)) (mz_dc_lt (n := 2) rfl (by decide +kernel) (by decide +kernel)) (by decide +kernel) (by decide +kernel) (fun m35 => ?_)
        refine q_o (mz_fe (e := (98, .aload_n 0, 1, (0, 0, 0), [])) (by decide +kernel)) (pc2 := 99) rfl ?_
        refine q_getR (b := 27) (mz_fe (e := (99, .getfield 25, 46, (5, 1, 2), [])) (by decide +kernel)) rfl tg_201 (by rw [ln_201]; decide) (mz_rfS (by decide +kernel)) ?_
        refine q_o (mz_fe (e := (102, .aload_n 0, 1, (0, 0, 0), [])) (by decide +kernel)) (pc2 := 103) rfl ?_
        refine q_getR (b := 202) (mz_fe (e := (103, .getfield 13, 43, (5, 2, 2), [])) (by decide +kernel)) rfl tg_201 (by rw [ln_201]; decide) (mz_rfS (by decide +kernel)) ?_
        refine q_o (mz_fe (e := (106, .iload_n 1, 1, (0, 0, 0), [])) (by decide +kernel)) (pc2 := 107) rfl ?_
        refine q_ic (v := 1) (mz_fe (e := (107, .iconst 1, 1, (0, 0, 0), [])) (by decide +kernel)) (by decide) ?_
        refine q_o (mz_fe (e := (108, .iadd, 1, (0, 0, 0), [])) (by decide +kernel)) (pc2 := 109) rfl ?_
        refine q_aaldg (F := fun j => 204 + 4 * j) rfl (mz_fe (e := (109, .aaload, 1, (0, 0, 0), [])) (by decide +kernel)) rfl tg_202 ln_202 rf_behind (fun g38 => ?_)
        refine q_o (mz_fe (e := (110, .iload_n 3, 1, (0, 0, 0), [])) (by decide +kernel)) (pc2 := 111) rfl ?_
        refine q_o (mz_fe (e := (111, .iload 4, 2, (0, 0, 0), [])) (by decide +kernel)) (pc2 := 113) rfl ?_
        refine q_callV (N := 36) (vs := [.ref 27, .ref (204 + 4 * ((y1 + 1) : Int32).toNatClampNeg), .int y3, .int y4]) (rest := []) (L' := [some (.ref 201), some (.int y1), some (.int y2), some (.int y3), some (.int y4)]) rfl (mz_fe (e := (113, .invokevirtual 70, 65, (36, 4, 9), [])) (by decide +kernel)) rfl (mz_inv_virt (N := 36) (k := 4) (t := 9) (st := [.int y4, .int y3, .ref (204 + 4 * ((y1 + 1) : Int32).toNatClampNeg), .ref 27]) (rest := []) (b := 27) (vs := [.ref (204 + 4 * ((y1 + 1) : Int32).toNatClampNeg), .int y3, .int y4]) (h := (mz_S0, m35)) rfl rfl (Nat.le_of_ble_eq_true rfl) (Nat.le_of_ble_eq_true rfl) tg_27 (by decide)) (mz_dc_lt (n := 4) rfl (by decide +kernel) (by decide +kernel)) (by decide +kernel) (by decide +kernel) (fun m39 => ?_)
        refine q_o (mz_fe (e := (116, .aload_n 0, 1, (0, 0, 0), [])) (by decide +kernel)) (pc2 := 117) rfl ?_
        refine q_o (mz_fe (e := (117, .iload_n 1, 1, (0, 0, 0), [])) (by decide +kernel)) (pc2 := 118) rfl ?_
        refine q_ic (v := 1) (mz_fe (e := (118, .iconst 1, 1, (0, 0, 0), [])) (by decide +kernel)) (by decide) ?_
        refine q_o (mz_fe (e := (119, .iadd, 1, (0, 0, 0), [])) (by decide +kernel)) (pc2 := 120) rfl ?_
        refine q_o (mz_fe (e := (120, .iload_n 2, 1, (0, 0, 0), [])) (by decide +kernel)) (pc2 := 121) rfl ?_
        refine q_callI (N := 64) (vs := [.ref 201, .int (y1 + 1), .int y2]) (rest := []) (L' := [some (.ref 201), some (.int y1), some (.int y2), some (.int y3), some (.int y4)]) (f := fun v43 m42 => if v43 = 0 then (H_X5_reaches_39 (d' + 1) y1 y2 y3 (y4 + 1) m42) else (some (1, m42))) rfl (mz_fe (e := (121, .invokevirtual 54, 62, (64, 3, 11), [])) (by decide +kernel)) rfl (mz_inv_virt (N := 64) (k := 3) (t := 11) (st := [.int y2, .int (y1 + 1), .ref 201]) (rest := []) (b := 201) (vs := [.int (y1 + 1), .int y2]) (h := (mz_S0, m39)) rfl rfl (Nat.le_of_ble_eq_true rfl) (Nat.le_of_ble_eq_true rfl) tg_201 (by decide)) (mz_dc_rec (n := 3) rfl (by decide +kernel) (by decide +kernel) (by decide +kernel)) (by decide +kernel) (Or.inr (by decide +kernel)) (fun v43 m42 => ?_)
        refine q_if (c := .eq) (off := 5) (t := 129) (x := v43) (y := 0) (st := []) (mz_fe (e := (124, .ifCond .eq 5, 3, (0, 0, 0), [])) (by decide +kernel)) (fun _ => rfl) rfl rfl rfl (fun c45 => ?_) (fun c45 => ?_)
        · refine q_iinc (v := y4) (c := 1) (L3 := [some (.ref 201), some (.int y1), some (.int y2), some (.int y3), some (.int (y4 + 1))]) (mz_fe (e := (129, .iinc 4 1, 3, (0, 0, 0), [])) (by decide +kernel)) rfl rfl (by decide) rfl ?_
          refine q_o (mz_fe (e := (132, .goto (-93), 3, (0, 0, 0), [])) (by decide +kernel)) (pc2 := 39) rfl ?_
          exact congrArg mz_cI (mz_At_msk (L := [some (.ref 201), some (.int y1), some (.int y2), some (.int y3), some (.int (y4 + 1))]) (L2 := [some (.ref 201), some (.int y1), some (.int y2), some (.int y3), some (.int (y4 + 1))]) (mz_fe (e := (39, .iload 4, 2, (0, 0, 0), [true, true, true, true, true])) (by decide +kernel)) rfl rfl)
        · refine q_ic (v := 1) (mz_fe (e := (127, .iconst 1, 1, (0, 0, 0), [])) (by decide +kernel)) (by decide) ?_
          exact q_retZ (mz_fe (e := (128, .ireturn, 1, (0, 0, 0), [])) (by decide +kernel)) (by decide +kernel) (by decide)
set_option maxRecDepth 10000 in
theorem R_X5_canMakeSo_eq (d : Nat) (x0 : Int32) (x1 : Int32) (m : MzM)  : R_X5_canMakeSo d x0 x1 m = if ¬ (mz_rd m 201 6) = 1 then (some (1, m)) else (if x0 = (mz_rd m 201 7) then (some (1, m)) else (if ¬ x1 = (mz_rd m 201 7) then (some (0, m)) else (some (1, m)))) := by
  show mz_cI (mz_T d 65 0 (mz_en (mz_xl 65) [.ref 201, .int x0, .int x1]) [] m) = _
  rw [show mz_en (mz_xl 65) [.ref 201, .int x0, .int x1] = [some (.ref 201), some (.int x0), some (.int x1)] from by rw [show mz_xl 65 = 3 from by decide +kernel]; rfl]
  refine q_o (mz_fe (e := (0, .aload_n 0, 1, (0, 0, 0), [])) (by decide +kernel)) (pc2 := 1) rfl ?_
  refine q_getI (mz_fe (e := (1, .getfield 34, 48, (5, 6, 0), [])) (by decide +kernel)) rfl (by decide) tg_201 (by rw [ln_201]; decide) ?_
  refine q_ic (v := 1) (mz_fe (e := (4, .iconst 1, 1, (0, 0, 0), [])) (by decide +kernel)) (by decide) ?_
  refine q_if (c := .ne) (off := 19) (t := 24) (x := (mz_rd m 201 6)) (y := 1) (st := []) (mz_fe (e := (5, .if_icmp .ne 19, 3, (0, 0, 0), [])) (by decide +kernel)) (fun _ => rfl) rfl rfl rfl (fun c1 => ?_) (fun c1 => ?_)
  · refine q_ic (v := 1) (mz_fe (e := (24, .iconst 1, 1, (0, 0, 0), [])) (by decide +kernel)) (by decide) ?_
    refine q_o (mz_fe (e := (25, .goto 4, 3, (0, 0, 0), [])) (by decide +kernel)) (pc2 := 29) rfl ?_
    exact q_retZ (mz_fe (e := (29, .ireturn, 1, (0, 0, 0), [])) (by decide +kernel)) (by decide +kernel) (by decide)
  · refine q_o (mz_fe (e := (8, .iload_n 1, 1, (0, 0, 0), [])) (by decide +kernel)) (pc2 := 9) rfl ?_
    refine q_o (mz_fe (e := (9, .aload_n 0, 1, (0, 0, 0), [])) (by decide +kernel)) (pc2 := 10) rfl ?_
    refine q_getI (mz_fe (e := (10, .getfield 38, 49, (5, 7, 0), [])) (by decide +kernel)) rfl (by decide) tg_201 (by rw [ln_201]; decide) ?_
    refine q_if (c := .eq) (off := 11) (t := 24) (x := x0) (y := (mz_rd m 201 7)) (st := []) (mz_fe (e := (13, .if_icmp .eq 11, 3, (0, 0, 0), [])) (by decide +kernel)) (fun _ => rfl) rfl rfl rfl (fun c2 => ?_) (fun c2 => ?_)
    · refine q_ic (v := 1) (mz_fe (e := (24, .iconst 1, 1, (0, 0, 0), [])) (by decide +kernel)) (by decide) ?_
      refine q_o (mz_fe (e := (25, .goto 4, 3, (0, 0, 0), [])) (by decide +kernel)) (pc2 := 29) rfl ?_
      exact q_retZ (mz_fe (e := (29, .ireturn, 1, (0, 0, 0), [])) (by decide +kernel)) (by decide +kernel) (by decide)
    · refine q_o (mz_fe (e := (16, .iload_n 2, 1, (0, 0, 0), [])) (by decide +kernel)) (pc2 := 17) rfl ?_
      refine q_o (mz_fe (e := (17, .aload_n 0, 1, (0, 0, 0), [])) (by decide +kernel)) (pc2 := 18) rfl ?_
      refine q_getI (mz_fe (e := (18, .getfield 38, 49, (5, 7, 0), [])) (by decide +kernel)) rfl (by decide) tg_201 (by rw [ln_201]; decide) ?_
      refine q_if (c := .ne) (off := 7) (t := 28) (x := x1) (y := (mz_rd m 201 7)) (st := []) (mz_fe (e := (21, .if_icmp .ne 7, 3, (0, 0, 0), [])) (by decide +kernel)) (fun _ => rfl) rfl rfl rfl (fun c3 => ?_) (fun c3 => ?_)
      · refine q_ic (v := 0) (mz_fe (e := (28, .iconst 0, 1, (0, 0, 0), [])) (by decide +kernel)) (by decide) ?_
        exact q_retZ (mz_fe (e := (29, .ireturn, 1, (0, 0, 0), [])) (by decide +kernel)) (by decide +kernel) (by decide)
      · refine q_ic (v := 1) (mz_fe (e := (24, .iconst 1, 1, (0, 0, 0), [])) (by decide +kernel)) (by decide) ?_
        refine q_o (mz_fe (e := (25, .goto 4, 3, (0, 0, 0), [])) (by decide +kernel)) (pc2 := 29) rfl ?_
        exact q_retZ (mz_fe (e := (29, .ireturn, 1, (0, 0, 0), [])) (by decide +kernel)) (by decide +kernel) (by decide)
set_option maxRecDepth 10000 in
theorem R_X5_isSo_eq (d : Nat) (s : Nat) (m : MzM) (hs : mz_isS s = true) : R_X5_isSo d s m = if (mz_rd m 201 6) = 1 then ((R_X6_amount d s (mz_rd m 201 7) (mz_rd m 201 8) m).bind (fun u4 => if u4.1 < (mz_rd u4.2 201 9) then (some (0, u4.2)) else (some (1, u4.2)))) else if (mz_rd m 201 6) = 2 then ((R_X6_apart d s (mz_rd m 201 7) (mz_rd m 201 8) m).bind (fun u9 => if ¬ u9.1 = 0 then (some (0, u9.2)) else (some (1, u9.2)))) else ((R_X3_firstQuarrel d s m).bind (fun u13 => if ¬ u13.1 = (-2) then (some (0, u13.2)) else (some (1, u13.2)))) := by
  show mz_cI (mz_T d 66 0 (mz_en (mz_xl 66) [.ref 201, .ref s]) [] m) = _
  rw [show mz_en (mz_xl 66) [.ref 201, .ref s] = [some (.ref 201), some (.ref s)] from by rw [show mz_xl 66 = 2 from by decide +kernel]; rfl]
  refine q_o (mz_fe (e := (0, .aload_n 0, 1, (0, 0, 0), [])) (by decide +kernel)) (pc2 := 1) rfl ?_
  refine q_getI (mz_fe (e := (1, .getfield 34, 48, (5, 6, 0), [])) (by decide +kernel)) rfl (by decide) tg_201 (by rw [ln_201]; decide) ?_
  refine mz_ite (P := (mz_rd m 201 6) = 1) (fun c1 => ?_) (fun c1 => ?_)
  · refine q_lk (t := 32) (st := []) (mz_fe (e := (4, .lookupswitch 74 #[(1, 28), (2, 53)], 28, (0, 0, 0), [])) (by decide +kernel)) rfl (by rw [c1]; decide +kernel) ?_
    refine q_o (mz_fe (e := (32, .aload_n 1, 1, (0, 0, 0), [])) (by decide +kernel)) (pc2 := 33) rfl ?_
    refine q_o (mz_fe (e := (33, .aload_n 0, 1, (0, 0, 0), [])) (by decide +kernel)) (pc2 := 34) rfl ?_
    refine q_getI (mz_fe (e := (34, .getfield 38, 49, (5, 7, 0), [])) (by decide +kernel)) rfl (by decide) tg_201 (by rw [ln_201]; decide) ?_
    refine q_o (mz_fe (e := (37, .aload_n 0, 1, (0, 0, 0), [])) (by decide +kernel)) (pc2 := 38) rfl ?_
    refine q_getI (mz_fe (e := (38, .getfield 41, 50, (5, 8, 0), [])) (by decide +kernel)) rfl (by decide) tg_201 (by rw [ln_201]; decide) ?_
    refine q_callI (N := 72) (vs := [.ref s, .int (mz_rd m 201 7), .int (mz_rd m 201 8)]) (rest := []) (L' := [some (.ref 201), some (.ref s)]) (f := fun v3 m2 => if v3 < (mz_rd m2 201 9) then (some (0, m2)) else (some (1, m2))) rfl (mz_fe (e := (41, .invokevirtual 76, 66, (72, 3, 12), [])) (by decide +kernel)) rfl (mz_inv_virt (N := 72) (k := 3) (t := 12) (st := [.int (mz_rd m 201 8), .int (mz_rd m 201 7), .ref s]) (rest := []) (b := s) (vs := [.int (mz_rd m 201 7), .int (mz_rd m 201 8)]) (h := (mz_S0, m)) rfl rfl (Nat.le_of_ble_eq_true rfl) (Nat.le_of_ble_eq_true rfl) (st_t hs) (by decide)) (mz_dc_lt (n := 3) rfl (by decide +kernel) (by decide +kernel)) (by decide +kernel) (Or.inl (by decide +kernel)) (fun v3 m2 => ?_)
    refine q_o (mz_fe (e := (44, .aload_n 0, 1, (0, 0, 0), [])) (by decide +kernel)) (pc2 := 45) rfl ?_
    refine q_getI (mz_fe (e := (45, .getfield 44, 51, (5, 9, 0), [])) (by decide +kernel)) rfl (by decide) tg_201 (by rw [ln_201]; decide) ?_
    refine q_if (c := .lt) (off := 7) (t := 55) (x := v3) (y := (mz_rd m2 201 9)) (st := []) (mz_fe (e := (48, .if_icmp .lt 7, 3, (0, 0, 0), [])) (by decide +kernel)) (fun _ => rfl) rfl rfl rfl (fun c5 => ?_) (fun c5 => ?_)
    · refine q_ic (v := 0) (mz_fe (e := (55, .iconst 0, 1, (0, 0, 0), [])) (by decide +kernel)) (by decide) ?_
      exact q_retZ (mz_fe (e := (56, .ireturn, 1, (0, 0, 0), [])) (by decide +kernel)) (by decide +kernel) (by decide)
    · refine q_ic (v := 1) (mz_fe (e := (51, .iconst 1, 1, (0, 0, 0), [])) (by decide +kernel)) (by decide) ?_
      refine q_o (mz_fe (e := (52, .goto 4, 3, (0, 0, 0), [])) (by decide +kernel)) (pc2 := 56) rfl ?_
      exact q_retZ (mz_fe (e := (56, .ireturn, 1, (0, 0, 0), [])) (by decide +kernel)) (by decide +kernel) (by decide)
  refine mz_ite (P := (mz_rd m 201 6) = 2) (fun c6 => ?_) (fun c6 => ?_)
  · refine q_lk (t := 57) (st := []) (mz_fe (e := (4, .lookupswitch 74 #[(1, 28), (2, 53)], 28, (0, 0, 0), [])) (by decide +kernel)) rfl (by rw [c6]; decide +kernel) ?_
    refine q_o (mz_fe (e := (57, .aload_n 1, 1, (0, 0, 0), [])) (by decide +kernel)) (pc2 := 58) rfl ?_
    refine q_o (mz_fe (e := (58, .aload_n 0, 1, (0, 0, 0), [])) (by decide +kernel)) (pc2 := 59) rfl ?_
    refine q_getI (mz_fe (e := (59, .getfield 38, 49, (5, 7, 0), [])) (by decide +kernel)) rfl (by decide) tg_201 (by rw [ln_201]; decide) ?_
    refine q_o (mz_fe (e := (62, .aload_n 0, 1, (0, 0, 0), [])) (by decide +kernel)) (pc2 := 63) rfl ?_
    refine q_getI (mz_fe (e := (63, .getfield 41, 50, (5, 8, 0), [])) (by decide +kernel)) rfl (by decide) tg_201 (by rw [ln_201]; decide) ?_
    refine q_callI (N := 76) (vs := [.ref s, .int (mz_rd m 201 7), .int (mz_rd m 201 8)]) (rest := []) (L' := [some (.ref 201), some (.ref s)]) (f := fun v8 m7 => if ¬ v8 = 0 then (some (0, m7)) else (some (1, m7))) rfl (mz_fe (e := (66, .invokevirtual 79, 67, (76, 3, 12), [])) (by decide +kernel)) rfl (mz_inv_virt (N := 76) (k := 3) (t := 12) (st := [.int (mz_rd m 201 8), .int (mz_rd m 201 7), .ref s]) (rest := []) (b := s) (vs := [.int (mz_rd m 201 7), .int (mz_rd m 201 8)]) (h := (mz_S0, m)) rfl rfl (Nat.le_of_ble_eq_true rfl) (Nat.le_of_ble_eq_true rfl) (st_t hs) (by decide)) (mz_dc_lt (n := 3) rfl (by decide +kernel) (by decide +kernel)) (by decide +kernel) (Or.inl (by decide +kernel)) (fun v8 m7 => ?_)
    refine q_if (c := .ne) (off := 7) (t := 76) (x := v8) (y := 0) (st := []) (mz_fe (e := (69, .ifCond .ne 7, 3, (0, 0, 0), [])) (by decide +kernel)) (fun _ => rfl) rfl rfl rfl (fun c10 => ?_) (fun c10 => ?_)
    · refine q_ic (v := 0) (mz_fe (e := (76, .iconst 0, 1, (0, 0, 0), [])) (by decide +kernel)) (by decide) ?_
      exact q_retZ (mz_fe (e := (77, .ireturn, 1, (0, 0, 0), [])) (by decide +kernel)) (by decide +kernel) (by decide)
    · refine q_ic (v := 1) (mz_fe (e := (72, .iconst 1, 1, (0, 0, 0), [])) (by decide +kernel)) (by decide) ?_
      refine q_o (mz_fe (e := (73, .goto 4, 3, (0, 0, 0), [])) (by decide +kernel)) (pc2 := 77) rfl ?_
      exact q_retZ (mz_fe (e := (77, .ireturn, 1, (0, 0, 0), [])) (by decide +kernel)) (by decide +kernel) (by decide)
  refine q_lk (t := 78) (st := []) (mz_fe (e := (4, .lookupswitch 74 #[(1, 28), (2, 53)], 28, (0, 0, 0), [])) (by decide +kernel)) rfl (mz_lkd (k1 := 1) (k2 := 2) (by decide +kernel) (by decide) (by decide) c1 c6) ?_
  refine q_o (mz_fe (e := (78, .aload_n 0, 1, (0, 0, 0), [])) (by decide +kernel)) (pc2 := 79) rfl ?_
  refine q_getR (b := 27) (mz_fe (e := (79, .getfield 25, 46, (5, 1, 2), [])) (by decide +kernel)) rfl tg_201 (by rw [ln_201]; decide) (mz_rfS (by decide +kernel)) ?_
  refine q_o (mz_fe (e := (82, .aload_n 1, 1, (0, 0, 0), [])) (by decide +kernel)) (pc2 := 83) rfl ?_
  refine q_callI (N := 43) (vs := [.ref 27, .ref s]) (rest := []) (L' := [some (.ref 201), some (.ref s)]) (f := fun v12 m11 => if ¬ v12 = (-2) then (some (0, m11)) else (some (1, m11))) rfl (mz_fe (e := (83, .invokevirtual 82, 68, (43, 2, 9), [])) (by decide +kernel)) rfl (mz_inv_virt (N := 43) (k := 2) (t := 9) (st := [.ref s, .ref 27]) (rest := []) (b := 27) (vs := [.ref s]) (h := (mz_S0, m)) rfl rfl (Nat.le_of_ble_eq_true rfl) (Nat.le_of_ble_eq_true rfl) tg_27 (by decide)) (mz_dc_lt (n := 2) rfl (by decide +kernel) (by decide +kernel)) (by decide +kernel) (Or.inl (by decide +kernel)) (fun v12 m11 => ?_)
  refine q_bi (v := (-2)) (mz_fe (e := (86, .bipush (-2), 2, (0, 0, 0), [])) (by decide +kernel)) (by decide) ?_
  refine q_if (c := .ne) (off := 7) (t := 95) (x := v12) (y := (-2)) (st := []) (mz_fe (e := (88, .if_icmp .ne 7, 3, (0, 0, 0), [])) (by decide +kernel)) (fun _ => rfl) rfl rfl rfl (fun c14 => ?_) (fun c14 => ?_)
  · refine q_ic (v := 0) (mz_fe (e := (95, .iconst 0, 1, (0, 0, 0), [])) (by decide +kernel)) (by decide) ?_
    exact q_retZ (mz_fe (e := (96, .ireturn, 1, (0, 0, 0), [])) (by decide +kernel)) (by decide +kernel) (by decide)
  · refine q_ic (v := 1) (mz_fe (e := (91, .iconst 1, 1, (0, 0, 0), [])) (by decide +kernel)) (by decide) ?_
    refine q_o (mz_fe (e := (92, .goto 4, 3, (0, 0, 0), [])) (by decide +kernel)) (pc2 := 96) rfl ?_
    exact q_retZ (mz_fe (e := (96, .ireturn, 1, (0, 0, 0), [])) (by decide +kernel)) (by decide +kernel) (by decide)
set_option maxRecDepth 10000 in
theorem R_X10_clear_eq (d : Nat)  (m : MzM)  : R_X10_clear d  m = some (mz_wr m 222 6 0) := by
  show mz_cV (mz_T d 107 0 (mz_en (mz_xl 107) [.ref 222]) [] m) = _
  rw [show mz_en (mz_xl 107) [.ref 222] = [some (.ref 222)] from by rw [show mz_xl 107 = 1 from by decide +kernel]; rfl]
  refine q_o (mz_fe (e := (0, .aload_n 0, 1, (0, 0, 0), [])) (by decide +kernel)) (pc2 := 1) rfl ?_
  refine q_ic (v := 0) (mz_fe (e := (1, .iconst 0, 1, (0, 0, 0), [])) (by decide +kernel)) (by decide) ?_
  refine q_putI (mz_fe (e := (2, .putfield 33, 88, (10, 6, 0), [])) (by decide +kernel)) rfl tg_222 (by rw [ln_222]; decide) ?_
  exact q_retV (mz_fe (e := (5, .return_, 1, (0, 0, 0), [])) (by decide +kernel)) (by decide +kernel)
set_option maxRecDepth 10000 in
theorem R_X10_add_eq (d : Nat) (x0 : Int32) (x1 : Int32) (x2 : Int32) (x3 : Int32) (m : MzM)  : R_X10_add d x0 x1 x2 x3 m = if (mz_rd m 222 6) < 20 then (mz_g (mz_ok (mz_rd m 222 6) 20) (mz_g (mz_ok (mz_rd (mz_wr m 223 ((mz_rd m 222 6) : Int32).toNatClampNeg x0) 222 6) 20) (mz_g (mz_ok (mz_rd (mz_wr (mz_wr m 223 ((mz_rd m 222 6) : Int32).toNatClampNeg x0) 224 ((mz_rd (mz_wr m 223 ((mz_rd m 222 6) : Int32).toNatClampNeg x0) 222 6) : Int32).toNatClampNeg x1) 222 6) 20) (mz_g (mz_ok (mz_rd (mz_wr (mz_wr (mz_wr m 223 ((mz_rd m 222 6) : Int32).toNatClampNeg x0) 224 ((mz_rd (mz_wr m 223 ((mz_rd m 222 6) : Int32).toNatClampNeg x0) 222 6) : Int32).toNatClampNeg x1) 225 ((mz_rd (mz_wr (mz_wr m 223 ((mz_rd m 222 6) : Int32).toNatClampNeg x0) 224 ((mz_rd (mz_wr m 223 ((mz_rd m 222 6) : Int32).toNatClampNeg x0) 222 6) : Int32).toNatClampNeg x1) 222 6) : Int32).toNatClampNeg x2) 222 6) 20) (some (((mz_rd (mz_wr (mz_wr (mz_wr (mz_wr (mz_wr m 223 ((mz_rd m 222 6) : Int32).toNatClampNeg x0) 224 ((mz_rd (mz_wr m 223 ((mz_rd m 222 6) : Int32).toNatClampNeg x0) 222 6) : Int32).toNatClampNeg x1) 225 ((mz_rd (mz_wr (mz_wr m 223 ((mz_rd m 222 6) : Int32).toNatClampNeg x0) 224 ((mz_rd (mz_wr m 223 ((mz_rd m 222 6) : Int32).toNatClampNeg x0) 222 6) : Int32).toNatClampNeg x1) 222 6) : Int32).toNatClampNeg x2) 226 ((mz_rd (mz_wr (mz_wr (mz_wr m 223 ((mz_rd m 222 6) : Int32).toNatClampNeg x0) 224 ((mz_rd (mz_wr m 223 ((mz_rd m 222 6) : Int32).toNatClampNeg x0) 222 6) : Int32).toNatClampNeg x1) 225 ((mz_rd (mz_wr (mz_wr m 223 ((mz_rd m 222 6) : Int32).toNatClampNeg x0) 224 ((mz_rd (mz_wr m 223 ((mz_rd m 222 6) : Int32).toNatClampNeg x0) 222 6) : Int32).toNatClampNeg x1) 222 6) : Int32).toNatClampNeg x2) 222 6) : Int32).toNatClampNeg (vp_nar .boolean x3)) 222 6 ((mz_rd (mz_wr (mz_wr (mz_wr (mz_wr m 223 ((mz_rd m 222 6) : Int32).toNatClampNeg x0) 224 ((mz_rd (mz_wr m 223 ((mz_rd m 222 6) : Int32).toNatClampNeg x0) 222 6) : Int32).toNatClampNeg x1) 225 ((mz_rd (mz_wr (mz_wr m 223 ((mz_rd m 222 6) : Int32).toNatClampNeg x0) 224 ((mz_rd (mz_wr m 223 ((mz_rd m 222 6) : Int32).toNatClampNeg x0) 222 6) : Int32).toNatClampNeg x1) 222 6) : Int32).toNatClampNeg x2) 226 ((mz_rd (mz_wr (mz_wr (mz_wr m 223 ((mz_rd m 222 6) : Int32).toNatClampNeg x0) 224 ((mz_rd (mz_wr m 223 ((mz_rd m 222 6) : Int32).toNatClampNeg x0) 222 6) : Int32).toNatClampNeg x1) 225 ((mz_rd (mz_wr (mz_wr m 223 ((mz_rd m 222 6) : Int32).toNatClampNeg x0) 224 ((mz_rd (mz_wr m 223 ((mz_rd m 222 6) : Int32).toNatClampNeg x0) 222 6) : Int32).toNatClampNeg x1) 222 6) : Int32).toNatClampNeg x2) 222 6) : Int32).toNatClampNeg (vp_nar .boolean x3)) 222 6) + 1)) 222 6) - 1), (mz_wr (mz_wr (mz_wr (mz_wr (mz_wr m 223 ((mz_rd m 222 6) : Int32).toNatClampNeg x0) 224 ((mz_rd (mz_wr m 223 ((mz_rd m 222 6) : Int32).toNatClampNeg x0) 222 6) : Int32).toNatClampNeg x1) 225 ((mz_rd (mz_wr (mz_wr m 223 ((mz_rd m 222 6) : Int32).toNatClampNeg x0) 224 ((mz_rd (mz_wr m 223 ((mz_rd m 222 6) : Int32).toNatClampNeg x0) 222 6) : Int32).toNatClampNeg x1) 222 6) : Int32).toNatClampNeg x2) 226 ((mz_rd (mz_wr (mz_wr (mz_wr m 223 ((mz_rd m 222 6) : Int32).toNatClampNeg x0) 224 ((mz_rd (mz_wr m 223 ((mz_rd m 222 6) : Int32).toNatClampNeg x0) 222 6) : Int32).toNatClampNeg x1) 225 ((mz_rd (mz_wr (mz_wr m 223 ((mz_rd m 222 6) : Int32).toNatClampNeg x0) 224 ((mz_rd (mz_wr m 223 ((mz_rd m 222 6) : Int32).toNatClampNeg x0) 222 6) : Int32).toNatClampNeg x1) 222 6) : Int32).toNatClampNeg x2) 222 6) : Int32).toNatClampNeg (vp_nar .boolean x3)) 222 6 ((mz_rd (mz_wr (mz_wr (mz_wr (mz_wr m 223 ((mz_rd m 222 6) : Int32).toNatClampNeg x0) 224 ((mz_rd (mz_wr m 223 ((mz_rd m 222 6) : Int32).toNatClampNeg x0) 222 6) : Int32).toNatClampNeg x1) 225 ((mz_rd (mz_wr (mz_wr m 223 ((mz_rd m 222 6) : Int32).toNatClampNeg x0) 224 ((mz_rd (mz_wr m 223 ((mz_rd m 222 6) : Int32).toNatClampNeg x0) 222 6) : Int32).toNatClampNeg x1) 222 6) : Int32).toNatClampNeg x2) 226 ((mz_rd (mz_wr (mz_wr (mz_wr m 223 ((mz_rd m 222 6) : Int32).toNatClampNeg x0) 224 ((mz_rd (mz_wr m 223 ((mz_rd m 222 6) : Int32).toNatClampNeg x0) 222 6) : Int32).toNatClampNeg x1) 225 ((mz_rd (mz_wr (mz_wr m 223 ((mz_rd m 222 6) : Int32).toNatClampNeg x0) 224 ((mz_rd (mz_wr m 223 ((mz_rd m 222 6) : Int32).toNatClampNeg x0) 222 6) : Int32).toNatClampNeg x1) 222 6) : Int32).toNatClampNeg x2) 222 6) : Int32).toNatClampNeg (vp_nar .boolean x3)) 222 6) + 1)))))))) else (some ((-1), m)) := by
  show mz_cI (mz_T d 108 0 (mz_en (mz_xl 108) [.ref 222, .int x0, .int x1, .int x2, .int x3]) [] m) = _
  rw [show mz_en (mz_xl 108) [.ref 222, .int x0, .int x1, .int x2, .int x3] = [some (.ref 222), some (.int x0), some (.int x1), some (.int x2), some (.int x3)] from by rw [show mz_xl 108 = 5 from by decide +kernel]; rfl]
  refine q_o (mz_fe (e := (0, .aload_n 0, 1, (0, 0, 0), [])) (by decide +kernel)) (pc2 := 1) rfl ?_
  refine q_getI (mz_fe (e := (1, .getfield 33, 88, (10, 6, 0), [])) (by decide +kernel)) rfl (by decide) tg_222 (by rw [ln_222]; decide) ?_
  refine q_bi (v := 20) (mz_fe (e := (4, .bipush 20, 2, (0, 0, 0), [])) (by decide +kernel)) (by decide) ?_
  refine q_if (c := .lt) (off := 5) (t := 11) (x := (mz_rd m 222 6)) (y := 20) (st := []) (mz_fe (e := (6, .if_icmp .lt 5, 3, (0, 0, 0), [])) (by decide +kernel)) (fun _ => rfl) rfl rfl rfl (fun c1 => ?_) (fun c1 => ?_)
  · refine q_o (mz_fe (e := (11, .aload_n 0, 1, (0, 0, 0), [])) (by decide +kernel)) (pc2 := 12) rfl ?_
    refine q_getR (b := 223) (mz_fe (e := (12, .getfield 11, 82, (10, 2, 2), [])) (by decide +kernel)) rfl tg_222 (by rw [ln_222]; decide) (mz_rfS (by decide +kernel)) ?_
    refine q_o (mz_fe (e := (15, .aload_n 0, 1, (0, 0, 0), [])) (by decide +kernel)) (pc2 := 16) rfl ?_
    refine q_getI (mz_fe (e := (16, .getfield 33, 88, (10, 6, 0), [])) (by decide +kernel)) rfl (by decide) tg_222 (by rw [ln_222]; decide) ?_
    refine q_o (mz_fe (e := (19, .iload_n 1, 1, (0, 0, 0), [])) (by decide +kernel)) (pc2 := 20) rfl ?_
    refine q_stAg (f := (fun x => x)) rfl (mz_fe (e := (20, .iastore, 1, (0, 0, 0), [])) (by decide +kernel)) (fun _ => rfl) rfl tg_223 ln_223 (fun g2 => ?_)
    refine q_o (mz_fe (e := (21, .aload_n 0, 1, (0, 0, 0), [])) (by decide +kernel)) (pc2 := 22) rfl ?_
    refine q_getR (b := 224) (mz_fe (e := (22, .getfield 15, 83, (10, 3, 2), [])) (by decide +kernel)) rfl tg_222 (by rw [ln_222]; decide) (mz_rfS (by decide +kernel)) ?_
    refine q_o (mz_fe (e := (25, .aload_n 0, 1, (0, 0, 0), [])) (by decide +kernel)) (pc2 := 26) rfl ?_
    refine q_getI (mz_fe (e := (26, .getfield 33, 88, (10, 6, 0), [])) (by decide +kernel)) rfl (by decide) tg_222 (by rw [ln_222]; decide) ?_
    refine q_o (mz_fe (e := (29, .iload_n 2, 1, (0, 0, 0), [])) (by decide +kernel)) (pc2 := 30) rfl ?_
    refine q_stAg (f := (fun x => x)) rfl (mz_fe (e := (30, .iastore, 1, (0, 0, 0), [])) (by decide +kernel)) (fun _ => rfl) rfl tg_224 ln_224 (fun g3 => ?_)
    refine q_o (mz_fe (e := (31, .aload_n 0, 1, (0, 0, 0), [])) (by decide +kernel)) (pc2 := 32) rfl ?_
    refine q_getR (b := 225) (mz_fe (e := (32, .getfield 18, 84, (10, 4, 2), [])) (by decide +kernel)) rfl tg_222 (by rw [ln_222]; decide) (mz_rfS (by decide +kernel)) ?_
    refine q_o (mz_fe (e := (35, .aload_n 0, 1, (0, 0, 0), [])) (by decide +kernel)) (pc2 := 36) rfl ?_
    refine q_getI (mz_fe (e := (36, .getfield 33, 88, (10, 6, 0), [])) (by decide +kernel)) rfl (by decide) tg_222 (by rw [ln_222]; decide) ?_
    refine q_o (mz_fe (e := (39, .iload_n 3, 1, (0, 0, 0), [])) (by decide +kernel)) (pc2 := 40) rfl ?_
    refine q_stAg (f := (fun x => x)) rfl (mz_fe (e := (40, .iastore, 1, (0, 0, 0), [])) (by decide +kernel)) (fun _ => rfl) rfl tg_225 ln_225 (fun g4 => ?_)
    refine q_o (mz_fe (e := (41, .aload_n 0, 1, (0, 0, 0), [])) (by decide +kernel)) (pc2 := 42) rfl ?_
    refine q_getR (b := 226) (mz_fe (e := (42, .getfield 21, 85, (10, 5, 2), [])) (by decide +kernel)) rfl tg_222 (by rw [ln_222]; decide) (mz_rfS (by decide +kernel)) ?_
    refine q_o (mz_fe (e := (45, .aload_n 0, 1, (0, 0, 0), [])) (by decide +kernel)) (pc2 := 46) rfl ?_
    refine q_getI (mz_fe (e := (46, .getfield 33, 88, (10, 6, 0), [])) (by decide +kernel)) rfl (by decide) tg_222 (by rw [ln_222]; decide) ?_
    refine q_o (mz_fe (e := (49, .iload 4, 2, (0, 0, 0), [])) (by decide +kernel)) (pc2 := 51) rfl ?_
    refine q_stAg (f := (vp_nar .boolean)) rfl (mz_fe (e := (51, .bastore, 1, (0, 0, 0), [])) (by decide +kernel)) (q_actZ tg_226) rfl tg_226 ln_226 (fun g5 => ?_)
    refine q_o (mz_fe (e := (52, .aload_n 0, 1, (0, 0, 0), [])) (by decide +kernel)) (pc2 := 53) rfl ?_
    refine q_o (mz_fe (e := (53, .dup, 1, (0, 0, 0), [])) (by decide +kernel)) (pc2 := 54) rfl ?_
    refine q_getI (mz_fe (e := (54, .getfield 33, 88, (10, 6, 0), [])) (by decide +kernel)) rfl (by decide) tg_222 (by rw [ln_222]; decide) ?_
    refine q_ic (v := 1) (mz_fe (e := (57, .iconst 1, 1, (0, 0, 0), [])) (by decide +kernel)) (by decide) ?_
    refine q_o (mz_fe (e := (58, .iadd, 1, (0, 0, 0), [])) (by decide +kernel)) (pc2 := 59) rfl ?_
    refine q_putI (mz_fe (e := (59, .putfield 33, 88, (10, 6, 0), [])) (by decide +kernel)) rfl tg_222 (by rw [ln_222]; decide) ?_
    refine q_o (mz_fe (e := (62, .aload_n 0, 1, (0, 0, 0), [])) (by decide +kernel)) (pc2 := 63) rfl ?_
    refine q_getI (mz_fe (e := (63, .getfield 33, 88, (10, 6, 0), [])) (by decide +kernel)) rfl (by decide) tg_222 (by rw [ln_222]; decide) ?_
    refine q_ic (v := 1) (mz_fe (e := (66, .iconst 1, 1, (0, 0, 0), [])) (by decide +kernel)) (by decide) ?_
    refine q_o (mz_fe (e := (67, .isub, 1, (0, 0, 0), [])) (by decide +kernel)) (pc2 := 68) rfl ?_
    exact q_retI (mz_fe (e := (68, .ireturn, 1, (0, 0, 0), [])) (by decide +kernel)) (by decide +kernel)
  · refine q_ic (v := (-1)) (mz_fe (e := (9, .iconst (-1), 1, (0, 0, 0), [])) (by decide +kernel)) (by decide) ?_
    exact q_retI (mz_fe (e := (10, .ireturn, 1, (0, 0, 0), [])) (by decide +kernel)) (by decide +kernel)
set_option maxRecDepth 10000 in
theorem R_X10_pairsLeft_eq (d : Nat) (s : Nat) (x0 : Int32) (m : MzM) (hs : mz_isS s = true) : R_X10_pairsLeft d s x0 m = H_X10_pairsLeft_8 d s x0 0 0 0 m := by
  show mz_cI (mz_T d 109 0 (mz_en (mz_xl 109) [.ref 222, .ref s, .int x0]) [] m) = _
  rw [show mz_en (mz_xl 109) [.ref 222, .ref s, .int x0] = [some (.ref 222), some (.ref s), some (.int x0), none, none, none, none] from by rw [show mz_xl 109 = 7 from by decide +kernel]; rfl]
  refine q_ic (v := 0) (mz_fe (e := (0, .iconst 0, 1, (0, 0, 0), [])) (by decide +kernel)) (by decide) ?_
  refine q_s (mz_fe (e := (1, .istore_n 3, 1, (0, 0, 0), [])) (by decide +kernel)) (pc' := 2) (L' := [some (.ref 222), some (.ref s), some (.int x0), some (.int 0), none, none, none]) (st' := []) rfl ?_
  refine q_ic (v := 0) (mz_fe (e := (2, .iconst 0, 1, (0, 0, 0), [])) (by decide +kernel)) (by decide) ?_
  refine q_s (mz_fe (e := (3, .istore 4, 2, (0, 0, 0), [])) (by decide +kernel)) (pc' := 5) (L' := [some (.ref 222), some (.ref s), some (.int x0), some (.int 0), some (.int 0), none, none]) (st' := []) rfl ?_
  refine q_ic (v := 0) (mz_fe (e := (5, .iconst 0, 1, (0, 0, 0), [])) (by decide +kernel)) (by decide) ?_
  refine q_s (mz_fe (e := (6, .istore 5, 2, (0, 0, 0), [])) (by decide +kernel)) (pc' := 8) (L' := [some (.ref 222), some (.ref s), some (.int x0), some (.int 0), some (.int 0), some (.int 0), none]) (st' := []) rfl ?_
  exact congrArg mz_cI (mz_At_msk (L := [some (.ref 222), some (.ref s), some (.int x0), some (.int 0), some (.int 0), some (.int 0), none]) (L2 := [some (.ref 222), some (.ref s), some (.int x0), some (.int 0), some (.int 0), some (.int 0), none]) (mz_fe (e := (8, .iload 5, 2, (0, 0, 0), [true, true, true, true, true, true, false])) (by decide +kernel)) rfl rfl)
set_option maxRecDepth 10000 in
theorem H_X10_pairsLeft_8_eq (d : Nat) (a1 : Nat) (y2 : Int32) (y3 : Int32) (y4 : Int32) (y5 : Int32) (m : MzM) (ha1 : mz_isS a1 = true) : H_X10_pairsLeft_8 d a1 y2 y3 y4 y5 m = if (mz_rd m 4 4) ≤ y5 then (some (y3, m)) else (H_X10_pairsLeft_26 d a1 y2 y3 y4 y5 (y5 + 1) m) := by
  show mz_cI (mz_T d 109 8 [some (.ref 222), some (.ref a1), some (.int y2), some (.int y3), some (.int y4), some (.int y5), none] [] m) = _
  refine q_s (mz_fe (e := (8, .iload 5, 2, (0, 0, 0), [true, true, true, true, true, true, false])) (by decide +kernel)) (pc' := 10) (L' := [some (.ref 222), some (.ref a1), some (.int y2), some (.int y3), some (.int y4), some (.int y5), none]) (st' := [.int y5]) rfl ?_
  refine q_o (mz_fe (e := (10, .aload_n 0, 1, (0, 0, 0), [])) (by decide +kernel)) (pc2 := 11) rfl ?_
  refine q_getR (b := 4) (mz_fe (e := (11, .getfield 25, 86, (10, 0, 2), [])) (by decide +kernel)) rfl tg_222 (by rw [ln_222]; decide) (mz_rfS (by decide +kernel)) ?_
  refine q_getI (mz_fe (e := (14, .getfield 37, 89, (8, 4, 0), [])) (by decide +kernel)) rfl (by decide) tg_4 (by rw [ln_4]; decide) ?_
  refine q_if (c := .ge) (off := 60) (t := 77) (x := y5) (y := (mz_rd m 4 4)) (st := []) (mz_fe (e := (17, .if_icmp .ge 60, 3, (0, 0, 0), [])) (by decide +kernel)) (fun _ => rfl) rfl rfl rfl (fun c1 => ?_) (fun c1 => ?_)
  · refine q_o (mz_fe (e := (77, .iload_n 3, 1, (0, 0, 0), [])) (by decide +kernel)) (pc2 := 78) rfl ?_
    exact q_retI (mz_fe (e := (78, .ireturn, 1, (0, 0, 0), [])) (by decide +kernel)) (by decide +kernel)
  · refine q_o (mz_fe (e := (20, .iload 5, 2, (0, 0, 0), [])) (by decide +kernel)) (pc2 := 22) rfl ?_
    refine q_ic (v := 1) (mz_fe (e := (22, .iconst 1, 1, (0, 0, 0), [])) (by decide +kernel)) (by decide) ?_
    refine q_o (mz_fe (e := (23, .iadd, 1, (0, 0, 0), [])) (by decide +kernel)) (pc2 := 24) rfl ?_
    refine q_s (mz_fe (e := (24, .istore 6, 2, (0, 0, 0), [])) (by decide +kernel)) (pc' := 26) (L' := [some (.ref 222), some (.ref a1), some (.int y2), some (.int y3), some (.int y4), some (.int y5), some (.int (y5 + 1))]) (st' := []) rfl ?_
    exact congrArg mz_cI (mz_At_msk (L := [some (.ref 222), some (.ref a1), some (.int y2), some (.int y3), some (.int y4), some (.int y5), some (.int (y5 + 1))]) (L2 := [some (.ref 222), some (.ref a1), some (.int y2), some (.int y3), some (.int y4), some (.int y5), some (.int (y5 + 1))]) (mz_fe (e := (26, .iload 6, 2, (0, 0, 0), [true, true, true, true, true, true, true])) (by decide +kernel)) rfl rfl)
set_option maxRecDepth 10000 in
theorem H_X10_pairsLeft_26_eq (d : Nat) (a1 : Nat) (y2 : Int32) (y3 : Int32) (y4 : Int32) (y5 : Int32) (y6 : Int32) (m : MzM) (ha1 : mz_isS a1 = true) : H_X10_pairsLeft_26 d a1 y2 y3 y4 y5 y6 m = if (mz_rd m 4 4) ≤ y6 then (H_X10_pairsLeft_8 d a1 y2 y3 y4 (y5 + 1) m) else ((R_X10_fits d a1 y5 y6 y2 m).bind (fun u5 => if u5.1 = 0 then (H_X10_pairsLeft_26 d a1 y2 (y3 ||| 0) (y4 + 1) y5 (y6 + 1) u5.2) else (H_X10_pairsLeft_26 d a1 y2 (y3 ||| ((1 : Int32) <<< (y4 &&& 31))) (y4 + 1) y5 (y6 + 1) u5.2))) := by
  show mz_cI (mz_T d 109 26 [some (.ref 222), some (.ref a1), some (.int y2), some (.int y3), some (.int y4), some (.int y5), some (.int y6)] [] m) = _
  refine q_s (mz_fe (e := (26, .iload 6, 2, (0, 0, 0), [true, true, true, true, true, true, true])) (by decide +kernel)) (pc' := 28) (L' := [some (.ref 222), some (.ref a1), some (.int y2), some (.int y3), some (.int y4), some (.int y5), some (.int y6)]) (st' := [.int y6]) rfl ?_
  refine q_o (mz_fe (e := (28, .aload_n 0, 1, (0, 0, 0), [])) (by decide +kernel)) (pc2 := 29) rfl ?_
  refine q_getR (b := 4) (mz_fe (e := (29, .getfield 25, 86, (10, 0, 2), [])) (by decide +kernel)) rfl tg_222 (by rw [ln_222]; decide) (mz_rfS (by decide +kernel)) ?_
  refine q_getI (mz_fe (e := (32, .getfield 37, 89, (8, 4, 0), [])) (by decide +kernel)) rfl (by decide) tg_4 (by rw [ln_4]; decide) ?_
  refine q_if (c := .ge) (off := 36) (t := 71) (x := y6) (y := (mz_rd m 4 4)) (st := []) (mz_fe (e := (35, .if_icmp .ge 36, 3, (0, 0, 0), [])) (by decide +kernel)) (fun _ => rfl) rfl rfl rfl (fun c2 => ?_) (fun c2 => ?_)
  · refine q_iinc (v := y5) (c := 1) (L3 := [some (.ref 222), some (.ref a1), some (.int y2), some (.int y3), some (.int y4), some (.int (y5 + 1)), some (.int y6)]) (mz_fe (e := (71, .iinc 5 1, 3, (0, 0, 0), [])) (by decide +kernel)) rfl rfl (by decide) rfl ?_
    refine q_o (mz_fe (e := (74, .goto (-66), 3, (0, 0, 0), [])) (by decide +kernel)) (pc2 := 8) rfl ?_
    exact congrArg mz_cI (mz_At_msk (L := [some (.ref 222), some (.ref a1), some (.int y2), some (.int y3), some (.int y4), some (.int (y5 + 1)), some (.int y6)]) (L2 := [some (.ref 222), some (.ref a1), some (.int y2), some (.int y3), some (.int y4), some (.int (y5 + 1)), none]) (mz_fe (e := (8, .iload 5, 2, (0, 0, 0), [true, true, true, true, true, true, false])) (by decide +kernel)) rfl rfl)
  · refine q_o (mz_fe (e := (38, .iload_n 3, 1, (0, 0, 0), [])) (by decide +kernel)) (pc2 := 39) rfl ?_
    refine q_o (mz_fe (e := (39, .aload_n 0, 1, (0, 0, 0), [])) (by decide +kernel)) (pc2 := 40) rfl ?_
    refine q_o (mz_fe (e := (40, .aload_n 1, 1, (0, 0, 0), [])) (by decide +kernel)) (pc2 := 41) rfl ?_
    refine q_o (mz_fe (e := (41, .iload 5, 2, (0, 0, 0), [])) (by decide +kernel)) (pc2 := 43) rfl ?_
    refine q_o (mz_fe (e := (43, .iload 6, 2, (0, 0, 0), [])) (by decide +kernel)) (pc2 := 45) rfl ?_
    refine q_o (mz_fe (e := (45, .iload_n 2, 1, (0, 0, 0), [])) (by decide +kernel)) (pc2 := 46) rfl ?_
    refine q_callI (N := 110) (vs := [.ref 222, .ref a1, .int y5, .int y6, .int y2]) (rest := [.int y3]) (L' := [some (.ref 222), some (.ref a1), some (.int y2), some (.int y3), some (.int y4), some (.int y5), some (.int y6)]) (f := fun v4 m3 => if v4 = 0 then (H_X10_pairsLeft_26 d a1 y2 (y3 ||| 0) (y4 + 1) y5 (y6 + 1) m3) else (H_X10_pairsLeft_26 d a1 y2 (y3 ||| ((1 : Int32) <<< (y4 &&& 31))) (y4 + 1) y5 (y6 + 1) m3)) rfl (mz_fe (e := (46, .invokevirtual 42, 90, (110, 5, 16), [])) (by decide +kernel)) rfl (mz_inv_virt (N := 110) (k := 5) (t := 16) (st := [.int y2, .int y6, .int y5, .ref a1, .ref 222, .int y3]) (rest := [.int y3]) (b := 222) (vs := [.ref a1, .int y5, .int y6, .int y2]) (h := (mz_S0, m)) rfl rfl (Nat.le_of_ble_eq_true rfl) (Nat.le_of_ble_eq_true rfl) tg_222 (by decide)) (mz_dc_lt (n := 5) rfl (by decide +kernel) (by decide +kernel)) (by decide +kernel) (Or.inr (by decide +kernel)) (fun v4 m3 => ?_)
    refine q_if (c := .eq) (off := 10) (t := 59) (x := v4) (y := 0) (st := [.int y3]) (mz_fe (e := (49, .ifCond .eq 10, 3, (0, 0, 0), [])) (by decide +kernel)) (fun _ => rfl) rfl rfl rfl (fun c6 => ?_) (fun c6 => ?_)
    · refine q_ic (v := 0) (mz_fe (e := (59, .iconst 0, 1, (0, 0, 0), [])) (by decide +kernel)) (by decide) ?_
      refine q_o (mz_fe (e := (60, .ior, 1, (0, 0, 0), [])) (by decide +kernel)) (pc2 := 61) rfl ?_
      refine q_s (mz_fe (e := (61, .istore_n 3, 1, (0, 0, 0), [])) (by decide +kernel)) (pc' := 62) (L' := [some (.ref 222), some (.ref a1), some (.int y2), some (.int (y3 ||| 0)), some (.int y4), some (.int y5), some (.int y6)]) (st' := []) rfl ?_
      refine q_iinc (v := y4) (c := 1) (L3 := [some (.ref 222), some (.ref a1), some (.int y2), some (.int (y3 ||| 0)), some (.int (y4 + 1)), some (.int y5), some (.int y6)]) (mz_fe (e := (62, .iinc 4 1, 3, (0, 0, 0), [])) (by decide +kernel)) rfl rfl (by decide) rfl ?_
      refine q_iinc (v := y6) (c := 1) (L3 := [some (.ref 222), some (.ref a1), some (.int y2), some (.int (y3 ||| 0)), some (.int (y4 + 1)), some (.int y5), some (.int (y6 + 1))]) (mz_fe (e := (65, .iinc 6 1, 3, (0, 0, 0), [])) (by decide +kernel)) rfl rfl (by decide) rfl ?_
      refine q_o (mz_fe (e := (68, .goto (-42), 3, (0, 0, 0), [])) (by decide +kernel)) (pc2 := 26) rfl ?_
      exact congrArg mz_cI (mz_At_msk (L := [some (.ref 222), some (.ref a1), some (.int y2), some (.int (y3 ||| 0)), some (.int (y4 + 1)), some (.int y5), some (.int (y6 + 1))]) (L2 := [some (.ref 222), some (.ref a1), some (.int y2), some (.int (y3 ||| 0)), some (.int (y4 + 1)), some (.int y5), some (.int (y6 + 1))]) (mz_fe (e := (26, .iload 6, 2, (0, 0, 0), [true, true, true, true, true, true, true])) (by decide +kernel)) rfl rfl)
    · refine q_ic (v := 1) (mz_fe (e := (52, .iconst 1, 1, (0, 0, 0), [])) (by decide +kernel)) (by decide) ?_
      refine q_o (mz_fe (e := (53, .iload 4, 2, (0, 0, 0), [])) (by decide +kernel)) (pc2 := 55) rfl ?_
      refine q_o (mz_fe (e := (55, .ishl, 1, (0, 0, 0), [])) (by decide +kernel)) (pc2 := 56) rfl ?_
      refine q_o (mz_fe (e := (56, .goto 4, 3, (0, 0, 0), [])) (by decide +kernel)) (pc2 := 60) rfl ?_
      refine q_o (mz_fe (e := (60, .ior, 1, (0, 0, 0), [])) (by decide +kernel)) (pc2 := 61) rfl ?_
      refine q_s (mz_fe (e := (61, .istore_n 3, 1, (0, 0, 0), [])) (by decide +kernel)) (pc' := 62) (L' := [some (.ref 222), some (.ref a1), some (.int y2), some (.int (y3 ||| ((1 : Int32) <<< (y4 &&& 31)))), some (.int y4), some (.int y5), some (.int y6)]) (st' := []) rfl ?_
      refine q_iinc (v := y4) (c := 1) (L3 := [some (.ref 222), some (.ref a1), some (.int y2), some (.int (y3 ||| ((1 : Int32) <<< (y4 &&& 31)))), some (.int (y4 + 1)), some (.int y5), some (.int y6)]) (mz_fe (e := (62, .iinc 4 1, 3, (0, 0, 0), [])) (by decide +kernel)) rfl rfl (by decide) rfl ?_
      refine q_iinc (v := y6) (c := 1) (L3 := [some (.ref 222), some (.ref a1), some (.int y2), some (.int (y3 ||| ((1 : Int32) <<< (y4 &&& 31)))), some (.int (y4 + 1)), some (.int y5), some (.int (y6 + 1))]) (mz_fe (e := (65, .iinc 6 1, 3, (0, 0, 0), [])) (by decide +kernel)) rfl rfl (by decide) rfl ?_
      refine q_o (mz_fe (e := (68, .goto (-42), 3, (0, 0, 0), [])) (by decide +kernel)) (pc2 := 26) rfl ?_
      exact congrArg mz_cI (mz_At_msk (L := [some (.ref 222), some (.ref a1), some (.int y2), some (.int (y3 ||| ((1 : Int32) <<< (y4 &&& 31)))), some (.int (y4 + 1)), some (.int y5), some (.int (y6 + 1))]) (L2 := [some (.ref 222), some (.ref a1), some (.int y2), some (.int (y3 ||| ((1 : Int32) <<< (y4 &&& 31)))), some (.int (y4 + 1)), some (.int y5), some (.int (y6 + 1))]) (mz_fe (e := (26, .iload 6, 2, (0, 0, 0), [true, true, true, true, true, true, true])) (by decide +kernel)) rfl rfl)
set_option maxRecDepth 10000 in
theorem R_X10_fits_eq (d : Nat) (s : Nat) (x0 : Int32) (x1 : Int32) (x2 : Int32) (m : MzM) (hs : mz_isS s = true) : R_X10_fits d s x0 x1 x2 m = H_X10_fits_3 d s x0 x1 x2 0 m := by
  show mz_cI (mz_T d 110 0 (mz_en (mz_xl 110) [.ref 222, .ref s, .int x0, .int x1, .int x2]) [] m) = _
  rw [show mz_en (mz_xl 110) [.ref 222, .ref s, .int x0, .int x1, .int x2] = [some (.ref 222), some (.ref s), some (.int x0), some (.int x1), some (.int x2), none, none] from by rw [show mz_xl 110 = 7 from by decide +kernel]; rfl]
  refine q_ic (v := 0) (mz_fe (e := (0, .iconst 0, 1, (0, 0, 0), [])) (by decide +kernel)) (by decide) ?_
  refine q_s (mz_fe (e := (1, .istore 5, 2, (0, 0, 0), [])) (by decide +kernel)) (pc' := 3) (L' := [some (.ref 222), some (.ref s), some (.int x0), some (.int x1), some (.int x2), some (.int 0), none]) (st' := []) rfl ?_
  exact congrArg mz_cI (mz_At_msk (L := [some (.ref 222), some (.ref s), some (.int x0), some (.int x1), some (.int x2), some (.int 0), none]) (L2 := [some (.ref 222), some (.ref s), some (.int x0), some (.int x1), some (.int x2), some (.int 0), none]) (mz_fe (e := (3, .iload 5, 2, (0, 0, 0), [true, true, true, true, true, true, false])) (by decide +kernel)) rfl rfl)
set_option maxRecDepth 10000 in
theorem H_X10_fits_3_eq (d : Nat) (a1 : Nat) (y2 : Int32) (y3 : Int32) (y4 : Int32) (y5 : Int32) (m : MzM) (ha1 : mz_isS a1 = true) : H_X10_fits_3 d a1 y2 y3 y4 y5 m = if y4 ≤ y5 then (some (1, m)) else (if (mz_rd m 222 6) ≤ y5 then (some (1, m)) else (mz_g (mz_ok y5 20) (mz_g (mz_ok y5 20) ((R_X10_amountBehind d a1 y2 y3 (mz_rd m 223 (y5 : Int32).toNatClampNeg) (mz_rd m 224 (y5 : Int32).toNatClampNeg) m).bind (fun u7 => mz_g (mz_ok y5 20) (if u7.1 < (mz_rd u7.2 225 (y5 : Int32).toNatClampNeg) then (mz_g (mz_ok y5 20) (if (0 : Int32) = (mz_rd u7.2 226 (y5 : Int32).toNatClampNeg) then (H_X10_fits_3 d a1 y2 y3 y4 (y5 + 1) u7.2) else (some (0, u7.2)))) else (mz_g (mz_ok y5 20) (if (1 : Int32) = (mz_rd u7.2 226 (y5 : Int32).toNatClampNeg) then (H_X10_fits_3 d a1 y2 y3 y4 (y5 + 1) u7.2) else (some (0, u7.2)))))))))) := by
  show mz_cI (mz_T d 110 3 [some (.ref 222), some (.ref a1), some (.int y2), some (.int y3), some (.int y4), some (.int y5), none] [] m) = _
  refine q_s (mz_fe (e := (3, .iload 5, 2, (0, 0, 0), [true, true, true, true, true, true, false])) (by decide +kernel)) (pc' := 5) (L' := [some (.ref 222), some (.ref a1), some (.int y2), some (.int y3), some (.int y4), some (.int y5), none]) (st' := [.int y5]) rfl ?_
  refine q_o (mz_fe (e := (5, .iload 4, 2, (0, 0, 0), [])) (by decide +kernel)) (pc2 := 7) rfl ?_
  refine q_if (c := .ge) (off := 70) (t := 77) (x := y5) (y := y4) (st := []) (mz_fe (e := (7, .if_icmp .ge 70, 3, (0, 0, 0), [])) (by decide +kernel)) (fun _ => rfl) rfl rfl rfl (fun c1 => ?_) (fun c1 => ?_)
  · refine q_ic (v := 1) (mz_fe (e := (77, .iconst 1, 1, (0, 0, 0), [])) (by decide +kernel)) (by decide) ?_
    exact q_retZ (mz_fe (e := (78, .ireturn, 1, (0, 0, 0), [])) (by decide +kernel)) (by decide +kernel) (by decide)
  · refine q_o (mz_fe (e := (10, .iload 5, 2, (0, 0, 0), [])) (by decide +kernel)) (pc2 := 12) rfl ?_
    refine q_o (mz_fe (e := (12, .aload_n 0, 1, (0, 0, 0), [])) (by decide +kernel)) (pc2 := 13) rfl ?_
    refine q_getI (mz_fe (e := (13, .getfield 33, 88, (10, 6, 0), [])) (by decide +kernel)) rfl (by decide) tg_222 (by rw [ln_222]; decide) ?_
    refine q_if (c := .ge) (off := 61) (t := 77) (x := y5) (y := (mz_rd m 222 6)) (st := []) (mz_fe (e := (16, .if_icmp .ge 61, 3, (0, 0, 0), [])) (by decide +kernel)) (fun _ => rfl) rfl rfl rfl (fun c2 => ?_) (fun c2 => ?_)
    · refine q_ic (v := 1) (mz_fe (e := (77, .iconst 1, 1, (0, 0, 0), [])) (by decide +kernel)) (by decide) ?_
      exact q_retZ (mz_fe (e := (78, .ireturn, 1, (0, 0, 0), [])) (by decide +kernel)) (by decide +kernel) (by decide)
    · refine q_o (mz_fe (e := (19, .aload_n 0, 1, (0, 0, 0), [])) (by decide +kernel)) (pc2 := 20) rfl ?_
      refine q_o (mz_fe (e := (20, .aload_n 1, 1, (0, 0, 0), [])) (by decide +kernel)) (pc2 := 21) rfl ?_
      refine q_o (mz_fe (e := (21, .iload_n 2, 1, (0, 0, 0), [])) (by decide +kernel)) (pc2 := 22) rfl ?_
      refine q_o (mz_fe (e := (22, .iload_n 3, 1, (0, 0, 0), [])) (by decide +kernel)) (pc2 := 23) rfl ?_
      refine q_o (mz_fe (e := (23, .aload_n 0, 1, (0, 0, 0), [])) (by decide +kernel)) (pc2 := 24) rfl ?_
      refine q_getR (b := 223) (mz_fe (e := (24, .getfield 11, 82, (10, 2, 2), [])) (by decide +kernel)) rfl tg_222 (by rw [ln_222]; decide) (mz_rfS (by decide +kernel)) ?_
      refine q_o (mz_fe (e := (27, .iload 5, 2, (0, 0, 0), [])) (by decide +kernel)) (pc2 := 29) rfl ?_
      refine q_ialdg rfl (mz_fe (e := (29, .iaload, 1, (0, 0, 0), [])) (by decide +kernel)) rfl (by decide) tg_223 ln_223 (fun g3 => ?_)
      refine q_o (mz_fe (e := (30, .aload_n 0, 1, (0, 0, 0), [])) (by decide +kernel)) (pc2 := 31) rfl ?_
      refine q_getR (b := 224) (mz_fe (e := (31, .getfield 15, 83, (10, 3, 2), [])) (by decide +kernel)) rfl tg_222 (by rw [ln_222]; decide) (mz_rfS (by decide +kernel)) ?_
      refine q_o (mz_fe (e := (34, .iload 5, 2, (0, 0, 0), [])) (by decide +kernel)) (pc2 := 36) rfl ?_
      refine q_ialdg rfl (mz_fe (e := (36, .iaload, 1, (0, 0, 0), [])) (by decide +kernel)) rfl (by decide) tg_224 ln_224 (fun g4 => ?_)
      refine q_callI (N := 111) (vs := [.ref 222, .ref a1, .int y2, .int y3, .int (mz_rd m 223 (y5 : Int32).toNatClampNeg), .int (mz_rd m 224 (y5 : Int32).toNatClampNeg)]) (rest := []) (L' := [some (.ref 222), some (.ref a1), some (.int y2), some (.int y3), some (.int y4), some (.int y5), none]) (f := fun v6 m5 => mz_g (mz_ok y5 20) (if v6 < (mz_rd m5 225 (y5 : Int32).toNatClampNeg) then (mz_g (mz_ok y5 20) (if (0 : Int32) = (mz_rd m5 226 (y5 : Int32).toNatClampNeg) then (H_X10_fits_3 d a1 y2 y3 y4 (y5 + 1) m5) else (some (0, m5)))) else (mz_g (mz_ok y5 20) (if (1 : Int32) = (mz_rd m5 226 (y5 : Int32).toNatClampNeg) then (H_X10_fits_3 d a1 y2 y3 y4 (y5 + 1) m5) else (some (0, m5)))))) rfl (mz_fe (e := (37, .invokevirtual 46, 91, (111, 6, 16), [])) (by decide +kernel)) rfl (mz_inv_virt (N := 111) (k := 6) (t := 16) (st := [.int (mz_rd m 224 (y5 : Int32).toNatClampNeg), .int (mz_rd m 223 (y5 : Int32).toNatClampNeg), .int y3, .int y2, .ref a1, .ref 222]) (rest := []) (b := 222) (vs := [.ref a1, .int y2, .int y3, .int (mz_rd m 223 (y5 : Int32).toNatClampNeg), .int (mz_rd m 224 (y5 : Int32).toNatClampNeg)]) (h := (mz_S0, m)) rfl rfl (Nat.le_of_ble_eq_true rfl) (Nat.le_of_ble_eq_true rfl) tg_222 (by decide)) (mz_dc_lt (n := 6) rfl (by decide +kernel) (by decide +kernel)) (by decide +kernel) (Or.inl (by decide +kernel)) (fun v6 m5 => ?_)
      refine q_o (mz_fe (e := (40, .aload_n 0, 1, (0, 0, 0), [])) (by decide +kernel)) (pc2 := 41) rfl ?_
      refine q_getR (b := 225) (mz_fe (e := (41, .getfield 18, 84, (10, 4, 2), [])) (by decide +kernel)) rfl tg_222 (by rw [ln_222]; decide) (mz_rfS (by decide +kernel)) ?_
      refine q_o (mz_fe (e := (44, .iload 5, 2, (0, 0, 0), [])) (by decide +kernel)) (pc2 := 46) rfl ?_
      refine q_ialdg rfl (mz_fe (e := (46, .iaload, 1, (0, 0, 0), [])) (by decide +kernel)) rfl (by decide) tg_225 ln_225 (fun g8 => ?_)
      refine q_if (c := .lt) (off := 7) (t := 54) (x := v6) (y := (mz_rd m5 225 (y5 : Int32).toNatClampNeg)) (st := []) (mz_fe (e := (47, .if_icmp .lt 7, 3, (0, 0, 0), [])) (by decide +kernel)) (fun _ => rfl) rfl rfl rfl (fun c9 => ?_) (fun c9 => ?_)
      · refine q_ic (v := 0) (mz_fe (e := (54, .iconst 0, 1, (0, 0, 0), [])) (by decide +kernel)) (by decide) ?_
        refine q_s (mz_fe (e := (55, .istore 6, 2, (0, 0, 0), [])) (by decide +kernel)) (pc' := 57) (L' := [some (.ref 222), some (.ref a1), some (.int y2), some (.int y3), some (.int y4), some (.int y5), some (.int 0)]) (st' := []) rfl ?_
        refine q_o (mz_fe (e := (57, .iload 6, 2, (0, 0, 0), [])) (by decide +kernel)) (pc2 := 59) rfl ?_
        refine q_o (mz_fe (e := (59, .aload_n 0, 1, (0, 0, 0), [])) (by decide +kernel)) (pc2 := 60) rfl ?_
        refine q_getR (b := 226) (mz_fe (e := (60, .getfield 21, 85, (10, 5, 2), [])) (by decide +kernel)) rfl tg_222 (by rw [ln_222]; decide) (mz_rfS (by decide +kernel)) ?_
        refine q_o (mz_fe (e := (63, .iload 5, 2, (0, 0, 0), [])) (by decide +kernel)) (pc2 := 65) rfl ?_
        refine q_baldg rfl (mz_fe (e := (65, .baload, 1, (0, 0, 0), [])) (by decide +kernel)) rfl (Or.inl tg_226) ln_226 (fun g10 => ?_)
        refine q_if (c := .eq) (off := 5) (t := 71) (x := 0) (y := (mz_rd m5 226 (y5 : Int32).toNatClampNeg)) (st := []) (mz_fe (e := (66, .if_icmp .eq 5, 3, (0, 0, 0), [])) (by decide +kernel)) (fun _ => rfl) rfl rfl rfl (fun c11 => ?_) (fun c11 => ?_)
        · refine q_iinc (v := y5) (c := 1) (L3 := [some (.ref 222), some (.ref a1), some (.int y2), some (.int y3), some (.int y4), some (.int (y5 + 1)), some (.int 0)]) (mz_fe (e := (71, .iinc 5 1, 3, (0, 0, 0), [])) (by decide +kernel)) rfl rfl (by decide) rfl ?_
          refine q_o (mz_fe (e := (74, .goto (-71), 3, (0, 0, 0), [])) (by decide +kernel)) (pc2 := 3) rfl ?_
          exact congrArg mz_cI (mz_At_msk (L := [some (.ref 222), some (.ref a1), some (.int y2), some (.int y3), some (.int y4), some (.int (y5 + 1)), some (.int 0)]) (L2 := [some (.ref 222), some (.ref a1), some (.int y2), some (.int y3), some (.int y4), some (.int (y5 + 1)), none]) (mz_fe (e := (3, .iload 5, 2, (0, 0, 0), [true, true, true, true, true, true, false])) (by decide +kernel)) rfl rfl)
        · refine q_ic (v := 0) (mz_fe (e := (69, .iconst 0, 1, (0, 0, 0), [])) (by decide +kernel)) (by decide) ?_
          exact q_retZ (mz_fe (e := (70, .ireturn, 1, (0, 0, 0), [])) (by decide +kernel)) (by decide +kernel) (by decide)
      · refine q_ic (v := 1) (mz_fe (e := (50, .iconst 1, 1, (0, 0, 0), [])) (by decide +kernel)) (by decide) ?_
        refine q_o (mz_fe (e := (51, .goto 4, 3, (0, 0, 0), [])) (by decide +kernel)) (pc2 := 55) rfl ?_
        refine q_s (mz_fe (e := (55, .istore 6, 2, (0, 0, 0), [])) (by decide +kernel)) (pc' := 57) (L' := [some (.ref 222), some (.ref a1), some (.int y2), some (.int y3), some (.int y4), some (.int y5), some (.int 1)]) (st' := []) rfl ?_
        refine q_o (mz_fe (e := (57, .iload 6, 2, (0, 0, 0), [])) (by decide +kernel)) (pc2 := 59) rfl ?_
        refine q_o (mz_fe (e := (59, .aload_n 0, 1, (0, 0, 0), [])) (by decide +kernel)) (pc2 := 60) rfl ?_
        refine q_getR (b := 226) (mz_fe (e := (60, .getfield 21, 85, (10, 5, 2), [])) (by decide +kernel)) rfl tg_222 (by rw [ln_222]; decide) (mz_rfS (by decide +kernel)) ?_
        refine q_o (mz_fe (e := (63, .iload 5, 2, (0, 0, 0), [])) (by decide +kernel)) (pc2 := 65) rfl ?_
        refine q_baldg rfl (mz_fe (e := (65, .baload, 1, (0, 0, 0), [])) (by decide +kernel)) rfl (Or.inl tg_226) ln_226 (fun g12 => ?_)
        refine q_if (c := .eq) (off := 5) (t := 71) (x := 1) (y := (mz_rd m5 226 (y5 : Int32).toNatClampNeg)) (st := []) (mz_fe (e := (66, .if_icmp .eq 5, 3, (0, 0, 0), [])) (by decide +kernel)) (fun _ => rfl) rfl rfl rfl (fun c13 => ?_) (fun c13 => ?_)
        · refine q_iinc (v := y5) (c := 1) (L3 := [some (.ref 222), some (.ref a1), some (.int y2), some (.int y3), some (.int y4), some (.int (y5 + 1)), some (.int 1)]) (mz_fe (e := (71, .iinc 5 1, 3, (0, 0, 0), [])) (by decide +kernel)) rfl rfl (by decide) rfl ?_
          refine q_o (mz_fe (e := (74, .goto (-71), 3, (0, 0, 0), [])) (by decide +kernel)) (pc2 := 3) rfl ?_
          exact congrArg mz_cI (mz_At_msk (L := [some (.ref 222), some (.ref a1), some (.int y2), some (.int y3), some (.int y4), some (.int (y5 + 1)), some (.int 1)]) (L2 := [some (.ref 222), some (.ref a1), some (.int y2), some (.int y3), some (.int y4), some (.int (y5 + 1)), none]) (mz_fe (e := (3, .iload 5, 2, (0, 0, 0), [true, true, true, true, true, true, false])) (by decide +kernel)) rfl rfl)
        · refine q_ic (v := 0) (mz_fe (e := (69, .iconst 0, 1, (0, 0, 0), [])) (by decide +kernel)) (by decide) ?_
          exact q_retZ (mz_fe (e := (70, .ireturn, 1, (0, 0, 0), [])) (by decide +kernel)) (by decide +kernel) (by decide)
set_option maxRecDepth 10000 in
theorem R_X10_amountBehind_eq (d : Nat) (s : Nat) (x0 : Int32) (x1 : Int32) (x2 : Int32) (x3 : Int32) (m : MzM) (hs : mz_isS s = true) : R_X10_amountBehind d s x0 x1 x2 x3 m = if x2 = x0 then ((R_X3_share d s x0 x1 x3 m).bind (fun u4 => some (u4.1, u4.2))) else (if ¬ x2 = x1 then ((R_X6_amount d s x2 x3 m).bind (fun u8 => some (u8.1, u8.2))) else ((R_X3_share d s x0 x1 x3 m).bind (fun u11 => some (u11.1, u11.2)))) := by
  show mz_cI (mz_T d 111 0 (mz_en (mz_xl 111) [.ref 222, .ref s, .int x0, .int x1, .int x2, .int x3]) [] m) = _
  rw [show mz_en (mz_xl 111) [.ref 222, .ref s, .int x0, .int x1, .int x2, .int x3] = [some (.ref 222), some (.ref s), some (.int x0), some (.int x1), some (.int x2), some (.int x3)] from by rw [show mz_xl 111 = 6 from by decide +kernel]; rfl]
  refine q_o (mz_fe (e := (0, .iload 4, 2, (0, 0, 0), [])) (by decide +kernel)) (pc2 := 2) rfl ?_
  refine q_o (mz_fe (e := (2, .iload_n 2, 1, (0, 0, 0), [])) (by decide +kernel)) (pc2 := 3) rfl ?_
  refine q_if (c := .eq) (off := 9) (t := 12) (x := x2) (y := x0) (st := []) (mz_fe (e := (3, .if_icmp .eq 9, 3, (0, 0, 0), [])) (by decide +kernel)) (fun _ => rfl) rfl rfl rfl (fun c1 => ?_) (fun c1 => ?_)
  · refine q_o (mz_fe (e := (12, .aload_n 0, 1, (0, 0, 0), [])) (by decide +kernel)) (pc2 := 13) rfl ?_
    refine q_getR (b := 27) (mz_fe (e := (13, .getfield 29, 87, (10, 1, 2), [])) (by decide +kernel)) rfl tg_222 (by rw [ln_222]; decide) (mz_rfS (by decide +kernel)) ?_
    refine q_o (mz_fe (e := (16, .aload_n 1, 1, (0, 0, 0), [])) (by decide +kernel)) (pc2 := 17) rfl ?_
    refine q_o (mz_fe (e := (17, .iload_n 2, 1, (0, 0, 0), [])) (by decide +kernel)) (pc2 := 18) rfl ?_
    refine q_o (mz_fe (e := (18, .iload_n 3, 1, (0, 0, 0), [])) (by decide +kernel)) (pc2 := 19) rfl ?_
    refine q_o (mz_fe (e := (19, .iload 5, 2, (0, 0, 0), [])) (by decide +kernel)) (pc2 := 21) rfl ?_
    refine q_callI (N := 32) (vs := [.ref 27, .ref s, .int x0, .int x1, .int x3]) (rest := []) (L' := [some (.ref 222), some (.ref s), some (.int x0), some (.int x1), some (.int x2), some (.int x3)]) (f := fun v3 m2 => some (v3, m2)) rfl (mz_fe (e := (21, .invokevirtual 50, 92, (32, 5, 9), [])) (by decide +kernel)) rfl (mz_inv_virt (N := 32) (k := 5) (t := 9) (st := [.int x3, .int x1, .int x0, .ref s, .ref 27]) (rest := []) (b := 27) (vs := [.ref s, .int x0, .int x1, .int x3]) (h := (mz_S0, m)) rfl rfl (Nat.le_of_ble_eq_true rfl) (Nat.le_of_ble_eq_true rfl) tg_27 (by decide)) (mz_dc_lt (n := 5) rfl (by decide +kernel) (by decide +kernel)) (by decide +kernel) (Or.inl (by decide +kernel)) (fun v3 m2 => ?_)
    exact q_retI (mz_fe (e := (24, .ireturn, 1, (0, 0, 0), [])) (by decide +kernel)) (by decide +kernel)
  · refine q_o (mz_fe (e := (6, .iload 4, 2, (0, 0, 0), [])) (by decide +kernel)) (pc2 := 8) rfl ?_
    refine q_o (mz_fe (e := (8, .iload_n 3, 1, (0, 0, 0), [])) (by decide +kernel)) (pc2 := 9) rfl ?_
    refine q_if (c := .ne) (off := 16) (t := 25) (x := x2) (y := x1) (st := []) (mz_fe (e := (9, .if_icmp .ne 16, 3, (0, 0, 0), [])) (by decide +kernel)) (fun _ => rfl) rfl rfl rfl (fun c5 => ?_) (fun c5 => ?_)
    · refine q_o (mz_fe (e := (25, .aload_n 1, 1, (0, 0, 0), [])) (by decide +kernel)) (pc2 := 26) rfl ?_
      refine q_o (mz_fe (e := (26, .iload 4, 2, (0, 0, 0), [])) (by decide +kernel)) (pc2 := 28) rfl ?_
      refine q_o (mz_fe (e := (28, .iload 5, 2, (0, 0, 0), [])) (by decide +kernel)) (pc2 := 30) rfl ?_
      refine q_callI (N := 72) (vs := [.ref s, .int x2, .int x3]) (rest := []) (L' := [some (.ref 222), some (.ref s), some (.int x0), some (.int x1), some (.int x2), some (.int x3)]) (f := fun v7 m6 => some (v7, m6)) rfl (mz_fe (e := (30, .invokevirtual 56, 93, (72, 3, 12), [])) (by decide +kernel)) rfl (mz_inv_virt (N := 72) (k := 3) (t := 12) (st := [.int x3, .int x2, .ref s]) (rest := []) (b := s) (vs := [.int x2, .int x3]) (h := (mz_S0, m)) rfl rfl (Nat.le_of_ble_eq_true rfl) (Nat.le_of_ble_eq_true rfl) (st_t hs) (by decide)) (mz_dc_lt (n := 3) rfl (by decide +kernel) (by decide +kernel)) (by decide +kernel) (Or.inl (by decide +kernel)) (fun v7 m6 => ?_)
      exact q_retI (mz_fe (e := (33, .ireturn, 1, (0, 0, 0), [])) (by decide +kernel)) (by decide +kernel)
    · refine q_o (mz_fe (e := (12, .aload_n 0, 1, (0, 0, 0), [])) (by decide +kernel)) (pc2 := 13) rfl ?_
      refine q_getR (b := 27) (mz_fe (e := (13, .getfield 29, 87, (10, 1, 2), [])) (by decide +kernel)) rfl tg_222 (by rw [ln_222]; decide) (mz_rfS (by decide +kernel)) ?_
      refine q_o (mz_fe (e := (16, .aload_n 1, 1, (0, 0, 0), [])) (by decide +kernel)) (pc2 := 17) rfl ?_
      refine q_o (mz_fe (e := (17, .iload_n 2, 1, (0, 0, 0), [])) (by decide +kernel)) (pc2 := 18) rfl ?_
      refine q_o (mz_fe (e := (18, .iload_n 3, 1, (0, 0, 0), [])) (by decide +kernel)) (pc2 := 19) rfl ?_
      refine q_o (mz_fe (e := (19, .iload 5, 2, (0, 0, 0), [])) (by decide +kernel)) (pc2 := 21) rfl ?_
      refine q_callI (N := 32) (vs := [.ref 27, .ref s, .int x0, .int x1, .int x3]) (rest := []) (L' := [some (.ref 222), some (.ref s), some (.int x0), some (.int x1), some (.int x2), some (.int x3)]) (f := fun v10 m9 => some (v10, m9)) rfl (mz_fe (e := (21, .invokevirtual 50, 92, (32, 5, 9), [])) (by decide +kernel)) rfl (mz_inv_virt (N := 32) (k := 5) (t := 9) (st := [.int x3, .int x1, .int x0, .ref s, .ref 27]) (rest := []) (b := 27) (vs := [.ref s, .int x0, .int x1, .int x3]) (h := (mz_S0, m)) rfl rfl (Nat.le_of_ble_eq_true rfl) (Nat.le_of_ble_eq_true rfl) tg_27 (by decide)) (mz_dc_lt (n := 5) rfl (by decide +kernel) (by decide +kernel)) (by decide +kernel) (Or.inl (by decide +kernel)) (fun v10 m9 => ?_)
      exact q_retI (mz_fe (e := (24, .ireturn, 1, (0, 0, 0), [])) (by decide +kernel)) (by decide +kernel)
set_option maxRecDepth 10000 in
theorem R_X10_pairOf_eq (d : Nat) (x0 : Int32) (x1 : Int32) (m : MzM)  : R_X10_pairOf d x0 x1 m = H_X10_pairOf_8 d x0 x1 0 0 0 m := by
  show mz_cI (mz_T d 112 0 (mz_en (mz_xl 112) [.ref 222, .int x0, .int x1]) [] m) = _
  rw [show mz_en (mz_xl 112) [.ref 222, .int x0, .int x1] = [some (.ref 222), some (.int x0), some (.int x1), none, none, none, none] from by rw [show mz_xl 112 = 7 from by decide +kernel]; rfl]
  refine q_ic (v := 0) (mz_fe (e := (0, .iconst 0, 1, (0, 0, 0), [])) (by decide +kernel)) (by decide) ?_
  refine q_s (mz_fe (e := (1, .istore_n 3, 1, (0, 0, 0), [])) (by decide +kernel)) (pc' := 2) (L' := [some (.ref 222), some (.int x0), some (.int x1), some (.int 0), none, none, none]) (st' := []) rfl ?_
  refine q_ic (v := 0) (mz_fe (e := (2, .iconst 0, 1, (0, 0, 0), [])) (by decide +kernel)) (by decide) ?_
  refine q_s (mz_fe (e := (3, .istore 4, 2, (0, 0, 0), [])) (by decide +kernel)) (pc' := 5) (L' := [some (.ref 222), some (.int x0), some (.int x1), some (.int 0), some (.int 0), none, none]) (st' := []) rfl ?_
  refine q_ic (v := 0) (mz_fe (e := (5, .iconst 0, 1, (0, 0, 0), [])) (by decide +kernel)) (by decide) ?_
  refine q_s (mz_fe (e := (6, .istore 5, 2, (0, 0, 0), [])) (by decide +kernel)) (pc' := 8) (L' := [some (.ref 222), some (.int x0), some (.int x1), some (.int 0), some (.int 0), some (.int 0), none]) (st' := []) rfl ?_
  exact congrArg mz_cI (mz_At_msk (L := [some (.ref 222), some (.int x0), some (.int x1), some (.int 0), some (.int 0), some (.int 0), none]) (L2 := [some (.ref 222), some (.int x0), some (.int x1), some (.int 0), some (.int 0), some (.int 0), none]) (mz_fe (e := (8, .iload 5, 2, (0, 0, 0), [true, true, true, true, true, true, false])) (by decide +kernel)) rfl rfl)
set_option maxRecDepth 10000 in
theorem H_X10_pairOf_8_eq (d : Nat) (y1 : Int32) (y2 : Int32) (y3 : Int32) (y4 : Int32) (y5 : Int32) (m : MzM)  : H_X10_pairOf_8 d y1 y2 y3 y4 y5 m = if (mz_rd m 4 4) ≤ y5 then (some ((-1), m)) else (H_X10_pairOf_26 d y1 y2 y3 y4 y5 (y5 + 1) m) := by
  show mz_cI (mz_T d 112 8 [some (.ref 222), some (.int y1), some (.int y2), some (.int y3), some (.int y4), some (.int y5), none] [] m) = _
  refine q_s (mz_fe (e := (8, .iload 5, 2, (0, 0, 0), [true, true, true, true, true, true, false])) (by decide +kernel)) (pc' := 10) (L' := [some (.ref 222), some (.int y1), some (.int y2), some (.int y3), some (.int y4), some (.int y5), none]) (st' := [.int y5]) rfl ?_
  refine q_o (mz_fe (e := (10, .aload_n 0, 1, (0, 0, 0), [])) (by decide +kernel)) (pc2 := 11) rfl ?_
  refine q_getR (b := 4) (mz_fe (e := (11, .getfield 25, 86, (10, 0, 2), [])) (by decide +kernel)) rfl tg_222 (by rw [ln_222]; decide) (mz_rfS (by decide +kernel)) ?_
  refine q_getI (mz_fe (e := (14, .getfield 37, 89, (8, 4, 0), [])) (by decide +kernel)) rfl (by decide) tg_4 (by rw [ln_4]; decide) ?_
  refine q_if (c := .ge) (off := 62) (t := 79) (x := y5) (y := (mz_rd m 4 4)) (st := []) (mz_fe (e := (17, .if_icmp .ge 62, 3, (0, 0, 0), [])) (by decide +kernel)) (fun _ => rfl) rfl rfl rfl (fun c1 => ?_) (fun c1 => ?_)
  · refine q_ic (v := (-1)) (mz_fe (e := (79, .iconst (-1), 1, (0, 0, 0), [])) (by decide +kernel)) (by decide) ?_
    exact q_retI (mz_fe (e := (80, .ireturn, 1, (0, 0, 0), [])) (by decide +kernel)) (by decide +kernel)
  · refine q_o (mz_fe (e := (20, .iload 5, 2, (0, 0, 0), [])) (by decide +kernel)) (pc2 := 22) rfl ?_
    refine q_ic (v := 1) (mz_fe (e := (22, .iconst 1, 1, (0, 0, 0), [])) (by decide +kernel)) (by decide) ?_
    refine q_o (mz_fe (e := (23, .iadd, 1, (0, 0, 0), [])) (by decide +kernel)) (pc2 := 24) rfl ?_
    refine q_s (mz_fe (e := (24, .istore 6, 2, (0, 0, 0), [])) (by decide +kernel)) (pc' := 26) (L' := [some (.ref 222), some (.int y1), some (.int y2), some (.int y3), some (.int y4), some (.int y5), some (.int (y5 + 1))]) (st' := []) rfl ?_
    exact congrArg mz_cI (mz_At_msk (L := [some (.ref 222), some (.int y1), some (.int y2), some (.int y3), some (.int y4), some (.int y5), some (.int (y5 + 1))]) (L2 := [some (.ref 222), some (.int y1), some (.int y2), some (.int y3), some (.int y4), some (.int y5), some (.int (y5 + 1))]) (mz_fe (e := (26, .iload 6, 2, (0, 0, 0), [true, true, true, true, true, true, true])) (by decide +kernel)) rfl rfl)
set_option maxRecDepth 10000 in
theorem H_X10_pairOf_26_eq (d : Nat) (y1 : Int32) (y2 : Int32) (y3 : Int32) (y4 : Int32) (y5 : Int32) (y6 : Int32) (m : MzM)  : H_X10_pairOf_26 d y1 y2 y3 y4 y5 y6 m = if (mz_rd m 4 4) ≤ y6 then (H_X10_pairOf_8 d y1 y2 y3 y4 (y5 + 1) m) else (if ((y1 >>> (y3 &&& 31)) &&& 1) = 0 then (H_X10_pairOf_26 d y1 y2 (y3 + 1) y4 y5 (y6 + 1) m) else (if ¬ y4 = y2 then (H_X10_pairOf_26 d y1 y2 (y3 + 1) (y4 + 1) y5 (y6 + 1) m) else (some ((((10 : Int32) * y5) + y6), m)))) := by
  show mz_cI (mz_T d 112 26 [some (.ref 222), some (.int y1), some (.int y2), some (.int y3), some (.int y4), some (.int y5), some (.int y6)] [] m) = _
  refine q_s (mz_fe (e := (26, .iload 6, 2, (0, 0, 0), [true, true, true, true, true, true, true])) (by decide +kernel)) (pc' := 28) (L' := [some (.ref 222), some (.int y1), some (.int y2), some (.int y3), some (.int y4), some (.int y5), some (.int y6)]) (st' := [.int y6]) rfl ?_
  refine q_o (mz_fe (e := (28, .aload_n 0, 1, (0, 0, 0), [])) (by decide +kernel)) (pc2 := 29) rfl ?_
  refine q_getR (b := 4) (mz_fe (e := (29, .getfield 25, 86, (10, 0, 2), [])) (by decide +kernel)) rfl tg_222 (by rw [ln_222]; decide) (mz_rfS (by decide +kernel)) ?_
  refine q_getI (mz_fe (e := (32, .getfield 37, 89, (8, 4, 0), [])) (by decide +kernel)) rfl (by decide) tg_4 (by rw [ln_4]; decide) ?_
  refine q_if (c := .ge) (off := 38) (t := 73) (x := y6) (y := (mz_rd m 4 4)) (st := []) (mz_fe (e := (35, .if_icmp .ge 38, 3, (0, 0, 0), [])) (by decide +kernel)) (fun _ => rfl) rfl rfl rfl (fun c2 => ?_) (fun c2 => ?_)
  · refine q_iinc (v := y5) (c := 1) (L3 := [some (.ref 222), some (.int y1), some (.int y2), some (.int y3), some (.int y4), some (.int (y5 + 1)), some (.int y6)]) (mz_fe (e := (73, .iinc 5 1, 3, (0, 0, 0), [])) (by decide +kernel)) rfl rfl (by decide) rfl ?_
    refine q_o (mz_fe (e := (76, .goto (-68), 3, (0, 0, 0), [])) (by decide +kernel)) (pc2 := 8) rfl ?_
    exact congrArg mz_cI (mz_At_msk (L := [some (.ref 222), some (.int y1), some (.int y2), some (.int y3), some (.int y4), some (.int (y5 + 1)), some (.int y6)]) (L2 := [some (.ref 222), some (.int y1), some (.int y2), some (.int y3), some (.int y4), some (.int (y5 + 1)), none]) (mz_fe (e := (8, .iload 5, 2, (0, 0, 0), [true, true, true, true, true, true, false])) (by decide +kernel)) rfl rfl)
  · refine q_o (mz_fe (e := (38, .iload_n 1, 1, (0, 0, 0), [])) (by decide +kernel)) (pc2 := 39) rfl ?_
    refine q_o (mz_fe (e := (39, .iload_n 3, 1, (0, 0, 0), [])) (by decide +kernel)) (pc2 := 40) rfl ?_
    refine q_o (mz_fe (e := (40, .ishr, 1, (0, 0, 0), [])) (by decide +kernel)) (pc2 := 41) rfl ?_
    refine q_ic (v := 1) (mz_fe (e := (41, .iconst 1, 1, (0, 0, 0), [])) (by decide +kernel)) (by decide) ?_
    refine q_o (mz_fe (e := (42, .iand, 1, (0, 0, 0), [])) (by decide +kernel)) (pc2 := 43) rfl ?_
    refine q_if (c := .eq) (off := 21) (t := 64) (x := ((y1 >>> (y3 &&& 31)) &&& 1)) (y := 0) (st := []) (mz_fe (e := (43, .ifCond .eq 21, 3, (0, 0, 0), [])) (by decide +kernel)) (fun _ => rfl) rfl rfl rfl (fun c3 => ?_) (fun c3 => ?_)
    · refine q_iinc (v := y3) (c := 1) (L3 := [some (.ref 222), some (.int y1), some (.int y2), some (.int (y3 + 1)), some (.int y4), some (.int y5), some (.int y6)]) (mz_fe (e := (64, .iinc 3 1, 3, (0, 0, 0), [])) (by decide +kernel)) rfl rfl (by decide) rfl ?_
      refine q_iinc (v := y6) (c := 1) (L3 := [some (.ref 222), some (.int y1), some (.int y2), some (.int (y3 + 1)), some (.int y4), some (.int y5), some (.int (y6 + 1))]) (mz_fe (e := (67, .iinc 6 1, 3, (0, 0, 0), [])) (by decide +kernel)) rfl rfl (by decide) rfl ?_
      refine q_o (mz_fe (e := (70, .goto (-44), 3, (0, 0, 0), [])) (by decide +kernel)) (pc2 := 26) rfl ?_
      exact congrArg mz_cI (mz_At_msk (L := [some (.ref 222), some (.int y1), some (.int y2), some (.int (y3 + 1)), some (.int y4), some (.int y5), some (.int (y6 + 1))]) (L2 := [some (.ref 222), some (.int y1), some (.int y2), some (.int (y3 + 1)), some (.int y4), some (.int y5), some (.int (y6 + 1))]) (mz_fe (e := (26, .iload 6, 2, (0, 0, 0), [true, true, true, true, true, true, true])) (by decide +kernel)) rfl rfl)
    · refine q_o (mz_fe (e := (46, .iload 4, 2, (0, 0, 0), [])) (by decide +kernel)) (pc2 := 48) rfl ?_
      refine q_o (mz_fe (e := (48, .iload_n 2, 1, (0, 0, 0), [])) (by decide +kernel)) (pc2 := 49) rfl ?_
      refine q_if (c := .ne) (off := 12) (t := 61) (x := y4) (y := y2) (st := []) (mz_fe (e := (49, .if_icmp .ne 12, 3, (0, 0, 0), [])) (by decide +kernel)) (fun _ => rfl) rfl rfl rfl (fun c4 => ?_) (fun c4 => ?_)
      · refine q_iinc (v := y4) (c := 1) (L3 := [some (.ref 222), some (.int y1), some (.int y2), some (.int y3), some (.int (y4 + 1)), some (.int y5), some (.int y6)]) (mz_fe (e := (61, .iinc 4 1, 3, (0, 0, 0), [])) (by decide +kernel)) rfl rfl (by decide) rfl ?_
        refine q_iinc (v := y3) (c := 1) (L3 := [some (.ref 222), some (.int y1), some (.int y2), some (.int (y3 + 1)), some (.int (y4 + 1)), some (.int y5), some (.int y6)]) (mz_fe (e := (64, .iinc 3 1, 3, (0, 0, 0), [])) (by decide +kernel)) rfl rfl (by decide) rfl ?_
        refine q_iinc (v := y6) (c := 1) (L3 := [some (.ref 222), some (.int y1), some (.int y2), some (.int (y3 + 1)), some (.int (y4 + 1)), some (.int y5), some (.int (y6 + 1))]) (mz_fe (e := (67, .iinc 6 1, 3, (0, 0, 0), [])) (by decide +kernel)) rfl rfl (by decide) rfl ?_
        refine q_o (mz_fe (e := (70, .goto (-44), 3, (0, 0, 0), [])) (by decide +kernel)) (pc2 := 26) rfl ?_
        exact congrArg mz_cI (mz_At_msk (L := [some (.ref 222), some (.int y1), some (.int y2), some (.int (y3 + 1)), some (.int (y4 + 1)), some (.int y5), some (.int (y6 + 1))]) (L2 := [some (.ref 222), some (.int y1), some (.int y2), some (.int (y3 + 1)), some (.int (y4 + 1)), some (.int y5), some (.int (y6 + 1))]) (mz_fe (e := (26, .iload 6, 2, (0, 0, 0), [true, true, true, true, true, true, true])) (by decide +kernel)) rfl rfl)
      · refine q_bi (v := 10) (mz_fe (e := (52, .bipush 10, 2, (0, 0, 0), [])) (by decide +kernel)) (by decide) ?_
        refine q_o (mz_fe (e := (54, .iload 5, 2, (0, 0, 0), [])) (by decide +kernel)) (pc2 := 56) rfl ?_
        refine q_o (mz_fe (e := (56, .imul, 1, (0, 0, 0), [])) (by decide +kernel)) (pc2 := 57) rfl ?_
        refine q_o (mz_fe (e := (57, .iload 6, 2, (0, 0, 0), [])) (by decide +kernel)) (pc2 := 59) rfl ?_
        refine q_o (mz_fe (e := (59, .iadd, 1, (0, 0, 0), [])) (by decide +kernel)) (pc2 := 60) rfl ?_
        exact q_retI (mz_fe (e := (60, .ireturn, 1, (0, 0, 0), [])) (by decide +kernel)) (by decide +kernel)
set_option maxRecDepth 10000 in
theorem R_X10_bestQuestion_eq (d : Nat) (s : Nat) (x0 : Int32) (x1 : Int32) (m : MzM) (hs : mz_isS s = true) : R_X10_bestQuestion d s x0 x1 m = H_X10_bestQuestion_11 d s x0 x1 (-2) (-2) 0 m := by
  show mz_cI (mz_T d 113 0 (mz_en (mz_xl 113) [.ref 222, .ref s, .int x0, .int x1]) [] m) = _
  rw [show mz_en (mz_xl 113) [.ref 222, .ref s, .int x0, .int x1] = [some (.ref 222), some (.ref s), some (.int x0), some (.int x1), none, none, none, none, none, none] from by rw [show mz_xl 113 = 10 from by decide +kernel]; rfl]
  refine q_bi (v := (-2)) (mz_fe (e := (0, .bipush (-2), 2, (0, 0, 0), [])) (by decide +kernel)) (by decide) ?_
  refine q_s (mz_fe (e := (2, .istore 4, 2, (0, 0, 0), [])) (by decide +kernel)) (pc' := 4) (L' := [some (.ref 222), some (.ref s), some (.int x0), some (.int x1), some (.int (-2)), none, none, none, none, none]) (st' := []) rfl ?_
  refine q_bi (v := (-2)) (mz_fe (e := (4, .bipush (-2), 2, (0, 0, 0), [])) (by decide +kernel)) (by decide) ?_
  refine q_s (mz_fe (e := (6, .istore 5, 2, (0, 0, 0), [])) (by decide +kernel)) (pc' := 8) (L' := [some (.ref 222), some (.ref s), some (.int x0), some (.int x1), some (.int (-2)), some (.int (-2)), none, none, none, none]) (st' := []) rfl ?_
  refine q_ic (v := 0) (mz_fe (e := (8, .iconst 0, 1, (0, 0, 0), [])) (by decide +kernel)) (by decide) ?_
  refine q_s (mz_fe (e := (9, .istore 6, 2, (0, 0, 0), [])) (by decide +kernel)) (pc' := 11) (L' := [some (.ref 222), some (.ref s), some (.int x0), some (.int x1), some (.int (-2)), some (.int (-2)), some (.int 0), none, none, none]) (st' := []) rfl ?_
  exact congrArg mz_cI (mz_At_msk (L := [some (.ref 222), some (.ref s), some (.int x0), some (.int x1), some (.int (-2)), some (.int (-2)), some (.int 0), none, none, none]) (L2 := [some (.ref 222), some (.ref s), some (.int x0), some (.int x1), some (.int (-2)), some (.int (-2)), some (.int 0), none, none, none]) (mz_fe (e := (11, .iload 6, 2, (0, 0, 0), [true, true, true, true, true, true, true, false, false, false])) (by decide +kernel)) rfl rfl)
set_option maxRecDepth 10000 in
theorem H_X10_bestQuestion_11_eq (d : Nat) (a1 : Nat) (y2 : Int32) (y3 : Int32) (y4 : Int32) (y5 : Int32) (y6 : Int32) (m : MzM) (ha1 : mz_isS a1 = true) : H_X10_bestQuestion_11 d a1 y2 y3 y4 y5 y6 m = if (mz_rd m 4 4) ≤ y6 then (some (y4, m)) else (H_X10_bestQuestion_26 d a1 y2 y3 y4 y5 y6 0 m) := by
  show mz_cI (mz_T d 113 11 [some (.ref 222), some (.ref a1), some (.int y2), some (.int y3), some (.int y4), some (.int y5), some (.int y6), none, none, none] [] m) = _
  refine q_s (mz_fe (e := (11, .iload 6, 2, (0, 0, 0), [true, true, true, true, true, true, true, false, false, false])) (by decide +kernel)) (pc' := 13) (L' := [some (.ref 222), some (.ref a1), some (.int y2), some (.int y3), some (.int y4), some (.int y5), some (.int y6), none, none, none]) (st' := [.int y6]) rfl ?_
  refine q_o (mz_fe (e := (13, .aload_n 0, 1, (0, 0, 0), [])) (by decide +kernel)) (pc2 := 14) rfl ?_
  refine q_getR (b := 4) (mz_fe (e := (14, .getfield 25, 86, (10, 0, 2), [])) (by decide +kernel)) rfl tg_222 (by rw [ln_222]; decide) (mz_rfS (by decide +kernel)) ?_
  refine q_getI (mz_fe (e := (17, .getfield 37, 89, (8, 4, 0), [])) (by decide +kernel)) rfl (by decide) tg_4 (by rw [ln_4]; decide) ?_
  refine q_if (c := .ge) (off := 79) (t := 99) (x := y6) (y := (mz_rd m 4 4)) (st := []) (mz_fe (e := (20, .if_icmp .ge 79, 3, (0, 0, 0), [])) (by decide +kernel)) (fun _ => rfl) rfl rfl rfl (fun c1 => ?_) (fun c1 => ?_)
  · refine q_o (mz_fe (e := (99, .iload 4, 2, (0, 0, 0), [])) (by decide +kernel)) (pc2 := 101) rfl ?_
    exact q_retI (mz_fe (e := (101, .ireturn, 1, (0, 0, 0), [])) (by decide +kernel)) (by decide +kernel)
  · refine q_ic (v := 0) (mz_fe (e := (23, .iconst 0, 1, (0, 0, 0), [])) (by decide +kernel)) (by decide) ?_
    refine q_s (mz_fe (e := (24, .istore 7, 2, (0, 0, 0), [])) (by decide +kernel)) (pc' := 26) (L' := [some (.ref 222), some (.ref a1), some (.int y2), some (.int y3), some (.int y4), some (.int y5), some (.int y6), some (.int 0), none, none]) (st' := []) rfl ?_
    exact congrArg mz_cI (mz_At_msk (L := [some (.ref 222), some (.ref a1), some (.int y2), some (.int y3), some (.int y4), some (.int y5), some (.int y6), some (.int 0), none, none]) (L2 := [some (.ref 222), some (.ref a1), some (.int y2), some (.int y3), some (.int y4), some (.int y5), some (.int y6), some (.int 0), none, none]) (mz_fe (e := (26, .iload 7, 2, (0, 0, 0), [true, true, true, true, true, true, true, true, false, false])) (by decide +kernel)) rfl rfl)
set_option maxRecDepth 10000 in
theorem H_X10_bestQuestion_26_eq (d : Nat) (a1 : Nat) (y2 : Int32) (y3 : Int32) (y4 : Int32) (y5 : Int32) (y6 : Int32) (y7 : Int32) (m : MzM) (ha1 : mz_isS a1 = true) : H_X10_bestQuestion_26 d a1 y2 y3 y4 y5 y6 y7 m = if (4 : Int32) ≤ y7 then (H_X10_bestQuestion_11 d a1 y2 y3 y4 y5 (y6 + 1) m) else ((R_X10_pairsWithSo d a1 y2 y6 y7 y3 m).bind (fun u5 => (R_J6_bitCount_0f7a4 d y2 u5.2).bind (fun u8 => if y4 = (-2) then (H_X10_bestQuestion_26 d a1 y2 y3 (((10 : Int32) * y6) + y7) (if u5.1 < (u8.1 - u5.1) then (u8.1 - u5.1) else u5.1) y6 (y7 + 1) u8.2) else (if y5 ≤ (if u5.1 < (u8.1 - u5.1) then (u8.1 - u5.1) else u5.1) then (H_X10_bestQuestion_26 d a1 y2 y3 y4 y5 y6 (y7 + 1) u8.2) else (H_X10_bestQuestion_26 d a1 y2 y3 (((10 : Int32) * y6) + y7) (if u5.1 < (u8.1 - u5.1) then (u8.1 - u5.1) else u5.1) y6 (y7 + 1) u8.2))))) := by
  show mz_cI (mz_T d 113 26 [some (.ref 222), some (.ref a1), some (.int y2), some (.int y3), some (.int y4), some (.int y5), some (.int y6), some (.int y7), none, none] [] m) = _
  refine q_s (mz_fe (e := (26, .iload 7, 2, (0, 0, 0), [true, true, true, true, true, true, true, true, false, false])) (by decide +kernel)) (pc' := 28) (L' := [some (.ref 222), some (.ref a1), some (.int y2), some (.int y3), some (.int y4), some (.int y5), some (.int y6), some (.int y7), none, none]) (st' := [.int y7]) rfl ?_
  refine q_ic (v := 4) (mz_fe (e := (28, .iconst 4, 1, (0, 0, 0), [])) (by decide +kernel)) (by decide) ?_
  refine q_if (c := .ge) (off := 64) (t := 93) (x := y7) (y := 4) (st := []) (mz_fe (e := (29, .if_icmp .ge 64, 3, (0, 0, 0), [])) (by decide +kernel)) (fun _ => rfl) rfl rfl rfl (fun c2 => ?_) (fun c2 => ?_)
  · refine q_iinc (v := y6) (c := 1) (L3 := [some (.ref 222), some (.ref a1), some (.int y2), some (.int y3), some (.int y4), some (.int y5), some (.int (y6 + 1)), some (.int y7), none, none]) (mz_fe (e := (93, .iinc 6 1, 3, (0, 0, 0), [])) (by decide +kernel)) rfl rfl (by decide) rfl ?_
    refine q_o (mz_fe (e := (96, .goto (-85), 3, (0, 0, 0), [])) (by decide +kernel)) (pc2 := 11) rfl ?_
    exact congrArg mz_cI (mz_At_msk (L := [some (.ref 222), some (.ref a1), some (.int y2), some (.int y3), some (.int y4), some (.int y5), some (.int (y6 + 1)), some (.int y7), none, none]) (L2 := [some (.ref 222), some (.ref a1), some (.int y2), some (.int y3), some (.int y4), some (.int y5), some (.int (y6 + 1)), none, none, none]) (mz_fe (e := (11, .iload 6, 2, (0, 0, 0), [true, true, true, true, true, true, true, false, false, false])) (by decide +kernel)) rfl rfl)
  · refine q_o (mz_fe (e := (32, .aload_n 0, 1, (0, 0, 0), [])) (by decide +kernel)) (pc2 := 33) rfl ?_
    refine q_o (mz_fe (e := (33, .aload_n 1, 1, (0, 0, 0), [])) (by decide +kernel)) (pc2 := 34) rfl ?_
    refine q_o (mz_fe (e := (34, .iload_n 2, 1, (0, 0, 0), [])) (by decide +kernel)) (pc2 := 35) rfl ?_
    refine q_o (mz_fe (e := (35, .iload 6, 2, (0, 0, 0), [])) (by decide +kernel)) (pc2 := 37) rfl ?_
    refine q_o (mz_fe (e := (37, .iload 7, 2, (0, 0, 0), [])) (by decide +kernel)) (pc2 := 39) rfl ?_
    refine q_o (mz_fe (e := (39, .iload_n 3, 1, (0, 0, 0), [])) (by decide +kernel)) (pc2 := 40) rfl ?_
    refine q_callI (N := 114) (vs := [.ref 222, .ref a1, .int y2, .int y6, .int y7, .int y3]) (rest := []) (L' := [some (.ref 222), some (.ref a1), some (.int y2), some (.int y3), some (.int y4), some (.int y5), some (.int y6), some (.int y7), none, none]) (f := fun v4 m3 => (R_J6_bitCount_0f7a4 d y2 m3).bind (fun u8 => if y4 = (-2) then (H_X10_bestQuestion_26 d a1 y2 y3 (((10 : Int32) * y6) + y7) (if v4 < (u8.1 - v4) then (u8.1 - v4) else v4) y6 (y7 + 1) u8.2) else (if y5 ≤ (if v4 < (u8.1 - v4) then (u8.1 - v4) else v4) then (H_X10_bestQuestion_26 d a1 y2 y3 y4 y5 y6 (y7 + 1) u8.2) else (H_X10_bestQuestion_26 d a1 y2 y3 (((10 : Int32) * y6) + y7) (if v4 < (u8.1 - v4) then (u8.1 - v4) else v4) y6 (y7 + 1) u8.2)))) rfl (mz_fe (e := (40, .invokevirtual 62, 94, (114, 6, 16), [])) (by decide +kernel)) rfl (mz_inv_virt (N := 114) (k := 6) (t := 16) (st := [.int y3, .int y7, .int y6, .int y2, .ref a1, .ref 222]) (rest := []) (b := 222) (vs := [.ref a1, .int y2, .int y6, .int y7, .int y3]) (h := (mz_S0, m)) rfl rfl (Nat.le_of_ble_eq_true rfl) (Nat.le_of_ble_eq_true rfl) tg_222 (by decide)) (mz_dc_lt (n := 6) rfl (by decide +kernel) (by decide +kernel)) (by decide +kernel) (Or.inl (by decide +kernel)) (fun v4 m3 => ?_)
    refine q_s (mz_fe (e := (43, .istore 8, 2, (0, 0, 0), [])) (by decide +kernel)) (pc' := 45) (L' := [some (.ref 222), some (.ref a1), some (.int y2), some (.int y3), some (.int y4), some (.int y5), some (.int y6), some (.int y7), some (.int v4), none]) (st' := []) rfl ?_
    refine q_o (mz_fe (e := (45, .iload 8, 2, (0, 0, 0), [])) (by decide +kernel)) (pc2 := 47) rfl ?_
    refine q_o (mz_fe (e := (47, .iload_n 2, 1, (0, 0, 0), [])) (by decide +kernel)) (pc2 := 48) rfl ?_
    refine q_callI (N := 290) (vs := [.int y2]) (rest := [.int v4]) (L' := [some (.ref 222), some (.ref a1), some (.int y2), some (.int y3), some (.int y4), some (.int y5), some (.int y6), some (.int y7), some (.int v4), none]) (f := fun v7 m6 => if y4 = (-2) then (H_X10_bestQuestion_26 d a1 y2 y3 (((10 : Int32) * y6) + y7) (if v4 < (v7 - v4) then (v7 - v4) else v4) y6 (y7 + 1) m6) else (if y5 ≤ (if v4 < (v7 - v4) then (v7 - v4) else v4) then (H_X10_bestQuestion_26 d a1 y2 y3 y4 y5 y6 (y7 + 1) m6) else (H_X10_bestQuestion_26 d a1 y2 y3 (((10 : Int32) * y6) + y7) (if v4 < (v7 - v4) then (v7 - v4) else v4) y6 (y7 + 1) m6))) rfl (mz_fe (e := (48, .invokestatic 65, 95, (290, 1, 1000), [])) (by decide +kernel)) rfl (mz_inv_stat (N := 290) (k := 1) (st := [.int y2, .int v4]) (rest := [.int v4]) (vs := [.int y2]) (h := (mz_S0, m3)) rfl rfl (Nat.le_of_ble_eq_true rfl) (Nat.le_of_ble_eq_true rfl)) (mz_dc_lt (n := 1) rfl (by decide +kernel) (by decide +kernel)) (by decide +kernel) (Or.inl (by decide +kernel)) (fun v7 m6 => ?_)
    refine q_o (mz_fe (e := (51, .iload 8, 2, (0, 0, 0), [])) (by decide +kernel)) (pc2 := 53) rfl ?_
    refine q_o (mz_fe (e := (53, .isub, 1, (0, 0, 0), [])) (by decide +kernel)) (pc2 := 54) rfl ?_
    refine q_max (mz_fe (e := (54, .invokestatic 71, 22, (9997, 0, 0), [])) (by decide +kernel)) rfl (Nat.le_of_ble_eq_true rfl) ?_
    refine q_s (mz_fe (e := (57, .istore 9, 2, (0, 0, 0), [])) (by decide +kernel)) (pc' := 59) (L' := [some (.ref 222), some (.ref a1), some (.int y2), some (.int y3), some (.int y4), some (.int y5), some (.int y6), some (.int y7), some (.int v4), some (.int (if v4 < (v7 - v4) then (v7 - v4) else v4))]) (st' := []) rfl ?_
    refine q_o (mz_fe (e := (59, .iload 4, 2, (0, 0, 0), [])) (by decide +kernel)) (pc2 := 61) rfl ?_
    refine q_bi (v := (-2)) (mz_fe (e := (61, .bipush (-2), 2, (0, 0, 0), [])) (by decide +kernel)) (by decide) ?_
    refine q_if (c := .eq) (off := 10) (t := 73) (x := y4) (y := (-2)) (st := []) (mz_fe (e := (63, .if_icmp .eq 10, 3, (0, 0, 0), [])) (by decide +kernel)) (fun _ => rfl) rfl rfl rfl (fun c9 => ?_) (fun c9 => ?_)
    · refine q_bi (v := 10) (mz_fe (e := (73, .bipush 10, 2, (0, 0, 0), [])) (by decide +kernel)) (by decide) ?_
      refine q_o (mz_fe (e := (75, .iload 6, 2, (0, 0, 0), [])) (by decide +kernel)) (pc2 := 77) rfl ?_
      refine q_o (mz_fe (e := (77, .imul, 1, (0, 0, 0), [])) (by decide +kernel)) (pc2 := 78) rfl ?_
      refine q_o (mz_fe (e := (78, .iload 7, 2, (0, 0, 0), [])) (by decide +kernel)) (pc2 := 80) rfl ?_
      refine q_o (mz_fe (e := (80, .iadd, 1, (0, 0, 0), [])) (by decide +kernel)) (pc2 := 81) rfl ?_
      refine q_s (mz_fe (e := (81, .istore 4, 2, (0, 0, 0), [])) (by decide +kernel)) (pc' := 83) (L' := [some (.ref 222), some (.ref a1), some (.int y2), some (.int y3), some (.int (((10 : Int32) * y6) + y7)), some (.int y5), some (.int y6), some (.int y7), some (.int v4), some (.int (if v4 < (v7 - v4) then (v7 - v4) else v4))]) (st' := []) rfl ?_
      refine q_o (mz_fe (e := (83, .iload 9, 2, (0, 0, 0), [])) (by decide +kernel)) (pc2 := 85) rfl ?_
      refine q_s (mz_fe (e := (85, .istore 5, 2, (0, 0, 0), [])) (by decide +kernel)) (pc' := 87) (L' := [some (.ref 222), some (.ref a1), some (.int y2), some (.int y3), some (.int (((10 : Int32) * y6) + y7)), some (.int (if v4 < (v7 - v4) then (v7 - v4) else v4)), some (.int y6), some (.int y7), some (.int v4), some (.int (if v4 < (v7 - v4) then (v7 - v4) else v4))]) (st' := []) rfl ?_
      refine q_iinc (v := y7) (c := 1) (L3 := [some (.ref 222), some (.ref a1), some (.int y2), some (.int y3), some (.int (((10 : Int32) * y6) + y7)), some (.int (if v4 < (v7 - v4) then (v7 - v4) else v4)), some (.int y6), some (.int (y7 + 1)), some (.int v4), some (.int (if v4 < (v7 - v4) then (v7 - v4) else v4))]) (mz_fe (e := (87, .iinc 7 1, 3, (0, 0, 0), [])) (by decide +kernel)) rfl rfl (by decide) rfl ?_
      refine q_o (mz_fe (e := (90, .goto (-64), 3, (0, 0, 0), [])) (by decide +kernel)) (pc2 := 26) rfl ?_
      exact congrArg mz_cI (mz_At_msk (L := [some (.ref 222), some (.ref a1), some (.int y2), some (.int y3), some (.int (((10 : Int32) * y6) + y7)), some (.int (if v4 < (v7 - v4) then (v7 - v4) else v4)), some (.int y6), some (.int (y7 + 1)), some (.int v4), some (.int (if v4 < (v7 - v4) then (v7 - v4) else v4))]) (L2 := [some (.ref 222), some (.ref a1), some (.int y2), some (.int y3), some (.int (((10 : Int32) * y6) + y7)), some (.int (if v4 < (v7 - v4) then (v7 - v4) else v4)), some (.int y6), some (.int (y7 + 1)), none, none]) (mz_fe (e := (26, .iload 7, 2, (0, 0, 0), [true, true, true, true, true, true, true, true, false, false])) (by decide +kernel)) rfl rfl)
    · refine q_o (mz_fe (e := (66, .iload 9, 2, (0, 0, 0), [])) (by decide +kernel)) (pc2 := 68) rfl ?_
      refine q_o (mz_fe (e := (68, .iload 5, 2, (0, 0, 0), [])) (by decide +kernel)) (pc2 := 70) rfl ?_
      refine q_if (c := .ge) (off := 17) (t := 87) (x := (if v4 < (v7 - v4) then (v7 - v4) else v4)) (y := y5) (st := []) (mz_fe (e := (70, .if_icmp .ge 17, 3, (0, 0, 0), [])) (by decide +kernel)) (fun _ => rfl) rfl rfl rfl (fun c10 => ?_) (fun c10 => ?_)
      · refine q_iinc (v := y7) (c := 1) (L3 := [some (.ref 222), some (.ref a1), some (.int y2), some (.int y3), some (.int y4), some (.int y5), some (.int y6), some (.int (y7 + 1)), some (.int v4), some (.int (if v4 < (v7 - v4) then (v7 - v4) else v4))]) (mz_fe (e := (87, .iinc 7 1, 3, (0, 0, 0), [])) (by decide +kernel)) rfl rfl (by decide) rfl ?_
        refine q_o (mz_fe (e := (90, .goto (-64), 3, (0, 0, 0), [])) (by decide +kernel)) (pc2 := 26) rfl ?_
        exact congrArg mz_cI (mz_At_msk (L := [some (.ref 222), some (.ref a1), some (.int y2), some (.int y3), some (.int y4), some (.int y5), some (.int y6), some (.int (y7 + 1)), some (.int v4), some (.int (if v4 < (v7 - v4) then (v7 - v4) else v4))]) (L2 := [some (.ref 222), some (.ref a1), some (.int y2), some (.int y3), some (.int y4), some (.int y5), some (.int y6), some (.int (y7 + 1)), none, none]) (mz_fe (e := (26, .iload 7, 2, (0, 0, 0), [true, true, true, true, true, true, true, true, false, false])) (by decide +kernel)) rfl rfl)
      · refine q_bi (v := 10) (mz_fe (e := (73, .bipush 10, 2, (0, 0, 0), [])) (by decide +kernel)) (by decide) ?_
        refine q_o (mz_fe (e := (75, .iload 6, 2, (0, 0, 0), [])) (by decide +kernel)) (pc2 := 77) rfl ?_
        refine q_o (mz_fe (e := (77, .imul, 1, (0, 0, 0), [])) (by decide +kernel)) (pc2 := 78) rfl ?_
        refine q_o (mz_fe (e := (78, .iload 7, 2, (0, 0, 0), [])) (by decide +kernel)) (pc2 := 80) rfl ?_
        refine q_o (mz_fe (e := (80, .iadd, 1, (0, 0, 0), [])) (by decide +kernel)) (pc2 := 81) rfl ?_
        refine q_s (mz_fe (e := (81, .istore 4, 2, (0, 0, 0), [])) (by decide +kernel)) (pc' := 83) (L' := [some (.ref 222), some (.ref a1), some (.int y2), some (.int y3), some (.int (((10 : Int32) * y6) + y7)), some (.int y5), some (.int y6), some (.int y7), some (.int v4), some (.int (if v4 < (v7 - v4) then (v7 - v4) else v4))]) (st' := []) rfl ?_
        refine q_o (mz_fe (e := (83, .iload 9, 2, (0, 0, 0), [])) (by decide +kernel)) (pc2 := 85) rfl ?_
        refine q_s (mz_fe (e := (85, .istore 5, 2, (0, 0, 0), [])) (by decide +kernel)) (pc' := 87) (L' := [some (.ref 222), some (.ref a1), some (.int y2), some (.int y3), some (.int (((10 : Int32) * y6) + y7)), some (.int (if v4 < (v7 - v4) then (v7 - v4) else v4)), some (.int y6), some (.int y7), some (.int v4), some (.int (if v4 < (v7 - v4) then (v7 - v4) else v4))]) (st' := []) rfl ?_
        refine q_iinc (v := y7) (c := 1) (L3 := [some (.ref 222), some (.ref a1), some (.int y2), some (.int y3), some (.int (((10 : Int32) * y6) + y7)), some (.int (if v4 < (v7 - v4) then (v7 - v4) else v4)), some (.int y6), some (.int (y7 + 1)), some (.int v4), some (.int (if v4 < (v7 - v4) then (v7 - v4) else v4))]) (mz_fe (e := (87, .iinc 7 1, 3, (0, 0, 0), [])) (by decide +kernel)) rfl rfl (by decide) rfl ?_
        refine q_o (mz_fe (e := (90, .goto (-64), 3, (0, 0, 0), [])) (by decide +kernel)) (pc2 := 26) rfl ?_
        exact congrArg mz_cI (mz_At_msk (L := [some (.ref 222), some (.ref a1), some (.int y2), some (.int y3), some (.int (((10 : Int32) * y6) + y7)), some (.int (if v4 < (v7 - v4) then (v7 - v4) else v4)), some (.int y6), some (.int (y7 + 1)), some (.int v4), some (.int (if v4 < (v7 - v4) then (v7 - v4) else v4))]) (L2 := [some (.ref 222), some (.ref a1), some (.int y2), some (.int y3), some (.int (((10 : Int32) * y6) + y7)), some (.int (if v4 < (v7 - v4) then (v7 - v4) else v4)), some (.int y6), some (.int (y7 + 1)), none, none]) (mz_fe (e := (26, .iload 7, 2, (0, 0, 0), [true, true, true, true, true, true, true, true, false, false])) (by decide +kernel)) rfl rfl)
set_option maxRecDepth 10000 in
theorem R_X10_pairsWithSo_eq (d : Nat) (s : Nat) (x0 : Int32) (x1 : Int32) (x2 : Int32) (x3 : Int32) (m : MzM) (hs : mz_isS s = true) : R_X10_pairsWithSo d s x0 x1 x2 x3 m = H_X10_pairsWithSo_9 d s x0 x1 x2 x3 0 0 0 m := by
  show mz_cI (mz_T d 114 0 (mz_en (mz_xl 114) [.ref 222, .ref s, .int x0, .int x1, .int x2, .int x3]) [] m) = _
  rw [show mz_en (mz_xl 114) [.ref 222, .ref s, .int x0, .int x1, .int x2, .int x3] = [some (.ref 222), some (.ref s), some (.int x0), some (.int x1), some (.int x2), some (.int x3), none, none, none, none, none] from by rw [show mz_xl 114 = 11 from by decide +kernel]; rfl]
  refine q_ic (v := 0) (mz_fe (e := (0, .iconst 0, 1, (0, 0, 0), [])) (by decide +kernel)) (by decide) ?_
  refine q_s (mz_fe (e := (1, .istore 6, 2, (0, 0, 0), [])) (by decide +kernel)) (pc' := 3) (L' := [some (.ref 222), some (.ref s), some (.int x0), some (.int x1), some (.int x2), some (.int x3), some (.int 0), none, none, none, none]) (st' := []) rfl ?_
  refine q_ic (v := 0) (mz_fe (e := (3, .iconst 0, 1, (0, 0, 0), [])) (by decide +kernel)) (by decide) ?_
  refine q_s (mz_fe (e := (4, .istore 7, 2, (0, 0, 0), [])) (by decide +kernel)) (pc' := 6) (L' := [some (.ref 222), some (.ref s), some (.int x0), some (.int x1), some (.int x2), some (.int x3), some (.int 0), some (.int 0), none, none, none]) (st' := []) rfl ?_
  refine q_ic (v := 0) (mz_fe (e := (6, .iconst 0, 1, (0, 0, 0), [])) (by decide +kernel)) (by decide) ?_
  refine q_s (mz_fe (e := (7, .istore 8, 2, (0, 0, 0), [])) (by decide +kernel)) (pc' := 9) (L' := [some (.ref 222), some (.ref s), some (.int x0), some (.int x1), some (.int x2), some (.int x3), some (.int 0), some (.int 0), some (.int 0), none, none]) (st' := []) rfl ?_
  exact congrArg mz_cI (mz_At_msk (L := [some (.ref 222), some (.ref s), some (.int x0), some (.int x1), some (.int x2), some (.int x3), some (.int 0), some (.int 0), some (.int 0), none, none]) (L2 := [some (.ref 222), some (.ref s), some (.int x0), some (.int x1), some (.int x2), some (.int x3), some (.int 0), some (.int 0), some (.int 0), none, none]) (mz_fe (e := (9, .iload 8, 2, (0, 0, 0), [true, true, true, true, true, true, true, true, true, false, false])) (by decide +kernel)) rfl rfl)
set_option maxRecDepth 10000 in
theorem H_X10_pairsWithSo_9_eq (d : Nat) (a1 : Nat) (y2 : Int32) (y3 : Int32) (y4 : Int32) (y5 : Int32) (y6 : Int32) (y7 : Int32) (y8 : Int32) (m : MzM) (ha1 : mz_isS a1 = true) : H_X10_pairsWithSo_9 d a1 y2 y3 y4 y5 y6 y7 y8 m = if (mz_rd m 4 4) ≤ y8 then (some (y6, m)) else (H_X10_pairsWithSo_27 d a1 y2 y3 y4 y5 y6 y7 y8 (y8 + 1) m) := by
  show mz_cI (mz_T d 114 9 [some (.ref 222), some (.ref a1), some (.int y2), some (.int y3), some (.int y4), some (.int y5), some (.int y6), some (.int y7), some (.int y8), none, none] [] m) = _
  refine q_s (mz_fe (e := (9, .iload 8, 2, (0, 0, 0), [true, true, true, true, true, true, true, true, true, false, false])) (by decide +kernel)) (pc' := 11) (L' := [some (.ref 222), some (.ref a1), some (.int y2), some (.int y3), some (.int y4), some (.int y5), some (.int y6), some (.int y7), some (.int y8), none, none]) (st' := [.int y8]) rfl ?_
  refine q_o (mz_fe (e := (11, .aload_n 0, 1, (0, 0, 0), [])) (by decide +kernel)) (pc2 := 12) rfl ?_
  refine q_getR (b := 4) (mz_fe (e := (12, .getfield 25, 86, (10, 0, 2), [])) (by decide +kernel)) rfl tg_222 (by rw [ln_222]; decide) (mz_rfS (by decide +kernel)) ?_
  refine q_getI (mz_fe (e := (15, .getfield 37, 89, (8, 4, 0), [])) (by decide +kernel)) rfl (by decide) tg_4 (by rw [ln_4]; decide) ?_
  refine q_if (c := .ge) (off := 77) (t := 95) (x := y8) (y := (mz_rd m 4 4)) (st := []) (mz_fe (e := (18, .if_icmp .ge 77, 3, (0, 0, 0), [])) (by decide +kernel)) (fun _ => rfl) rfl rfl rfl (fun c1 => ?_) (fun c1 => ?_)
  · refine q_o (mz_fe (e := (95, .iload 6, 2, (0, 0, 0), [])) (by decide +kernel)) (pc2 := 97) rfl ?_
    exact q_retI (mz_fe (e := (97, .ireturn, 1, (0, 0, 0), [])) (by decide +kernel)) (by decide +kernel)
  · refine q_o (mz_fe (e := (21, .iload 8, 2, (0, 0, 0), [])) (by decide +kernel)) (pc2 := 23) rfl ?_
    refine q_ic (v := 1) (mz_fe (e := (23, .iconst 1, 1, (0, 0, 0), [])) (by decide +kernel)) (by decide) ?_
    refine q_o (mz_fe (e := (24, .iadd, 1, (0, 0, 0), [])) (by decide +kernel)) (pc2 := 25) rfl ?_
    refine q_s (mz_fe (e := (25, .istore 9, 2, (0, 0, 0), [])) (by decide +kernel)) (pc' := 27) (L' := [some (.ref 222), some (.ref a1), some (.int y2), some (.int y3), some (.int y4), some (.int y5), some (.int y6), some (.int y7), some (.int y8), some (.int (y8 + 1)), none]) (st' := []) rfl ?_
    exact congrArg mz_cI (mz_At_msk (L := [some (.ref 222), some (.ref a1), some (.int y2), some (.int y3), some (.int y4), some (.int y5), some (.int y6), some (.int y7), some (.int y8), some (.int (y8 + 1)), none]) (L2 := [some (.ref 222), some (.ref a1), some (.int y2), some (.int y3), some (.int y4), some (.int y5), some (.int y6), some (.int y7), some (.int y8), some (.int (y8 + 1)), none]) (mz_fe (e := (27, .iload 9, 2, (0, 0, 0), [true, true, true, true, true, true, true, true, true, true, false])) (by decide +kernel)) rfl rfl)
set_option maxRecDepth 10000 in
theorem H_X10_pairsWithSo_27_eq (d : Nat) (a1 : Nat) (y2 : Int32) (y3 : Int32) (y4 : Int32) (y5 : Int32) (y6 : Int32) (y7 : Int32) (y8 : Int32) (y9 : Int32) (m : MzM) (ha1 : mz_isS a1 = true) : H_X10_pairsWithSo_27 d a1 y2 y3 y4 y5 y6 y7 y8 y9 m = if (mz_rd m 4 4) ≤ y9 then (H_X10_pairsWithSo_9 d a1 y2 y3 y4 y5 y6 y7 (y8 + 1) m) else (if ((y2 >>> (y7 &&& 31)) &&& 1) = 0 then (H_X10_pairsWithSo_27 d a1 y2 y3 y4 y5 y6 (y7 + 1) y8 (y9 + 1) m) else ((R_X10_amountBehind d a1 y8 y9 y3 y4 m).bind (fun u6 => if u6.1 < y5 then (H_X10_pairsWithSo_27 d a1 y2 y3 y4 y5 y6 (y7 + 1) y8 (y9 + 1) u6.2) else (H_X10_pairsWithSo_27 d a1 y2 y3 y4 y5 (y6 + 1) (y7 + 1) y8 (y9 + 1) u6.2)))) := by
  show mz_cI (mz_T d 114 27 [some (.ref 222), some (.ref a1), some (.int y2), some (.int y3), some (.int y4), some (.int y5), some (.int y6), some (.int y7), some (.int y8), some (.int y9), none] [] m) = _
  refine q_s (mz_fe (e := (27, .iload 9, 2, (0, 0, 0), [true, true, true, true, true, true, true, true, true, true, false])) (by decide +kernel)) (pc' := 29) (L' := [some (.ref 222), some (.ref a1), some (.int y2), some (.int y3), some (.int y4), some (.int y5), some (.int y6), some (.int y7), some (.int y8), some (.int y9), none]) (st' := [.int y9]) rfl ?_
  refine q_o (mz_fe (e := (29, .aload_n 0, 1, (0, 0, 0), [])) (by decide +kernel)) (pc2 := 30) rfl ?_
  refine q_getR (b := 4) (mz_fe (e := (30, .getfield 25, 86, (10, 0, 2), [])) (by decide +kernel)) rfl tg_222 (by rw [ln_222]; decide) (mz_rfS (by decide +kernel)) ?_
  refine q_getI (mz_fe (e := (33, .getfield 37, 89, (8, 4, 0), [])) (by decide +kernel)) rfl (by decide) tg_4 (by rw [ln_4]; decide) ?_
  refine q_if (c := .ge) (off := 53) (t := 89) (x := y9) (y := (mz_rd m 4 4)) (st := []) (mz_fe (e := (36, .if_icmp .ge 53, 3, (0, 0, 0), [])) (by decide +kernel)) (fun _ => rfl) rfl rfl rfl (fun c2 => ?_) (fun c2 => ?_)
  · refine q_iinc (v := y8) (c := 1) (L3 := [some (.ref 222), some (.ref a1), some (.int y2), some (.int y3), some (.int y4), some (.int y5), some (.int y6), some (.int y7), some (.int (y8 + 1)), some (.int y9), none]) (mz_fe (e := (89, .iinc 8 1, 3, (0, 0, 0), [])) (by decide +kernel)) rfl rfl (by decide) rfl ?_
    refine q_o (mz_fe (e := (92, .goto (-83), 3, (0, 0, 0), [])) (by decide +kernel)) (pc2 := 9) rfl ?_
    exact congrArg mz_cI (mz_At_msk (L := [some (.ref 222), some (.ref a1), some (.int y2), some (.int y3), some (.int y4), some (.int y5), some (.int y6), some (.int y7), some (.int (y8 + 1)), some (.int y9), none]) (L2 := [some (.ref 222), some (.ref a1), some (.int y2), some (.int y3), some (.int y4), some (.int y5), some (.int y6), some (.int y7), some (.int (y8 + 1)), none, none]) (mz_fe (e := (9, .iload 8, 2, (0, 0, 0), [true, true, true, true, true, true, true, true, true, false, false])) (by decide +kernel)) rfl rfl)
  · refine q_o (mz_fe (e := (39, .iload_n 2, 1, (0, 0, 0), [])) (by decide +kernel)) (pc2 := 40) rfl ?_
    refine q_o (mz_fe (e := (40, .iload 7, 2, (0, 0, 0), [])) (by decide +kernel)) (pc2 := 42) rfl ?_
    refine q_o (mz_fe (e := (42, .ishr, 1, (0, 0, 0), [])) (by decide +kernel)) (pc2 := 43) rfl ?_
    refine q_ic (v := 1) (mz_fe (e := (43, .iconst 1, 1, (0, 0, 0), [])) (by decide +kernel)) (by decide) ?_
    refine q_o (mz_fe (e := (44, .iand, 1, (0, 0, 0), [])) (by decide +kernel)) (pc2 := 45) rfl ?_
    refine q_if (c := .eq) (off := 7) (t := 52) (x := ((y2 >>> (y7 &&& 31)) &&& 1)) (y := 0) (st := []) (mz_fe (e := (45, .ifCond .eq 7, 3, (0, 0, 0), [])) (by decide +kernel)) (fun _ => rfl) rfl rfl rfl (fun c3 => ?_) (fun c3 => ?_)
    · refine q_ic (v := 0) (mz_fe (e := (52, .iconst 0, 1, (0, 0, 0), [])) (by decide +kernel)) (by decide) ?_
      refine q_s (mz_fe (e := (53, .istore 10, 2, (0, 0, 0), [])) (by decide +kernel)) (pc' := 55) (L' := [some (.ref 222), some (.ref a1), some (.int y2), some (.int y3), some (.int y4), some (.int y5), some (.int y6), some (.int y7), some (.int y8), some (.int y9), some (.int 0)]) (st' := []) rfl ?_
      refine q_o (mz_fe (e := (55, .iload 10, 2, (0, 0, 0), [])) (by decide +kernel)) (pc2 := 57) rfl ?_
      refine q_o (mz_fe (e := (57, .ifCond .eq 23, 3, (0, 0, 0), [])) (by decide +kernel)) (pc2 := 80) rfl ?_
      refine q_iinc (v := y7) (c := 1) (L3 := [some (.ref 222), some (.ref a1), some (.int y2), some (.int y3), some (.int y4), some (.int y5), some (.int y6), some (.int (y7 + 1)), some (.int y8), some (.int y9), some (.int 0)]) (mz_fe (e := (80, .iinc 7 1, 3, (0, 0, 0), [])) (by decide +kernel)) rfl rfl (by decide) rfl ?_
      refine q_iinc (v := y9) (c := 1) (L3 := [some (.ref 222), some (.ref a1), some (.int y2), some (.int y3), some (.int y4), some (.int y5), some (.int y6), some (.int (y7 + 1)), some (.int y8), some (.int (y9 + 1)), some (.int 0)]) (mz_fe (e := (83, .iinc 9 1, 3, (0, 0, 0), [])) (by decide +kernel)) rfl rfl (by decide) rfl ?_
      refine q_o (mz_fe (e := (86, .goto (-59), 3, (0, 0, 0), [])) (by decide +kernel)) (pc2 := 27) rfl ?_
      exact congrArg mz_cI (mz_At_msk (L := [some (.ref 222), some (.ref a1), some (.int y2), some (.int y3), some (.int y4), some (.int y5), some (.int y6), some (.int (y7 + 1)), some (.int y8), some (.int (y9 + 1)), some (.int 0)]) (L2 := [some (.ref 222), some (.ref a1), some (.int y2), some (.int y3), some (.int y4), some (.int y5), some (.int y6), some (.int (y7 + 1)), some (.int y8), some (.int (y9 + 1)), none]) (mz_fe (e := (27, .iload 9, 2, (0, 0, 0), [true, true, true, true, true, true, true, true, true, true, false])) (by decide +kernel)) rfl rfl)
    · refine q_ic (v := 1) (mz_fe (e := (48, .iconst 1, 1, (0, 0, 0), [])) (by decide +kernel)) (by decide) ?_
      refine q_o (mz_fe (e := (49, .goto 4, 3, (0, 0, 0), [])) (by decide +kernel)) (pc2 := 53) rfl ?_
      refine q_s (mz_fe (e := (53, .istore 10, 2, (0, 0, 0), [])) (by decide +kernel)) (pc' := 55) (L' := [some (.ref 222), some (.ref a1), some (.int y2), some (.int y3), some (.int y4), some (.int y5), some (.int y6), some (.int y7), some (.int y8), some (.int y9), some (.int 1)]) (st' := []) rfl ?_
      refine q_o (mz_fe (e := (55, .iload 10, 2, (0, 0, 0), [])) (by decide +kernel)) (pc2 := 57) rfl ?_
      refine q_o (mz_fe (e := (57, .ifCond .eq 23, 3, (0, 0, 0), [])) (by decide +kernel)) (pc2 := 60) rfl ?_
      refine q_o (mz_fe (e := (60, .aload_n 0, 1, (0, 0, 0), [])) (by decide +kernel)) (pc2 := 61) rfl ?_
      refine q_o (mz_fe (e := (61, .aload_n 1, 1, (0, 0, 0), [])) (by decide +kernel)) (pc2 := 62) rfl ?_
      refine q_o (mz_fe (e := (62, .iload 8, 2, (0, 0, 0), [])) (by decide +kernel)) (pc2 := 64) rfl ?_
      refine q_o (mz_fe (e := (64, .iload 9, 2, (0, 0, 0), [])) (by decide +kernel)) (pc2 := 66) rfl ?_
      refine q_o (mz_fe (e := (66, .iload_n 3, 1, (0, 0, 0), [])) (by decide +kernel)) (pc2 := 67) rfl ?_
      refine q_o (mz_fe (e := (67, .iload 4, 2, (0, 0, 0), [])) (by decide +kernel)) (pc2 := 69) rfl ?_
      refine q_callI (N := 111) (vs := [.ref 222, .ref a1, .int y8, .int y9, .int y3, .int y4]) (rest := []) (L' := [some (.ref 222), some (.ref a1), some (.int y2), some (.int y3), some (.int y4), some (.int y5), some (.int y6), some (.int y7), some (.int y8), some (.int y9), some (.int 1)]) (f := fun v5 m4 => if v5 < y5 then (H_X10_pairsWithSo_27 d a1 y2 y3 y4 y5 y6 (y7 + 1) y8 (y9 + 1) m4) else (H_X10_pairsWithSo_27 d a1 y2 y3 y4 y5 (y6 + 1) (y7 + 1) y8 (y9 + 1) m4)) rfl (mz_fe (e := (69, .invokevirtual 46, 91, (111, 6, 16), [])) (by decide +kernel)) rfl (mz_inv_virt (N := 111) (k := 6) (t := 16) (st := [.int y4, .int y3, .int y9, .int y8, .ref a1, .ref 222]) (rest := []) (b := 222) (vs := [.ref a1, .int y8, .int y9, .int y3, .int y4]) (h := (mz_S0, m)) rfl rfl (Nat.le_of_ble_eq_true rfl) (Nat.le_of_ble_eq_true rfl) tg_222 (by decide)) (mz_dc_lt (n := 6) rfl (by decide +kernel) (by decide +kernel)) (by decide +kernel) (Or.inl (by decide +kernel)) (fun v5 m4 => ?_)
      refine q_o (mz_fe (e := (72, .iload 5, 2, (0, 0, 0), [])) (by decide +kernel)) (pc2 := 74) rfl ?_
      refine q_if (c := .lt) (off := 6) (t := 80) (x := v5) (y := y5) (st := []) (mz_fe (e := (74, .if_icmp .lt 6, 3, (0, 0, 0), [])) (by decide +kernel)) (fun _ => rfl) rfl rfl rfl (fun c7 => ?_) (fun c7 => ?_)
      · refine q_iinc (v := y7) (c := 1) (L3 := [some (.ref 222), some (.ref a1), some (.int y2), some (.int y3), some (.int y4), some (.int y5), some (.int y6), some (.int (y7 + 1)), some (.int y8), some (.int y9), some (.int 1)]) (mz_fe (e := (80, .iinc 7 1, 3, (0, 0, 0), [])) (by decide +kernel)) rfl rfl (by decide) rfl ?_
        refine q_iinc (v := y9) (c := 1) (L3 := [some (.ref 222), some (.ref a1), some (.int y2), some (.int y3), some (.int y4), some (.int y5), some (.int y6), some (.int (y7 + 1)), some (.int y8), some (.int (y9 + 1)), some (.int 1)]) (mz_fe (e := (83, .iinc 9 1, 3, (0, 0, 0), [])) (by decide +kernel)) rfl rfl (by decide) rfl ?_
        refine q_o (mz_fe (e := (86, .goto (-59), 3, (0, 0, 0), [])) (by decide +kernel)) (pc2 := 27) rfl ?_
        exact congrArg mz_cI (mz_At_msk (L := [some (.ref 222), some (.ref a1), some (.int y2), some (.int y3), some (.int y4), some (.int y5), some (.int y6), some (.int (y7 + 1)), some (.int y8), some (.int (y9 + 1)), some (.int 1)]) (L2 := [some (.ref 222), some (.ref a1), some (.int y2), some (.int y3), some (.int y4), some (.int y5), some (.int y6), some (.int (y7 + 1)), some (.int y8), some (.int (y9 + 1)), none]) (mz_fe (e := (27, .iload 9, 2, (0, 0, 0), [true, true, true, true, true, true, true, true, true, true, false])) (by decide +kernel)) rfl rfl)
      · refine q_iinc (v := y6) (c := 1) (L3 := [some (.ref 222), some (.ref a1), some (.int y2), some (.int y3), some (.int y4), some (.int y5), some (.int (y6 + 1)), some (.int y7), some (.int y8), some (.int y9), some (.int 1)]) (mz_fe (e := (77, .iinc 6 1, 3, (0, 0, 0), [])) (by decide +kernel)) rfl rfl (by decide) rfl ?_
        refine q_iinc (v := y7) (c := 1) (L3 := [some (.ref 222), some (.ref a1), some (.int y2), some (.int y3), some (.int y4), some (.int y5), some (.int (y6 + 1)), some (.int (y7 + 1)), some (.int y8), some (.int y9), some (.int 1)]) (mz_fe (e := (80, .iinc 7 1, 3, (0, 0, 0), [])) (by decide +kernel)) rfl rfl (by decide) rfl ?_
        refine q_iinc (v := y9) (c := 1) (L3 := [some (.ref 222), some (.ref a1), some (.int y2), some (.int y3), some (.int y4), some (.int y5), some (.int (y6 + 1)), some (.int (y7 + 1)), some (.int y8), some (.int (y9 + 1)), some (.int 1)]) (mz_fe (e := (83, .iinc 9 1, 3, (0, 0, 0), [])) (by decide +kernel)) rfl rfl (by decide) rfl ?_
        refine q_o (mz_fe (e := (86, .goto (-59), 3, (0, 0, 0), [])) (by decide +kernel)) (pc2 := 27) rfl ?_
        exact congrArg mz_cI (mz_At_msk (L := [some (.ref 222), some (.ref a1), some (.int y2), some (.int y3), some (.int y4), some (.int y5), some (.int (y6 + 1)), some (.int (y7 + 1)), some (.int y8), some (.int (y9 + 1)), some (.int 1)]) (L2 := [some (.ref 222), some (.ref a1), some (.int y2), some (.int y3), some (.int y4), some (.int y5), some (.int (y6 + 1)), some (.int (y7 + 1)), some (.int y8), some (.int (y9 + 1)), none]) (mz_fe (e := (27, .iload 9, 2, (0, 0, 0), [true, true, true, true, true, true, true, true, true, true, false])) (by decide +kernel)) rfl rfl)
