set_option maxRecDepth 10000 in
theorem R_X1_clear_eq (d : Nat)  (m : MzM)  : R_X1_clear d  m = some (mz_wr m 37 2 0) := by
  show mz_cV (mz_T d 11 0 (mz_en (mz_xl 11) [.ref 37]) [] m) = _
  rw [show mz_en (mz_xl 11) [.ref 37] = [some (.ref 37)] from by rw [show mz_xl 11 = 1 from by decide +kernel]; rfl]
  refine q_o (mz_fe (e := (0, .aload_n 0, 1, (0, 0, 0), [])) (by decide +kernel)) (pc2 := 1) rfl ?_
  refine q_ic (v := 0) (mz_fe (e := (1, .iconst 0, 1, (0, 0, 0), [])) (by decide +kernel)) (by decide) ?_
  refine q_putI (mz_fe (e := (2, .putfield 16, 5, (1, 2, 0), [])) (by decide +kernel)) rfl tg_37 (by rw [ln_37]; decide) ?_
  exact q_retV (mz_fe (e := (5, .return_, 1, (0, 0, 0), [])) (by decide +kernel)) (by decide +kernel)
set_option maxRecDepth 10000 in
theorem R_X1_remember_eq (d : Nat) (s : Nat) (m : MzM) (hs : mz_isS s = true) : R_X1_remember d s m = mz_g (mz_ok (mz_rd m 37 1) 40) ((R_X6_copyFrom d (39 + 4 * ((mz_rd m 37 1) : Int32).toNatClampNeg) s m).bind (fun m2 => some (mz_wr (mz_wr m2 37 1 (((mz_rd m2 37 1) + 1) - ((mz_rd m2 37 1) + 1) / 40 * 40)) 37 2 (if (40 : Int32) < ((mz_rd (mz_wr m2 37 1 (((mz_rd m2 37 1) + 1) - ((mz_rd m2 37 1) + 1) / 40 * 40)) 37 2) + 1) then 40 else ((mz_rd (mz_wr m2 37 1 (((mz_rd m2 37 1) + 1) - ((mz_rd m2 37 1) + 1) / 40 * 40)) 37 2) + 1))))) := by
  show mz_cV (mz_T d 12 0 (mz_en (mz_xl 12) [.ref 37, .ref s]) [] m) = _
  rw [show mz_en (mz_xl 12) [.ref 37, .ref s] = [some (.ref 37), some (.ref s)] from by rw [show mz_xl 12 = 2 from by decide +kernel]; rfl]
  refine q_o (mz_fe (e := (0, .aload_n 0, 1, (0, 0, 0), [])) (by decide +kernel)) (pc2 := 1) rfl ?_
  refine q_getR (b := 38) (mz_fe (e := (1, .getfield 11, 4, (1, 0, 2), [])) (by decide +kernel)) rfl tg_37 (by rw [ln_37]; decide) (mz_rfS (by decide +kernel)) ?_
  refine q_o (mz_fe (e := (4, .aload_n 0, 1, (0, 0, 0), [])) (by decide +kernel)) (pc2 := 5) rfl ?_
  refine q_getI (mz_fe (e := (5, .getfield 20, 6, (1, 1, 0), [])) (by decide +kernel)) rfl (by decide) tg_37 (by rw [ln_37]; decide) ?_
  refine q_aaldg (F := fun j => 39 + 4 * j) rfl (mz_fe (e := (8, .aaload, 1, (0, 0, 0), [])) (by decide +kernel)) rfl tg_38 ln_38 rf_ring (fun g1 => ?_)
  refine q_o (mz_fe (e := (9, .aload_n 1, 1, (0, 0, 0), [])) (by decide +kernel)) (pc2 := 10) rfl ?_
  refine q_callV (N := 68) (vs := [.ref (39 + 4 * ((mz_rd m 37 1) : Int32).toNatClampNeg), .ref s]) (rest := []) (L' := [some (.ref 37), some (.ref s)]) rfl (mz_fe (e := (10, .invokevirtual 23, 8, (68, 2, 12), [])) (by decide +kernel)) rfl (mz_inv_virt (N := 68) (k := 2) (t := 12) (st := [.ref s, .ref (39 + 4 * ((mz_rd m 37 1) : Int32).toNatClampNeg)]) (rest := []) (b := (39 + 4 * ((mz_rd m 37 1) : Int32).toNatClampNeg)) (vs := [.ref s]) (h := (mz_S0, m)) rfl rfl (Nat.le_of_ble_eq_true rfl) (Nat.le_of_ble_eq_true rfl) (st_t (isS_ring _ (mz_okL g1))) (by decide)) (mz_dc_lt (n := 2) rfl (by decide +kernel) (by decide +kernel)) (by decide +kernel) (by decide +kernel) (fun m2 => ?_)
  refine q_o (mz_fe (e := (13, .aload_n 0, 1, (0, 0, 0), [])) (by decide +kernel)) (pc2 := 14) rfl ?_
  refine q_o (mz_fe (e := (14, .aload_n 0, 1, (0, 0, 0), [])) (by decide +kernel)) (pc2 := 15) rfl ?_
  refine q_getI (mz_fe (e := (15, .getfield 20, 6, (1, 1, 0), [])) (by decide +kernel)) rfl (by decide) tg_37 (by rw [ln_37]; decide) ?_
  refine q_ic (v := 1) (mz_fe (e := (18, .iconst 1, 1, (0, 0, 0), [])) (by decide +kernel)) (by decide) ?_
  refine q_o (mz_fe (e := (19, .iadd, 1, (0, 0, 0), [])) (by decide +kernel)) (pc2 := 20) rfl ?_
  refine q_bi (v := 40) (mz_fe (e := (20, .bipush 40, 2, (0, 0, 0), [])) (by decide +kernel)) (by decide) ?_
  refine q_o (mz_fe (e := (22, .irem, 1, (0, 0, 0), [])) (by decide +kernel)) (pc2 := 23) rfl ?_
  refine q_putI (mz_fe (e := (23, .putfield 20, 6, (1, 1, 0), [])) (by decide +kernel)) rfl tg_37 (by rw [ln_37]; decide) ?_
  refine q_o (mz_fe (e := (26, .aload_n 0, 1, (0, 0, 0), [])) (by decide +kernel)) (pc2 := 27) rfl ?_
  refine q_o (mz_fe (e := (27, .aload_n 0, 1, (0, 0, 0), [])) (by decide +kernel)) (pc2 := 28) rfl ?_
  refine q_getI (mz_fe (e := (28, .getfield 16, 5, (1, 2, 0), [])) (by decide +kernel)) rfl (by decide) tg_37 (by rw [ln_37]; decide) ?_
  refine q_ic (v := 1) (mz_fe (e := (31, .iconst 1, 1, (0, 0, 0), [])) (by decide +kernel)) (by decide) ?_
  refine q_o (mz_fe (e := (32, .iadd, 1, (0, 0, 0), [])) (by decide +kernel)) (pc2 := 33) rfl ?_
  refine q_bi (v := 40) (mz_fe (e := (33, .bipush 40, 2, (0, 0, 0), [])) (by decide +kernel)) (by decide) ?_
  refine q_min (mz_fe (e := (35, .invokestatic 27, 4, (9996, 0, 0), [])) (by decide +kernel)) rfl (Nat.le_of_ble_eq_true rfl) ?_
  refine q_putI (mz_fe (e := (38, .putfield 16, 5, (1, 2, 0), [])) (by decide +kernel)) rfl tg_37 (by rw [ln_37]; decide) ?_
  exact q_retV (mz_fe (e := (41, .return_, 1, (0, 0, 0), [])) (by decide +kernel)) (by decide +kernel)
set_option maxRecDepth 10000 in
theorem R_X1_bringBack_eq (d : Nat) (s : Nat) (m : MzM) (hs : mz_isS s = true) : R_X1_bringBack d s m = if ¬ (mz_rd m 37 2) = 0 then (mz_g (mz_ok (mz_rd (mz_wr (mz_wr m 37 1 ((((mz_rd m 37 1) + 40) - 1) - (((mz_rd m 37 1) + 40) - 1) / 40 * 40)) 37 2 ((mz_rd (mz_wr m 37 1 ((((mz_rd m 37 1) + 40) - 1) - (((mz_rd m 37 1) + 40) - 1) / 40 * 40)) 37 2) - 1)) 37 1) 40) ((R_X6_copyFrom d s (39 + 4 * ((mz_rd (mz_wr (mz_wr m 37 1 ((((mz_rd m 37 1) + 40) - 1) - (((mz_rd m 37 1) + 40) - 1) / 40 * 40)) 37 2 ((mz_rd (mz_wr m 37 1 ((((mz_rd m 37 1) + 40) - 1) - (((mz_rd m 37 1) + 40) - 1) / 40 * 40)) 37 2) - 1)) 37 1) : Int32).toNatClampNeg) (mz_wr (mz_wr m 37 1 ((((mz_rd m 37 1) + 40) - 1) - (((mz_rd m 37 1) + 40) - 1) / 40 * 40)) 37 2 ((mz_rd (mz_wr m 37 1 ((((mz_rd m 37 1) + 40) - 1) - (((mz_rd m 37 1) + 40) - 1) / 40 * 40)) 37 2) - 1))).bind (fun m3 => some (1, m3)))) else (some (0, m)) := by
  show mz_cI (mz_T d 13 0 (mz_en (mz_xl 13) [.ref 37, .ref s]) [] m) = _
  rw [show mz_en (mz_xl 13) [.ref 37, .ref s] = [some (.ref 37), some (.ref s)] from by rw [show mz_xl 13 = 2 from by decide +kernel]; rfl]
  refine q_o (mz_fe (e := (0, .aload_n 0, 1, (0, 0, 0), [])) (by decide +kernel)) (pc2 := 1) rfl ?_
  refine q_getI (mz_fe (e := (1, .getfield 16, 5, (1, 2, 0), [])) (by decide +kernel)) rfl (by decide) tg_37 (by rw [ln_37]; decide) ?_
  refine q_if (c := .ne) (off := 5) (t := 9) (x := (mz_rd m 37 2)) (y := 0) (st := []) (mz_fe (e := (4, .ifCond .ne 5, 3, (0, 0, 0), [])) (by decide +kernel)) (fun _ => rfl) rfl rfl rfl (fun c1 => ?_) (fun c1 => ?_)
  · refine q_o (mz_fe (e := (9, .aload_n 0, 1, (0, 0, 0), [])) (by decide +kernel)) (pc2 := 10) rfl ?_
    refine q_o (mz_fe (e := (10, .aload_n 0, 1, (0, 0, 0), [])) (by decide +kernel)) (pc2 := 11) rfl ?_
    refine q_getI (mz_fe (e := (11, .getfield 20, 6, (1, 1, 0), [])) (by decide +kernel)) rfl (by decide) tg_37 (by rw [ln_37]; decide) ?_
    refine q_bi (v := 40) (mz_fe (e := (14, .bipush 40, 2, (0, 0, 0), [])) (by decide +kernel)) (by decide) ?_
    refine q_o (mz_fe (e := (16, .iadd, 1, (0, 0, 0), [])) (by decide +kernel)) (pc2 := 17) rfl ?_
    refine q_ic (v := 1) (mz_fe (e := (17, .iconst 1, 1, (0, 0, 0), [])) (by decide +kernel)) (by decide) ?_
    refine q_o (mz_fe (e := (18, .isub, 1, (0, 0, 0), [])) (by decide +kernel)) (pc2 := 19) rfl ?_
    refine q_bi (v := 40) (mz_fe (e := (19, .bipush 40, 2, (0, 0, 0), [])) (by decide +kernel)) (by decide) ?_
    refine q_o (mz_fe (e := (21, .irem, 1, (0, 0, 0), [])) (by decide +kernel)) (pc2 := 22) rfl ?_
    refine q_putI (mz_fe (e := (22, .putfield 20, 6, (1, 1, 0), [])) (by decide +kernel)) rfl tg_37 (by rw [ln_37]; decide) ?_
    refine q_o (mz_fe (e := (25, .aload_n 0, 1, (0, 0, 0), [])) (by decide +kernel)) (pc2 := 26) rfl ?_
    refine q_o (mz_fe (e := (26, .dup, 1, (0, 0, 0), [])) (by decide +kernel)) (pc2 := 27) rfl ?_
    refine q_getI (mz_fe (e := (27, .getfield 16, 5, (1, 2, 0), [])) (by decide +kernel)) rfl (by decide) tg_37 (by rw [ln_37]; decide) ?_
    refine q_ic (v := 1) (mz_fe (e := (30, .iconst 1, 1, (0, 0, 0), [])) (by decide +kernel)) (by decide) ?_
    refine q_o (mz_fe (e := (31, .isub, 1, (0, 0, 0), [])) (by decide +kernel)) (pc2 := 32) rfl ?_
    refine q_putI (mz_fe (e := (32, .putfield 16, 5, (1, 2, 0), [])) (by decide +kernel)) rfl tg_37 (by rw [ln_37]; decide) ?_
    refine q_o (mz_fe (e := (35, .aload_n 1, 1, (0, 0, 0), [])) (by decide +kernel)) (pc2 := 36) rfl ?_
    refine q_o (mz_fe (e := (36, .aload_n 0, 1, (0, 0, 0), [])) (by decide +kernel)) (pc2 := 37) rfl ?_
    refine q_getR (b := 38) (mz_fe (e := (37, .getfield 11, 4, (1, 0, 2), [])) (by decide +kernel)) rfl tg_37 (by rw [ln_37]; decide) (mz_rfS (by decide +kernel)) ?_
    refine q_o (mz_fe (e := (40, .aload_n 0, 1, (0, 0, 0), [])) (by decide +kernel)) (pc2 := 41) rfl ?_
    refine q_getI (mz_fe (e := (41, .getfield 20, 6, (1, 1, 0), [])) (by decide +kernel)) rfl (by decide) tg_37 (by rw [ln_37]; decide) ?_
    refine q_aaldg (F := fun j => 39 + 4 * j) rfl (mz_fe (e := (44, .aaload, 1, (0, 0, 0), [])) (by decide +kernel)) rfl tg_38 ln_38 rf_ring (fun g2 => ?_)
    refine q_callV (N := 68) (vs := [.ref s, .ref (39 + 4 * ((mz_rd (mz_wr (mz_wr m 37 1 ((((mz_rd m 37 1) + 40) - 1) - (((mz_rd m 37 1) + 40) - 1) / 40 * 40)) 37 2 ((mz_rd (mz_wr m 37 1 ((((mz_rd m 37 1) + 40) - 1) - (((mz_rd m 37 1) + 40) - 1) / 40 * 40)) 37 2) - 1)) 37 1) : Int32).toNatClampNeg)]) (rest := []) (L' := [some (.ref 37), some (.ref s)]) rfl (mz_fe (e := (45, .invokevirtual 23, 8, (68, 2, 12), [])) (by decide +kernel)) rfl (mz_inv_virt (N := 68) (k := 2) (t := 12) (st := [.ref (39 + 4 * ((mz_rd (mz_wr (mz_wr m 37 1 ((((mz_rd m 37 1) + 40) - 1) - (((mz_rd m 37 1) + 40) - 1) / 40 * 40)) 37 2 ((mz_rd (mz_wr m 37 1 ((((mz_rd m 37 1) + 40) - 1) - (((mz_rd m 37 1) + 40) - 1) / 40 * 40)) 37 2) - 1)) 37 1) : Int32).toNatClampNeg), .ref s]) (rest := []) (b := s) (vs := [.ref (39 + 4 * ((mz_rd (mz_wr (mz_wr m 37 1 ((((mz_rd m 37 1) + 40) - 1) - (((mz_rd m 37 1) + 40) - 1) / 40 * 40)) 37 2 ((mz_rd (mz_wr m 37 1 ((((mz_rd m 37 1) + 40) - 1) - (((mz_rd m 37 1) + 40) - 1) / 40 * 40)) 37 2) - 1)) 37 1) : Int32).toNatClampNeg)]) (h := (mz_S0, (mz_wr (mz_wr m 37 1 ((((mz_rd m 37 1) + 40) - 1) - (((mz_rd m 37 1) + 40) - 1) / 40 * 40)) 37 2 ((mz_rd (mz_wr m 37 1 ((((mz_rd m 37 1) + 40) - 1) - (((mz_rd m 37 1) + 40) - 1) / 40 * 40)) 37 2) - 1)))) rfl rfl (Nat.le_of_ble_eq_true rfl) (Nat.le_of_ble_eq_true rfl) (st_t hs) (by decide)) (mz_dc_lt (n := 2) rfl (by decide +kernel) (by decide +kernel)) (by decide +kernel) (by decide +kernel) (fun m3 => ?_)
    refine q_ic (v := 1) (mz_fe (e := (48, .iconst 1, 1, (0, 0, 0), [])) (by decide +kernel)) (by decide) ?_
    exact q_retZ (mz_fe (e := (49, .ireturn, 1, (0, 0, 0), [])) (by decide +kernel)) (by decide +kernel) (by decide)
  · refine q_ic (v := 0) (mz_fe (e := (7, .iconst 0, 1, (0, 0, 0), [])) (by decide +kernel)) (by decide) ?_
    exact q_retZ (mz_fe (e := (8, .ireturn, 1, (0, 0, 0), [])) (by decide +kernel)) (by decide +kernel) (by decide)
set_option maxRecDepth 10000 in
theorem R_X2_clear_eq (d : Nat) (w : Nat) (m : MzM) (hw : mz_isW w = true) : R_X2_clear d w m = (R_X2_begin d w 0 (mz_wr m w 4 0)).bind (fun m1 => (R_X2_addInt d w 0 m1).bind (fun m4 => (R_X2_endPart d w 0 m4).bind (fun m7 => (R_X2_begin d w 1 m7).bind (fun m10 => (R_X2_addVar d w 5 m10).bind (fun m13 => (R_X2_endPart d w 1 m13).bind (fun m16 => (R_X2_begin d w 2 m16).bind (fun m19 => (R_X2_addInt d w 0 m19).bind (fun m22 => (R_X2_endPart d w 2 m22).bind (fun m25 => (R_X2_begin d w 3 m25).bind (fun m28 => (R_X2_addInt d w 1 m28).bind (fun m31 => (R_X2_endPart d w 3 m31).bind (fun m34 => some m34)))))))))))) := by
  show mz_cV (mz_T d 15 0 (mz_en (mz_xl 15) [.ref w]) [] m) = _
  rw [show mz_en (mz_xl 15) [.ref w] = [some (.ref w)] from by rw [show mz_xl 15 = 1 from by decide +kernel]; rfl]
  refine q_o (mz_fe (e := (0, .aload_n 0, 1, (0, 0, 0), [])) (by decide +kernel)) (pc2 := 1) rfl ?_
  refine q_ic (v := 0) (mz_fe (e := (1, .iconst 0, 1, (0, 0, 0), [])) (by decide +kernel)) (by decide) ?_
  refine q_putI (mz_fe (e := (2, .putfield 24, 11, (2, 4, 0), [])) (by decide +kernel)) rfl (ls_t hw) (by rw [(ls_l hw)]; decide) ?_
  refine q_o (mz_fe (e := (5, .aload_n 0, 1, (0, 0, 0), [])) (by decide +kernel)) (pc2 := 6) rfl ?_
  refine q_ic (v := 0) (mz_fe (e := (6, .iconst 0, 1, (0, 0, 0), [])) (by decide +kernel)) (by decide) ?_
  refine q_callV (N := 17) (vs := [.ref w, .int 0]) (rest := []) (L' := [some (.ref w)]) rfl (mz_fe (e := (7, .invokevirtual 28, 9, (17, 2, 8), [])) (by decide +kernel)) rfl (mz_inv_virt (N := 17) (k := 2) (t := 8) (st := [.int 0, .ref w]) (rest := []) (b := w) (vs := [.int 0]) (h := (mz_S0, (mz_wr m w 4 0))) rfl rfl (Nat.le_of_ble_eq_true rfl) (Nat.le_of_ble_eq_true rfl) (ls_t hw) (by decide)) (mz_dc_lt (n := 2) rfl (by decide +kernel) (by decide +kernel)) (by decide +kernel) (by decide +kernel) (fun m1 => ?_)
  refine q_o (mz_fe (e := (10, .aload_n 0, 1, (0, 0, 0), [])) (by decide +kernel)) (pc2 := 11) rfl ?_
  refine q_ic (v := 0) (mz_fe (e := (11, .iconst 0, 1, (0, 0, 0), [])) (by decide +kernel)) (by decide) ?_
  refine q_callV (N := 19) (vs := [.ref w, .int 0]) (rest := []) (L' := [some (.ref w)]) rfl (mz_fe (e := (12, .invokevirtual 32, 10, (19, 2, 8), [])) (by decide +kernel)) rfl (mz_inv_virt (N := 19) (k := 2) (t := 8) (st := [.int 0, .ref w]) (rest := []) (b := w) (vs := [.int 0]) (h := (mz_S0, m1)) rfl rfl (Nat.le_of_ble_eq_true rfl) (Nat.le_of_ble_eq_true rfl) (ls_t hw) (by decide)) (mz_dc_lt (n := 2) rfl (by decide +kernel) (by decide +kernel)) (by decide +kernel) (by decide +kernel) (fun m4 => ?_)
  refine q_o (mz_fe (e := (15, .aload_n 0, 1, (0, 0, 0), [])) (by decide +kernel)) (pc2 := 16) rfl ?_
  refine q_ic (v := 0) (mz_fe (e := (16, .iconst 0, 1, (0, 0, 0), [])) (by decide +kernel)) (by decide) ?_
  refine q_callV (N := 18) (vs := [.ref w, .int 0]) (rest := []) (L' := [some (.ref w)]) rfl (mz_fe (e := (17, .invokevirtual 35, 11, (18, 2, 8), [])) (by decide +kernel)) rfl (mz_inv_virt (N := 18) (k := 2) (t := 8) (st := [.int 0, .ref w]) (rest := []) (b := w) (vs := [.int 0]) (h := (mz_S0, m4)) rfl rfl (Nat.le_of_ble_eq_true rfl) (Nat.le_of_ble_eq_true rfl) (ls_t hw) (by decide)) (mz_dc_lt (n := 2) rfl (by decide +kernel) (by decide +kernel)) (by decide +kernel) (by decide +kernel) (fun m7 => ?_)
  refine q_o (mz_fe (e := (20, .aload_n 0, 1, (0, 0, 0), [])) (by decide +kernel)) (pc2 := 21) rfl ?_
  refine q_ic (v := 1) (mz_fe (e := (21, .iconst 1, 1, (0, 0, 0), [])) (by decide +kernel)) (by decide) ?_
  refine q_callV (N := 17) (vs := [.ref w, .int 1]) (rest := []) (L' := [some (.ref w)]) rfl (mz_fe (e := (22, .invokevirtual 28, 9, (17, 2, 8), [])) (by decide +kernel)) rfl (mz_inv_virt (N := 17) (k := 2) (t := 8) (st := [.int 1, .ref w]) (rest := []) (b := w) (vs := [.int 1]) (h := (mz_S0, m7)) rfl rfl (Nat.le_of_ble_eq_true rfl) (Nat.le_of_ble_eq_true rfl) (ls_t hw) (by decide)) (mz_dc_lt (n := 2) rfl (by decide +kernel) (by decide +kernel)) (by decide +kernel) (by decide +kernel) (fun m10 => ?_)
  refine q_o (mz_fe (e := (25, .aload_n 0, 1, (0, 0, 0), [])) (by decide +kernel)) (pc2 := 26) rfl ?_
  refine q_ic (v := 5) (mz_fe (e := (26, .iconst 5, 1, (0, 0, 0), [])) (by decide +kernel)) (by decide) ?_
  refine q_callV (N := 20) (vs := [.ref w, .int 5]) (rest := []) (L' := [some (.ref w)]) rfl (mz_fe (e := (27, .invokevirtual 38, 12, (20, 2, 8), [])) (by decide +kernel)) rfl (mz_inv_virt (N := 20) (k := 2) (t := 8) (st := [.int 5, .ref w]) (rest := []) (b := w) (vs := [.int 5]) (h := (mz_S0, m10)) rfl rfl (Nat.le_of_ble_eq_true rfl) (Nat.le_of_ble_eq_true rfl) (ls_t hw) (by decide)) (mz_dc_lt (n := 2) rfl (by decide +kernel) (by decide +kernel)) (by decide +kernel) (by decide +kernel) (fun m13 => ?_)
  refine q_o (mz_fe (e := (30, .aload_n 0, 1, (0, 0, 0), [])) (by decide +kernel)) (pc2 := 31) rfl ?_
  refine q_ic (v := 1) (mz_fe (e := (31, .iconst 1, 1, (0, 0, 0), [])) (by decide +kernel)) (by decide) ?_
  refine q_callV (N := 18) (vs := [.ref w, .int 1]) (rest := []) (L' := [some (.ref w)]) rfl (mz_fe (e := (32, .invokevirtual 35, 11, (18, 2, 8), [])) (by decide +kernel)) rfl (mz_inv_virt (N := 18) (k := 2) (t := 8) (st := [.int 1, .ref w]) (rest := []) (b := w) (vs := [.int 1]) (h := (mz_S0, m13)) rfl rfl (Nat.le_of_ble_eq_true rfl) (Nat.le_of_ble_eq_true rfl) (ls_t hw) (by decide)) (mz_dc_lt (n := 2) rfl (by decide +kernel) (by decide +kernel)) (by decide +kernel) (by decide +kernel) (fun m16 => ?_)
  refine q_o (mz_fe (e := (35, .aload_n 0, 1, (0, 0, 0), [])) (by decide +kernel)) (pc2 := 36) rfl ?_
  refine q_ic (v := 2) (mz_fe (e := (36, .iconst 2, 1, (0, 0, 0), [])) (by decide +kernel)) (by decide) ?_
  refine q_callV (N := 17) (vs := [.ref w, .int 2]) (rest := []) (L' := [some (.ref w)]) rfl (mz_fe (e := (37, .invokevirtual 28, 9, (17, 2, 8), [])) (by decide +kernel)) rfl (mz_inv_virt (N := 17) (k := 2) (t := 8) (st := [.int 2, .ref w]) (rest := []) (b := w) (vs := [.int 2]) (h := (mz_S0, m16)) rfl rfl (Nat.le_of_ble_eq_true rfl) (Nat.le_of_ble_eq_true rfl) (ls_t hw) (by decide)) (mz_dc_lt (n := 2) rfl (by decide +kernel) (by decide +kernel)) (by decide +kernel) (by decide +kernel) (fun m19 => ?_)
  refine q_o (mz_fe (e := (40, .aload_n 0, 1, (0, 0, 0), [])) (by decide +kernel)) (pc2 := 41) rfl ?_
  refine q_ic (v := 0) (mz_fe (e := (41, .iconst 0, 1, (0, 0, 0), [])) (by decide +kernel)) (by decide) ?_
  refine q_callV (N := 19) (vs := [.ref w, .int 0]) (rest := []) (L' := [some (.ref w)]) rfl (mz_fe (e := (42, .invokevirtual 32, 10, (19, 2, 8), [])) (by decide +kernel)) rfl (mz_inv_virt (N := 19) (k := 2) (t := 8) (st := [.int 0, .ref w]) (rest := []) (b := w) (vs := [.int 0]) (h := (mz_S0, m19)) rfl rfl (Nat.le_of_ble_eq_true rfl) (Nat.le_of_ble_eq_true rfl) (ls_t hw) (by decide)) (mz_dc_lt (n := 2) rfl (by decide +kernel) (by decide +kernel)) (by decide +kernel) (by decide +kernel) (fun m22 => ?_)
  refine q_o (mz_fe (e := (45, .aload_n 0, 1, (0, 0, 0), [])) (by decide +kernel)) (pc2 := 46) rfl ?_
  refine q_ic (v := 2) (mz_fe (e := (46, .iconst 2, 1, (0, 0, 0), [])) (by decide +kernel)) (by decide) ?_
  refine q_callV (N := 18) (vs := [.ref w, .int 2]) (rest := []) (L' := [some (.ref w)]) rfl (mz_fe (e := (47, .invokevirtual 35, 11, (18, 2, 8), [])) (by decide +kernel)) rfl (mz_inv_virt (N := 18) (k := 2) (t := 8) (st := [.int 2, .ref w]) (rest := []) (b := w) (vs := [.int 2]) (h := (mz_S0, m22)) rfl rfl (Nat.le_of_ble_eq_true rfl) (Nat.le_of_ble_eq_true rfl) (ls_t hw) (by decide)) (mz_dc_lt (n := 2) rfl (by decide +kernel) (by decide +kernel)) (by decide +kernel) (by decide +kernel) (fun m25 => ?_)
  refine q_o (mz_fe (e := (50, .aload_n 0, 1, (0, 0, 0), [])) (by decide +kernel)) (pc2 := 51) rfl ?_
  refine q_ic (v := 3) (mz_fe (e := (51, .iconst 3, 1, (0, 0, 0), [])) (by decide +kernel)) (by decide) ?_
  refine q_callV (N := 17) (vs := [.ref w, .int 3]) (rest := []) (L' := [some (.ref w)]) rfl (mz_fe (e := (52, .invokevirtual 28, 9, (17, 2, 8), [])) (by decide +kernel)) rfl (mz_inv_virt (N := 17) (k := 2) (t := 8) (st := [.int 3, .ref w]) (rest := []) (b := w) (vs := [.int 3]) (h := (mz_S0, m25)) rfl rfl (Nat.le_of_ble_eq_true rfl) (Nat.le_of_ble_eq_true rfl) (ls_t hw) (by decide)) (mz_dc_lt (n := 2) rfl (by decide +kernel) (by decide +kernel)) (by decide +kernel) (by decide +kernel) (fun m28 => ?_)
  refine q_o (mz_fe (e := (55, .aload_n 0, 1, (0, 0, 0), [])) (by decide +kernel)) (pc2 := 56) rfl ?_
  refine q_ic (v := 1) (mz_fe (e := (56, .iconst 1, 1, (0, 0, 0), [])) (by decide +kernel)) (by decide) ?_
  refine q_callV (N := 19) (vs := [.ref w, .int 1]) (rest := []) (L' := [some (.ref w)]) rfl (mz_fe (e := (57, .invokevirtual 32, 10, (19, 2, 8), [])) (by decide +kernel)) rfl (mz_inv_virt (N := 19) (k := 2) (t := 8) (st := [.int 1, .ref w]) (rest := []) (b := w) (vs := [.int 1]) (h := (mz_S0, m28)) rfl rfl (Nat.le_of_ble_eq_true rfl) (Nat.le_of_ble_eq_true rfl) (ls_t hw) (by decide)) (mz_dc_lt (n := 2) rfl (by decide +kernel) (by decide +kernel)) (by decide +kernel) (by decide +kernel) (fun m31 => ?_)
  refine q_o (mz_fe (e := (60, .aload_n 0, 1, (0, 0, 0), [])) (by decide +kernel)) (pc2 := 61) rfl ?_
  refine q_ic (v := 3) (mz_fe (e := (61, .iconst 3, 1, (0, 0, 0), [])) (by decide +kernel)) (by decide) ?_
  refine q_callV (N := 18) (vs := [.ref w, .int 3]) (rest := []) (L' := [some (.ref w)]) rfl (mz_fe (e := (62, .invokevirtual 35, 11, (18, 2, 8), [])) (by decide +kernel)) rfl (mz_inv_virt (N := 18) (k := 2) (t := 8) (st := [.int 3, .ref w]) (rest := []) (b := w) (vs := [.int 3]) (h := (mz_S0, m31)) rfl rfl (Nat.le_of_ble_eq_true rfl) (Nat.le_of_ble_eq_true rfl) (ls_t hw) (by decide)) (mz_dc_lt (n := 2) rfl (by decide +kernel) (by decide +kernel)) (by decide +kernel) (by decide +kernel) (fun m34 => ?_)
  exact q_retV (mz_fe (e := (65, .return_, 1, (0, 0, 0), [])) (by decide +kernel)) (by decide +kernel)
set_option maxRecDepth 10000 in
theorem R_X2_copyFrom_eq (d : Nat) (w : Nat) (w2 : Nat) (m : MzM) (hw : mz_isW w = true) (hw2 : mz_isW w2 = true) : R_X2_copyFrom d w w2 m = some (mz_wr (mz_cp (mz_cp (mz_cp m (w2 + 1) 0 (w + 1) 0 404) (w2 + 2) 0 (w + 2) 0 56) (w2 + 3) 0 (w + 3) 0 4) w 4 (mz_rd (mz_cp (mz_cp (mz_cp m (w2 + 1) 0 (w + 1) 0 404) (w2 + 2) 0 (w + 2) 0 56) (w2 + 3) 0 (w + 3) 0 4) w2 4)) := by
  show mz_cV (mz_T d 16 0 (mz_en (mz_xl 16) [.ref w, .ref w2]) [] m) = _
  rw [show mz_en (mz_xl 16) [.ref w, .ref w2] = [some (.ref w), some (.ref w2)] from by rw [show mz_xl 16 = 2 from by decide +kernel]; rfl]
  refine q_o (mz_fe (e := (0, .aload_n 1, 1, (0, 0, 0), [])) (by decide +kernel)) (pc2 := 1) rfl ?_
  refine q_getR (b := (w2 + 1)) (mz_fe (e := (1, .getfield 11, 7, (2, 0, 2), [])) (by decide +kernel)) rfl (ls_t hw2) (by rw [(ls_l hw2)]; decide) (ls_r0 hw2) ?_
  refine q_ic (v := 0) (mz_fe (e := (4, .iconst 0, 1, (0, 0, 0), [])) (by decide +kernel)) (by decide) ?_
  refine q_o (mz_fe (e := (5, .aload_n 0, 1, (0, 0, 0), [])) (by decide +kernel)) (pc2 := 6) rfl ?_
  refine q_getR (b := (w + 1)) (mz_fe (e := (6, .getfield 11, 7, (2, 0, 2), [])) (by decide +kernel)) rfl (ls_t hw) (by rw [(ls_l hw)]; decide) (ls_r0 hw) ?_
  refine q_ic (v := 0) (mz_fe (e := (9, .iconst 0, 1, (0, 0, 0), [])) (by decide +kernel)) (by decide) ?_
  refine q_o (mz_fe (e := (10, .aload_n 0, 1, (0, 0, 0), [])) (by decide +kernel)) (pc2 := 11) rfl ?_
  refine q_getR (b := (w + 1)) (mz_fe (e := (11, .getfield 11, 7, (2, 0, 2), [])) (by decide +kernel)) rfl (ls_t hw) (by rw [(ls_l hw)]; decide) (ls_r0 hw) ?_
  refine q_alen (v := 404) (mz_fe (e := (14, .arraylength, 1, (0, 0, 0), [])) (by decide +kernel)) rfl (by omega) (by rw [(ls_ct hw)]; decide) (ls_cl hw) (by decide) ?_
  refine q_cpy (mz_fe (e := (15, .invokestatic 41, 6, (9998, 0, 0), [])) (by decide +kernel)) rfl (ls_ct hw2) (ls_ct hw) (ls_cl hw2) (ls_cl hw) (by decide) (sj := 0) (by decide) (dj := 0) (by decide) (nj := 404) (by decide) (by decide) (Nat.le_of_ble_eq_true rfl) ?_
  refine q_o (mz_fe (e := (18, .aload_n 1, 1, (0, 0, 0), [])) (by decide +kernel)) (pc2 := 19) rfl ?_
  refine q_getR (b := (w2 + 2)) (mz_fe (e := (19, .getfield 15, 8, (2, 1, 2), [])) (by decide +kernel)) rfl (ls_t hw2) (by rw [(ls_l hw2)]; decide) (ls_r1 hw2) ?_
  refine q_ic (v := 0) (mz_fe (e := (22, .iconst 0, 1, (0, 0, 0), [])) (by decide +kernel)) (by decide) ?_
  refine q_o (mz_fe (e := (23, .aload_n 0, 1, (0, 0, 0), [])) (by decide +kernel)) (pc2 := 24) rfl ?_
  refine q_getR (b := (w + 2)) (mz_fe (e := (24, .getfield 15, 8, (2, 1, 2), [])) (by decide +kernel)) rfl (ls_t hw) (by rw [(ls_l hw)]; decide) (ls_r1 hw) ?_
  refine q_ic (v := 0) (mz_fe (e := (27, .iconst 0, 1, (0, 0, 0), [])) (by decide +kernel)) (by decide) ?_
  refine q_o (mz_fe (e := (28, .aload_n 0, 1, (0, 0, 0), [])) (by decide +kernel)) (pc2 := 29) rfl ?_
  refine q_getR (b := (w + 2)) (mz_fe (e := (29, .getfield 15, 8, (2, 1, 2), [])) (by decide +kernel)) rfl (ls_t hw) (by rw [(ls_l hw)]; decide) (ls_r1 hw) ?_
  refine q_alen (v := 56) (mz_fe (e := (32, .arraylength, 1, (0, 0, 0), [])) (by decide +kernel)) rfl (by omega) (by rw [(ls_et hw)]; decide) (ls_el hw) (by decide) ?_
  refine q_cpy (mz_fe (e := (33, .invokestatic 41, 6, (9998, 0, 0), [])) (by decide +kernel)) rfl (ls_et hw2) (ls_et hw) (ls_el hw2) (ls_el hw) (by decide) (sj := 0) (by decide) (dj := 0) (by decide) (nj := 56) (by decide) (by decide) (Nat.le_of_ble_eq_true rfl) ?_
  refine q_o (mz_fe (e := (36, .aload_n 1, 1, (0, 0, 0), [])) (by decide +kernel)) (pc2 := 37) rfl ?_
  refine q_getR (b := (w2 + 3)) (mz_fe (e := (37, .getfield 18, 9, (2, 2, 2), [])) (by decide +kernel)) rfl (ls_t hw2) (by rw [(ls_l hw2)]; decide) (ls_r2 hw2) ?_
  refine q_ic (v := 0) (mz_fe (e := (40, .iconst 0, 1, (0, 0, 0), [])) (by decide +kernel)) (by decide) ?_
  refine q_o (mz_fe (e := (41, .aload_n 0, 1, (0, 0, 0), [])) (by decide +kernel)) (pc2 := 42) rfl ?_
  refine q_getR (b := (w + 3)) (mz_fe (e := (42, .getfield 18, 9, (2, 2, 2), [])) (by decide +kernel)) rfl (ls_t hw) (by rw [(ls_l hw)]; decide) (ls_r2 hw) ?_
  refine q_ic (v := 0) (mz_fe (e := (45, .iconst 0, 1, (0, 0, 0), [])) (by decide +kernel)) (by decide) ?_
  refine q_o (mz_fe (e := (46, .aload_n 0, 1, (0, 0, 0), [])) (by decide +kernel)) (pc2 := 47) rfl ?_
  refine q_getR (b := (w + 3)) (mz_fe (e := (47, .getfield 18, 9, (2, 2, 2), [])) (by decide +kernel)) rfl (ls_t hw) (by rw [(ls_l hw)]; decide) (ls_r2 hw) ?_
  refine q_alen (v := 4) (mz_fe (e := (50, .arraylength, 1, (0, 0, 0), [])) (by decide +kernel)) rfl (by omega) (by rw [(ls_pt hw)]; decide) (ls_pl hw) (by decide) ?_
  refine q_cpy (mz_fe (e := (51, .invokestatic 41, 6, (9998, 0, 0), [])) (by decide +kernel)) rfl (ls_pt hw2) (ls_pt hw) (ls_pl hw2) (ls_pl hw) (by decide) (sj := 0) (by decide) (dj := 0) (by decide) (nj := 4) (by decide) (by decide) (Nat.le_of_ble_eq_true rfl) ?_
  refine q_o (mz_fe (e := (54, .aload_n 0, 1, (0, 0, 0), [])) (by decide +kernel)) (pc2 := 55) rfl ?_
  refine q_o (mz_fe (e := (55, .aload_n 1, 1, (0, 0, 0), [])) (by decide +kernel)) (pc2 := 56) rfl ?_
  refine q_getI (mz_fe (e := (56, .getfield 24, 11, (2, 4, 0), [])) (by decide +kernel)) rfl (by decide) (ls_t hw2) (by rw [(ls_l hw2)]; decide) ?_
  refine q_putI (mz_fe (e := (59, .putfield 24, 11, (2, 4, 0), [])) (by decide +kernel)) rfl (ls_t hw) (by rw [(ls_l hw)]; decide) ?_
  exact q_retV (mz_fe (e := (62, .return_, 1, (0, 0, 0), [])) (by decide +kernel)) (by decide +kernel)
set_option maxRecDepth 10000 in
theorem R_X2_begin_eq (d : Nat) (w : Nat) (x0 : Int32) (m : MzM) (hw : mz_isW w = true) : R_X2_begin d w x0 m = mz_g (mz_ok x0 4) (mz_g (mz_ok (x0 * 14) 56) (some (mz_wr (mz_wr m (w + 3) (x0 : Int32).toNatClampNeg 0) (w + 2) ((x0 * 14) : Int32).toNatClampNeg (mz_rd (mz_wr m (w + 3) (x0 : Int32).toNatClampNeg 0) w 4)))) := by
  show mz_cV (mz_T d 17 0 (mz_en (mz_xl 17) [.ref w, .int x0]) [] m) = _
  rw [show mz_en (mz_xl 17) [.ref w, .int x0] = [some (.ref w), some (.int x0)] from by rw [show mz_xl 17 = 2 from by decide +kernel]; rfl]
  refine q_o (mz_fe (e := (0, .aload_n 0, 1, (0, 0, 0), [])) (by decide +kernel)) (pc2 := 1) rfl ?_
  refine q_getR (b := (w + 3)) (mz_fe (e := (1, .getfield 18, 9, (2, 2, 2), [])) (by decide +kernel)) rfl (ls_t hw) (by rw [(ls_l hw)]; decide) (ls_r2 hw) ?_
  refine q_o (mz_fe (e := (4, .iload_n 1, 1, (0, 0, 0), [])) (by decide +kernel)) (pc2 := 5) rfl ?_
  refine q_ic (v := 0) (mz_fe (e := (5, .iconst 0, 1, (0, 0, 0), [])) (by decide +kernel)) (by decide) ?_
  refine q_stAg (f := (fun x => x)) rfl (mz_fe (e := (6, .iastore, 1, (0, 0, 0), [])) (by decide +kernel)) (fun _ => rfl) rfl (ls_pt hw) (ls_pl hw) (fun g1 => ?_)
  refine q_o (mz_fe (e := (7, .aload_n 0, 1, (0, 0, 0), [])) (by decide +kernel)) (pc2 := 8) rfl ?_
  refine q_getR (b := (w + 2)) (mz_fe (e := (8, .getfield 15, 8, (2, 1, 2), [])) (by decide +kernel)) rfl (ls_t hw) (by rw [(ls_l hw)]; decide) (ls_r1 hw) ?_
  refine q_o (mz_fe (e := (11, .iload_n 1, 1, (0, 0, 0), [])) (by decide +kernel)) (pc2 := 12) rfl ?_
  refine q_bi (v := 14) (mz_fe (e := (12, .bipush 14, 2, (0, 0, 0), [])) (by decide +kernel)) (by decide) ?_
  refine q_o (mz_fe (e := (14, .imul, 1, (0, 0, 0), [])) (by decide +kernel)) (pc2 := 15) rfl ?_
  refine q_o (mz_fe (e := (15, .aload_n 0, 1, (0, 0, 0), [])) (by decide +kernel)) (pc2 := 16) rfl ?_
  refine q_getI (mz_fe (e := (16, .getfield 24, 11, (2, 4, 0), [])) (by decide +kernel)) rfl (by decide) (ls_t hw) (by rw [(ls_l hw)]; decide) ?_
  refine q_stAg (f := (fun x => x)) rfl (mz_fe (e := (19, .iastore, 1, (0, 0, 0), [])) (by decide +kernel)) (fun _ => rfl) rfl (ls_et hw) (ls_el hw) (fun g2 => ?_)
  exact q_retV (mz_fe (e := (20, .return_, 1, (0, 0, 0), [])) (by decide +kernel)) (by decide +kernel)
set_option maxRecDepth 10000 in
theorem R_X2_endPart_eq (d : Nat) (w : Nat) (x0 : Int32) (m : MzM) (hw : mz_isW w = true) : R_X2_endPart d w x0 m = mz_g (mz_ok x0 4) (if (13 : Int32) ≤ (mz_rd m (w + 3) (x0 : Int32).toNatClampNeg) then some m else (mz_g (mz_ok x0 4) (mz_g (mz_ok x0 4) (mz_g (mz_ok x0 4) (mz_g (mz_ok ((x0 * 14) + (mz_rd (mz_wr m (w + 3) (x0 : Int32).toNatClampNeg ((mz_rd m (w + 3) (x0 : Int32).toNatClampNeg) + 1)) (w + 3) (x0 : Int32).toNatClampNeg)) 56) (some (mz_wr (mz_wr m (w + 3) (x0 : Int32).toNatClampNeg ((mz_rd m (w + 3) (x0 : Int32).toNatClampNeg) + 1)) (w + 2) (((x0 * 14) + (mz_rd (mz_wr m (w + 3) (x0 : Int32).toNatClampNeg ((mz_rd m (w + 3) (x0 : Int32).toNatClampNeg) + 1)) (w + 3) (x0 : Int32).toNatClampNeg)) : Int32).toNatClampNeg (mz_rd (mz_wr m (w + 3) (x0 : Int32).toNatClampNeg ((mz_rd m (w + 3) (x0 : Int32).toNatClampNeg) + 1)) w 4)))))))) := by
  show mz_cV (mz_T d 18 0 (mz_en (mz_xl 18) [.ref w, .int x0]) [] m) = _
  rw [show mz_en (mz_xl 18) [.ref w, .int x0] = [some (.ref w), some (.int x0)] from by rw [show mz_xl 18 = 2 from by decide +kernel]; rfl]
  refine q_o (mz_fe (e := (0, .aload_n 0, 1, (0, 0, 0), [])) (by decide +kernel)) (pc2 := 1) rfl ?_
  refine q_getR (b := (w + 3)) (mz_fe (e := (1, .getfield 18, 9, (2, 2, 2), [])) (by decide +kernel)) rfl (ls_t hw) (by rw [(ls_l hw)]; decide) (ls_r2 hw) ?_
  refine q_o (mz_fe (e := (4, .iload_n 1, 1, (0, 0, 0), [])) (by decide +kernel)) (pc2 := 5) rfl ?_
  refine q_ialdg rfl (mz_fe (e := (5, .iaload, 1, (0, 0, 0), [])) (by decide +kernel)) rfl (by omega) (ls_pt hw) (ls_pl hw) (fun g1 => ?_)
  refine q_bi (v := 13) (mz_fe (e := (6, .bipush 13, 2, (0, 0, 0), [])) (by decide +kernel)) (by decide) ?_
  refine q_if (c := .ge) (off := 33) (t := 41) (x := (mz_rd m (w + 3) (x0 : Int32).toNatClampNeg)) (y := 13) (st := []) (mz_fe (e := (8, .if_icmp .ge 33, 3, (0, 0, 0), [])) (by decide +kernel)) (fun _ => rfl) rfl rfl rfl (fun c2 => ?_) (fun c2 => ?_)
  · exact q_retV (mz_fe (e := (41, .return_, 1, (0, 0, 0), [])) (by decide +kernel)) (by decide +kernel)
  · refine q_o (mz_fe (e := (11, .aload_n 0, 1, (0, 0, 0), [])) (by decide +kernel)) (pc2 := 12) rfl ?_
    refine q_getR (b := (w + 3)) (mz_fe (e := (12, .getfield 18, 9, (2, 2, 2), [])) (by decide +kernel)) rfl (ls_t hw) (by rw [(ls_l hw)]; decide) (ls_r2 hw) ?_
    refine q_o (mz_fe (e := (15, .iload_n 1, 1, (0, 0, 0), [])) (by decide +kernel)) (pc2 := 16) rfl ?_
    refine q_o (mz_fe (e := (16, .dup2, 1, (0, 0, 0), [])) (by decide +kernel)) (pc2 := 17) rfl ?_
    refine q_ialdg rfl (mz_fe (e := (17, .iaload, 1, (0, 0, 0), [])) (by decide +kernel)) rfl (by omega) (ls_pt hw) (ls_pl hw) (fun g3 => ?_)
    refine q_ic (v := 1) (mz_fe (e := (18, .iconst 1, 1, (0, 0, 0), [])) (by decide +kernel)) (by decide) ?_
    refine q_o (mz_fe (e := (19, .iadd, 1, (0, 0, 0), [])) (by decide +kernel)) (pc2 := 20) rfl ?_
    refine q_stAg (f := (fun x => x)) rfl (mz_fe (e := (20, .iastore, 1, (0, 0, 0), [])) (by decide +kernel)) (fun _ => rfl) rfl (ls_pt hw) (ls_pl hw) (fun g4 => ?_)
    refine q_o (mz_fe (e := (21, .aload_n 0, 1, (0, 0, 0), [])) (by decide +kernel)) (pc2 := 22) rfl ?_
    refine q_getR (b := (w + 2)) (mz_fe (e := (22, .getfield 15, 8, (2, 1, 2), [])) (by decide +kernel)) rfl (ls_t hw) (by rw [(ls_l hw)]; decide) (ls_r1 hw) ?_
    refine q_o (mz_fe (e := (25, .iload_n 1, 1, (0, 0, 0), [])) (by decide +kernel)) (pc2 := 26) rfl ?_
    refine q_bi (v := 14) (mz_fe (e := (26, .bipush 14, 2, (0, 0, 0), [])) (by decide +kernel)) (by decide) ?_
    refine q_o (mz_fe (e := (28, .imul, 1, (0, 0, 0), [])) (by decide +kernel)) (pc2 := 29) rfl ?_
    refine q_o (mz_fe (e := (29, .aload_n 0, 1, (0, 0, 0), [])) (by decide +kernel)) (pc2 := 30) rfl ?_
    refine q_getR (b := (w + 3)) (mz_fe (e := (30, .getfield 18, 9, (2, 2, 2), [])) (by decide +kernel)) rfl (ls_t hw) (by rw [(ls_l hw)]; decide) (ls_r2 hw) ?_
    refine q_o (mz_fe (e := (33, .iload_n 1, 1, (0, 0, 0), [])) (by decide +kernel)) (pc2 := 34) rfl ?_
    refine q_ialdg rfl (mz_fe (e := (34, .iaload, 1, (0, 0, 0), [])) (by decide +kernel)) rfl (by omega) (ls_pt hw) (ls_pl hw) (fun g5 => ?_)
    refine q_o (mz_fe (e := (35, .iadd, 1, (0, 0, 0), [])) (by decide +kernel)) (pc2 := 36) rfl ?_
    refine q_o (mz_fe (e := (36, .aload_n 0, 1, (0, 0, 0), [])) (by decide +kernel)) (pc2 := 37) rfl ?_
    refine q_getI (mz_fe (e := (37, .getfield 24, 11, (2, 4, 0), [])) (by decide +kernel)) rfl (by decide) (ls_t hw) (by rw [(ls_l hw)]; decide) ?_
    refine q_stAg (f := (fun x => x)) rfl (mz_fe (e := (40, .iastore, 1, (0, 0, 0), [])) (by decide +kernel)) (fun _ => rfl) rfl (ls_et hw) (ls_el hw) (fun g6 => ?_)
    exact q_retV (mz_fe (e := (41, .return_, 1, (0, 0, 0), [])) (by decide +kernel)) (by decide +kernel)
set_option maxRecDepth 10000 in
theorem R_X2_addInt_eq (d : Nat) (w : Nat) (x0 : Int32) (m : MzM) (hw : mz_isW w = true) : R_X2_addInt d w x0 m = (R_X2_addCell d w x0 m).bind (fun m1 => some m1) := by
  show mz_cV (mz_T d 19 0 (mz_en (mz_xl 19) [.ref w, .int x0]) [] m) = _
  rw [show mz_en (mz_xl 19) [.ref w, .int x0] = [some (.ref w), some (.int x0)] from by rw [show mz_xl 19 = 2 from by decide +kernel]; rfl]
  refine q_o (mz_fe (e := (0, .aload_n 0, 1, (0, 0, 0), [])) (by decide +kernel)) (pc2 := 1) rfl ?_
  refine q_o (mz_fe (e := (1, .iload_n 1, 1, (0, 0, 0), [])) (by decide +kernel)) (pc2 := 2) rfl ?_
  refine q_callV (N := 22) (vs := [.ref w, .int x0]) (rest := []) (L' := [some (.ref w), some (.int x0)]) rfl (mz_fe (e := (2, .invokevirtual 47, 13, (22, 2, 8), [])) (by decide +kernel)) rfl (mz_inv_virt (N := 22) (k := 2) (t := 8) (st := [.int x0, .ref w]) (rest := []) (b := w) (vs := [.int x0]) (h := (mz_S0, m)) rfl rfl (Nat.le_of_ble_eq_true rfl) (Nat.le_of_ble_eq_true rfl) (ls_t hw) (by decide)) (mz_dc_lt (n := 2) rfl (by decide +kernel) (by decide +kernel)) (by decide +kernel) (by decide +kernel) (fun m1 => ?_)
  exact q_retV (mz_fe (e := (5, .return_, 1, (0, 0, 0), [])) (by decide +kernel)) (by decide +kernel)
set_option maxRecDepth 10000 in
theorem R_X2_addVar_eq (d : Nat) (w : Nat) (x0 : Int32) (m : MzM) (hw : mz_isW w = true) : R_X2_addVar d w x0 m = (R_X2_addCell d w ((10000 : Int32) + x0) m).bind (fun m1 => some m1) := by
  show mz_cV (mz_T d 20 0 (mz_en (mz_xl 20) [.ref w, .int x0]) [] m) = _
  rw [show mz_en (mz_xl 20) [.ref w, .int x0] = [some (.ref w), some (.int x0)] from by rw [show mz_xl 20 = 2 from by decide +kernel]; rfl]
  refine q_o (mz_fe (e := (0, .aload_n 0, 1, (0, 0, 0), [])) (by decide +kernel)) (pc2 := 1) rfl ?_
  refine q_si (v := 10000) (mz_fe (e := (1, .sipush 10000, 3, (0, 0, 0), [])) (by decide +kernel)) (by decide) ?_
  refine q_o (mz_fe (e := (4, .iload_n 1, 1, (0, 0, 0), [])) (by decide +kernel)) (pc2 := 5) rfl ?_
  refine q_o (mz_fe (e := (5, .iadd, 1, (0, 0, 0), [])) (by decide +kernel)) (pc2 := 6) rfl ?_
  refine q_callV (N := 22) (vs := [.ref w, .int ((10000 : Int32) + x0)]) (rest := []) (L' := [some (.ref w), some (.int x0)]) rfl (mz_fe (e := (6, .invokevirtual 47, 13, (22, 2, 8), [])) (by decide +kernel)) rfl (mz_inv_virt (N := 22) (k := 2) (t := 8) (st := [.int ((10000 : Int32) + x0), .ref w]) (rest := []) (b := w) (vs := [.int ((10000 : Int32) + x0)]) (h := (mz_S0, m)) rfl rfl (Nat.le_of_ble_eq_true rfl) (Nat.le_of_ble_eq_true rfl) (ls_t hw) (by decide)) (mz_dc_lt (n := 2) rfl (by decide +kernel) (by decide +kernel)) (by decide +kernel) (by decide +kernel) (fun m1 => ?_)
  exact q_retV (mz_fe (e := (9, .return_, 1, (0, 0, 0), [])) (by decide +kernel)) (by decide +kernel)
set_option maxRecDepth 10000 in
theorem R_X2_addSign_eq (d : Nat) (w : Nat) (x0 : Int32) (m : MzM) (hw : mz_isW w = true) : R_X2_addSign d w x0 m = (R_X2_addCell d w ((10009 : Int32) + x0) m).bind (fun m1 => some m1) := by
  show mz_cV (mz_T d 21 0 (mz_en (mz_xl 21) [.ref w, .int x0]) [] m) = _
  rw [show mz_en (mz_xl 21) [.ref w, .int x0] = [some (.ref w), some (.int x0)] from by rw [show mz_xl 21 = 2 from by decide +kernel]; rfl]
  refine q_o (mz_fe (e := (0, .aload_n 0, 1, (0, 0, 0), [])) (by decide +kernel)) (pc2 := 1) rfl ?_
  refine q_si (v := 10009) (mz_fe (e := (1, .sipush 10009, 3, (0, 0, 0), [])) (by decide +kernel)) (by decide) ?_
  refine q_o (mz_fe (e := (4, .iload_n 1, 1, (0, 0, 0), [])) (by decide +kernel)) (pc2 := 5) rfl ?_
  refine q_o (mz_fe (e := (5, .iadd, 1, (0, 0, 0), [])) (by decide +kernel)) (pc2 := 6) rfl ?_
  refine q_callV (N := 22) (vs := [.ref w, .int ((10009 : Int32) + x0)]) (rest := []) (L' := [some (.ref w), some (.int x0)]) rfl (mz_fe (e := (6, .invokevirtual 47, 13, (22, 2, 8), [])) (by decide +kernel)) rfl (mz_inv_virt (N := 22) (k := 2) (t := 8) (st := [.int ((10009 : Int32) + x0), .ref w]) (rest := []) (b := w) (vs := [.int ((10009 : Int32) + x0)]) (h := (mz_S0, m)) rfl rfl (Nat.le_of_ble_eq_true rfl) (Nat.le_of_ble_eq_true rfl) (ls_t hw) (by decide)) (mz_dc_lt (n := 2) rfl (by decide +kernel) (by decide +kernel)) (by decide +kernel) (by decide +kernel) (fun m1 => ?_)
  exact q_retV (mz_fe (e := (9, .return_, 1, (0, 0, 0), [])) (by decide +kernel)) (by decide +kernel)
set_option maxRecDepth 10000 in
theorem R_X2_addCell_eq (d : Nat) (w : Nat) (x0 : Int32) (m : MzM) (hw : mz_isW w = true) : R_X2_addCell d w x0 m = if (404 : Int32) ≤ (mz_rd m w 4) then some m else (mz_g (mz_ok (mz_rd m w 4) 404) (some (mz_wr (mz_wr m (w + 1) ((mz_rd m w 4) : Int32).toNatClampNeg x0) w 4 ((mz_rd (mz_wr m (w + 1) ((mz_rd m w 4) : Int32).toNatClampNeg x0) w 4) + 1)))) := by
  show mz_cV (mz_T d 22 0 (mz_en (mz_xl 22) [.ref w, .int x0]) [] m) = _
  rw [show mz_en (mz_xl 22) [.ref w, .int x0] = [some (.ref w), some (.int x0)] from by rw [show mz_xl 22 = 2 from by decide +kernel]; rfl]
  refine q_o (mz_fe (e := (0, .aload_n 0, 1, (0, 0, 0), [])) (by decide +kernel)) (pc2 := 1) rfl ?_
  refine q_getI (mz_fe (e := (1, .getfield 24, 11, (2, 4, 0), [])) (by decide +kernel)) rfl (by decide) (ls_t hw) (by rw [(ls_l hw)]; decide) ?_
  refine q_o (mz_fe (e := (4, .aload_n 0, 1, (0, 0, 0), [])) (by decide +kernel)) (pc2 := 5) rfl ?_
  refine q_getR (b := (w + 1)) (mz_fe (e := (5, .getfield 11, 7, (2, 0, 2), [])) (by decide +kernel)) rfl (ls_t hw) (by rw [(ls_l hw)]; decide) (ls_r0 hw) ?_
  refine q_alen (v := 404) (mz_fe (e := (8, .arraylength, 1, (0, 0, 0), [])) (by decide +kernel)) rfl (by omega) (by rw [(ls_ct hw)]; decide) (ls_cl hw) (by decide) ?_
  refine q_if (c := .ge) (off := 23) (t := 32) (x := (mz_rd m w 4)) (y := 404) (st := []) (mz_fe (e := (9, .if_icmp .ge 23, 3, (0, 0, 0), [])) (by decide +kernel)) (fun _ => rfl) rfl rfl rfl (fun c1 => ?_) (fun c1 => ?_)
  · exact q_retV (mz_fe (e := (32, .return_, 1, (0, 0, 0), [])) (by decide +kernel)) (by decide +kernel)
  · refine q_o (mz_fe (e := (12, .aload_n 0, 1, (0, 0, 0), [])) (by decide +kernel)) (pc2 := 13) rfl ?_
    refine q_getR (b := (w + 1)) (mz_fe (e := (13, .getfield 11, 7, (2, 0, 2), [])) (by decide +kernel)) rfl (ls_t hw) (by rw [(ls_l hw)]; decide) (ls_r0 hw) ?_
    refine q_o (mz_fe (e := (16, .aload_n 0, 1, (0, 0, 0), [])) (by decide +kernel)) (pc2 := 17) rfl ?_
    refine q_getI (mz_fe (e := (17, .getfield 24, 11, (2, 4, 0), [])) (by decide +kernel)) rfl (by decide) (ls_t hw) (by rw [(ls_l hw)]; decide) ?_
    refine q_o (mz_fe (e := (20, .iload_n 1, 1, (0, 0, 0), [])) (by decide +kernel)) (pc2 := 21) rfl ?_
    refine q_stAg (f := (fun x => x)) rfl (mz_fe (e := (21, .iastore, 1, (0, 0, 0), [])) (by decide +kernel)) (fun _ => rfl) rfl (ls_ct hw) (ls_cl hw) (fun g2 => ?_)
    refine q_o (mz_fe (e := (22, .aload_n 0, 1, (0, 0, 0), [])) (by decide +kernel)) (pc2 := 23) rfl ?_
    refine q_o (mz_fe (e := (23, .dup, 1, (0, 0, 0), [])) (by decide +kernel)) (pc2 := 24) rfl ?_
    refine q_getI (mz_fe (e := (24, .getfield 24, 11, (2, 4, 0), [])) (by decide +kernel)) rfl (by decide) (ls_t hw) (by rw [(ls_l hw)]; decide) ?_
    refine q_ic (v := 1) (mz_fe (e := (27, .iconst 1, 1, (0, 0, 0), [])) (by decide +kernel)) (by decide) ?_
    refine q_o (mz_fe (e := (28, .iadd, 1, (0, 0, 0), [])) (by decide +kernel)) (pc2 := 29) rfl ?_
    refine q_putI (mz_fe (e := (29, .putfield 24, 11, (2, 4, 0), [])) (by decide +kernel)) rfl (ls_t hw) (by rw [(ls_l hw)]; decide) ?_
    exact q_retV (mz_fe (e := (32, .return_, 1, (0, 0, 0), [])) (by decide +kernel)) (by decide +kernel)
set_option maxRecDepth 10000 in
theorem R_X2_value_eq (d : Nat) (w : Nat) (x0 : Int32) (m : MzM) (hw : mz_isW w = true) : R_X2_value d w x0 m = mz_g (mz_ok x0 4) (H_X2_value_23 d w x0 ((mz_rd (mz_wr m w 5 0) (w + 3) (x0 : Int32).toNatClampNeg) - 1) 0 0 0 (mz_wr m w 5 0)) := by
  show mz_cI (mz_T d 23 0 (mz_en (mz_xl 23) [.ref w, .int x0, .ref 28]) [] m) = _
  rw [show mz_en (mz_xl 23) [.ref w, .int x0, .ref 28] = [some (.ref w), some (.int x0), some (.ref 28), none, none, none, none] from by rw [show mz_xl 23 = 7 from by decide +kernel]; rfl]
  refine q_o (mz_fe (e := (0, .aload_n 0, 1, (0, 0, 0), [])) (by decide +kernel)) (pc2 := 1) rfl ?_
  refine q_ic (v := 0) (mz_fe (e := (1, .iconst 0, 1, (0, 0, 0), [])) (by decide +kernel)) (by decide) ?_
  refine q_putZ (mz_fe (e := (2, .putfield 50, 12, (2, 5, 1), [])) (by decide +kernel)) rfl (ls_t hw) (by rw [(ls_l hw)]; decide) (by decide) ?_
  refine q_o (mz_fe (e := (5, .aload_n 0, 1, (0, 0, 0), [])) (by decide +kernel)) (pc2 := 6) rfl ?_
  refine q_getR (b := (w + 3)) (mz_fe (e := (6, .getfield 18, 9, (2, 2, 2), [])) (by decide +kernel)) rfl (ls_t hw) (by rw [(ls_l hw)]; decide) (ls_r2 hw) ?_
  refine q_o (mz_fe (e := (9, .iload_n 1, 1, (0, 0, 0), [])) (by decide +kernel)) (pc2 := 10) rfl ?_
  refine q_ialdg rfl (mz_fe (e := (10, .iaload, 1, (0, 0, 0), [])) (by decide +kernel)) rfl (by omega) (ls_pt hw) (ls_pl hw) (fun g1 => ?_)
  refine q_ic (v := 1) (mz_fe (e := (11, .iconst 1, 1, (0, 0, 0), [])) (by decide +kernel)) (by decide) ?_
  refine q_o (mz_fe (e := (12, .isub, 1, (0, 0, 0), [])) (by decide +kernel)) (pc2 := 13) rfl ?_
  refine q_s (mz_fe (e := (13, .istore_n 3, 1, (0, 0, 0), [])) (by decide +kernel)) (pc' := 14) (L' := [some (.ref w), some (.int x0), some (.ref 28), some (.int ((mz_rd (mz_wr m w 5 0) (w + 3) (x0 : Int32).toNatClampNeg) - 1)), none, none, none]) (st' := []) rfl ?_
  refine q_ic (v := 0) (mz_fe (e := (14, .iconst 0, 1, (0, 0, 0), [])) (by decide +kernel)) (by decide) ?_
  refine q_s (mz_fe (e := (15, .istore 4, 2, (0, 0, 0), [])) (by decide +kernel)) (pc' := 17) (L' := [some (.ref w), some (.int x0), some (.ref 28), some (.int ((mz_rd (mz_wr m w 5 0) (w + 3) (x0 : Int32).toNatClampNeg) - 1)), some (.int 0), none, none]) (st' := []) rfl ?_
  refine q_ic (v := 0) (mz_fe (e := (17, .iconst 0, 1, (0, 0, 0), [])) (by decide +kernel)) (by decide) ?_
  refine q_s (mz_fe (e := (18, .istore 5, 2, (0, 0, 0), [])) (by decide +kernel)) (pc' := 20) (L' := [some (.ref w), some (.int x0), some (.ref 28), some (.int ((mz_rd (mz_wr m w 5 0) (w + 3) (x0 : Int32).toNatClampNeg) - 1)), some (.int 0), some (.int 0), none]) (st' := []) rfl ?_
  refine q_ic (v := 0) (mz_fe (e := (20, .iconst 0, 1, (0, 0, 0), [])) (by decide +kernel)) (by decide) ?_
  refine q_s (mz_fe (e := (21, .istore 6, 2, (0, 0, 0), [])) (by decide +kernel)) (pc' := 23) (L' := [some (.ref w), some (.int x0), some (.ref 28), some (.int ((mz_rd (mz_wr m w 5 0) (w + 3) (x0 : Int32).toNatClampNeg) - 1)), some (.int 0), some (.int 0), some (.int 0)]) (st' := []) rfl ?_
  exact congrArg mz_cI (mz_At_msk (L := [some (.ref w), some (.int x0), some (.ref 28), some (.int ((mz_rd (mz_wr m w 5 0) (w + 3) (x0 : Int32).toNatClampNeg) - 1)), some (.int 0), some (.int 0), some (.int 0)]) (L2 := [some (.ref w), some (.int x0), some (.ref 28), some (.int ((mz_rd (mz_wr m w 5 0) (w + 3) (x0 : Int32).toNatClampNeg) - 1)), some (.int 0), some (.int 0), some (.int 0)]) (mz_fe (e := (23, .iload 6, 2, (0, 0, 0), [true, true, true, true, true, true, true])) (by decide +kernel)) rfl rfl)
set_option maxRecDepth 10000 in
theorem H_X2_value_23_eq (d : Nat) (a0 : Nat) (y1 : Int32) (y3 : Int32) (y4 : Int32) (y5 : Int32) (y6 : Int32) (m : MzM) (ha0 : mz_isW a0 = true) : H_X2_value_23 d a0 y1 y3 y4 y5 y6 m = if (4 : Int32) ≤ y6 then ((R_X2_partValue d a0 y1 y4 m).bind (fun u5 => if (mz_rd u5.2 a0 5) = 0 then (some (u5.1, u5.2)) else (some (0, u5.2)))) else (if y3 ≤ y4 then ((R_X2_partValue d a0 y1 y4 m).bind (fun u10 => if (mz_rd u10.2 a0 5) = 0 then (some (u10.1, u10.2)) else (some (0, u10.2)))) else (if ¬ y5 = 0 then ((R_X2_partValue d a0 y1 y4 m).bind (fun u15 => if (mz_rd u15.2 a0 5) = 0 then (some (u15.1, u15.2)) else (some (0, u15.2)))) else ((R_X2_partValue d a0 y1 y4 m).bind (fun u19 => (R_X2_partValue d a0 y1 (y4 + 1) u19.2).bind (fun u22 => if u22.1 ≤ u19.1 then (H_X2_value_23 d a0 y1 y3 (y4 + 3) y5 (y6 + 1) u22.2) else (H_X2_value_23 d a0 y1 y3 (y4 + 2) 1 (y6 + 1) u22.2)))))) := by
  show mz_cI (mz_T d 23 23 [some (.ref a0), some (.int y1), some (.ref 28), some (.int y3), some (.int y4), some (.int y5), some (.int y6)] [] m) = _
  refine q_s (mz_fe (e := (23, .iload 6, 2, (0, 0, 0), [true, true, true, true, true, true, true])) (by decide +kernel)) (pc' := 25) (L' := [some (.ref a0), some (.int y1), some (.ref 28), some (.int y3), some (.int y4), some (.int y5), some (.int y6)]) (st' := [.int y6]) rfl ?_
  refine q_ic (v := 4) (mz_fe (e := (25, .iconst 4, 1, (0, 0, 0), [])) (by decide +kernel)) (by decide) ?_
  refine q_if (c := .ge) (off := 53) (t := 79) (x := y6) (y := 4) (st := []) (mz_fe (e := (26, .if_icmp .ge 53, 3, (0, 0, 0), [])) (by decide +kernel)) (fun _ => rfl) rfl rfl rfl (fun c2 => ?_) (fun c2 => ?_)
  · refine q_o (mz_fe (e := (79, .aload_n 0, 1, (0, 0, 0), [])) (by decide +kernel)) (pc2 := 80) rfl ?_
    refine q_o (mz_fe (e := (80, .iload_n 1, 1, (0, 0, 0), [])) (by decide +kernel)) (pc2 := 81) rfl ?_
    refine q_o (mz_fe (e := (81, .iload 4, 2, (0, 0, 0), [])) (by decide +kernel)) (pc2 := 83) rfl ?_
    refine q_o (mz_fe (e := (83, .aload_n 2, 1, (0, 0, 0), [])) (by decide +kernel)) (pc2 := 84) rfl ?_
    refine q_callI (N := 24) (vs := [.ref a0, .int y1, .int y4, .ref 28]) (rest := []) (L' := [some (.ref a0), some (.int y1), some (.ref 28), some (.int y3), some (.int y4), some (.int y5), some (.int y6)]) (f := fun v4 m3 => if (mz_rd m3 a0 5) = 0 then (some (v4, m3)) else (some (0, m3))) rfl (mz_fe (e := (84, .invokevirtual 54, 14, (24, 4, 8), [])) (by decide +kernel)) rfl (mz_inv_virt (N := 24) (k := 4) (t := 8) (st := [.ref 28, .int y4, .int y1, .ref a0]) (rest := []) (b := a0) (vs := [.int y1, .int y4, .ref 28]) (h := (mz_S0, m)) rfl rfl (Nat.le_of_ble_eq_true rfl) (Nat.le_of_ble_eq_true rfl) (ls_t ha0) (by decide)) (mz_dc_lt (n := 4) rfl (by decide +kernel) (by decide +kernel)) (by decide +kernel) (Or.inl (by decide +kernel)) (fun v4 m3 => ?_)
    refine q_s (mz_fe (e := (87, .istore 6, 2, (0, 0, 0), [])) (by decide +kernel)) (pc' := 89) (L' := [some (.ref a0), some (.int y1), some (.ref 28), some (.int y3), some (.int y4), some (.int y5), some (.int v4)]) (st' := []) rfl ?_
    refine q_o (mz_fe (e := (89, .aload_n 0, 1, (0, 0, 0), [])) (by decide +kernel)) (pc2 := 90) rfl ?_
    refine q_getI (mz_fe (e := (90, .getfield 50, 12, (2, 5, 1), [])) (by decide +kernel)) rfl (by decide) (ls_t ha0) (by rw [(ls_l ha0)]; decide) ?_
    refine q_if (c := .eq) (off := 7) (t := 100) (x := (mz_rd m3 a0 5)) (y := 0) (st := []) (mz_fe (e := (93, .ifCond .eq 7, 3, (0, 0, 0), [])) (by decide +kernel)) (fun _ => rfl) rfl rfl rfl (fun c6 => ?_) (fun c6 => ?_)
    · refine q_o (mz_fe (e := (100, .iload 6, 2, (0, 0, 0), [])) (by decide +kernel)) (pc2 := 102) rfl ?_
      exact q_retI (mz_fe (e := (102, .ireturn, 1, (0, 0, 0), [])) (by decide +kernel)) (by decide +kernel)
    · refine q_ic (v := 0) (mz_fe (e := (96, .iconst 0, 1, (0, 0, 0), [])) (by decide +kernel)) (by decide) ?_
      refine q_o (mz_fe (e := (97, .goto 5, 3, (0, 0, 0), [])) (by decide +kernel)) (pc2 := 102) rfl ?_
      exact q_retI (mz_fe (e := (102, .ireturn, 1, (0, 0, 0), [])) (by decide +kernel)) (by decide +kernel)
  · refine q_o (mz_fe (e := (29, .iload 4, 2, (0, 0, 0), [])) (by decide +kernel)) (pc2 := 31) rfl ?_
    refine q_o (mz_fe (e := (31, .iload_n 3, 1, (0, 0, 0), [])) (by decide +kernel)) (pc2 := 32) rfl ?_
    refine q_if (c := .ge) (off := 47) (t := 79) (x := y4) (y := y3) (st := []) (mz_fe (e := (32, .if_icmp .ge 47, 3, (0, 0, 0), [])) (by decide +kernel)) (fun _ => rfl) rfl rfl rfl (fun c7 => ?_) (fun c7 => ?_)
    · refine q_o (mz_fe (e := (79, .aload_n 0, 1, (0, 0, 0), [])) (by decide +kernel)) (pc2 := 80) rfl ?_
      refine q_o (mz_fe (e := (80, .iload_n 1, 1, (0, 0, 0), [])) (by decide +kernel)) (pc2 := 81) rfl ?_
      refine q_o (mz_fe (e := (81, .iload 4, 2, (0, 0, 0), [])) (by decide +kernel)) (pc2 := 83) rfl ?_
      refine q_o (mz_fe (e := (83, .aload_n 2, 1, (0, 0, 0), [])) (by decide +kernel)) (pc2 := 84) rfl ?_
      refine q_callI (N := 24) (vs := [.ref a0, .int y1, .int y4, .ref 28]) (rest := []) (L' := [some (.ref a0), some (.int y1), some (.ref 28), some (.int y3), some (.int y4), some (.int y5), some (.int y6)]) (f := fun v9 m8 => if (mz_rd m8 a0 5) = 0 then (some (v9, m8)) else (some (0, m8))) rfl (mz_fe (e := (84, .invokevirtual 54, 14, (24, 4, 8), [])) (by decide +kernel)) rfl (mz_inv_virt (N := 24) (k := 4) (t := 8) (st := [.ref 28, .int y4, .int y1, .ref a0]) (rest := []) (b := a0) (vs := [.int y1, .int y4, .ref 28]) (h := (mz_S0, m)) rfl rfl (Nat.le_of_ble_eq_true rfl) (Nat.le_of_ble_eq_true rfl) (ls_t ha0) (by decide)) (mz_dc_lt (n := 4) rfl (by decide +kernel) (by decide +kernel)) (by decide +kernel) (Or.inl (by decide +kernel)) (fun v9 m8 => ?_)
      refine q_s (mz_fe (e := (87, .istore 6, 2, (0, 0, 0), [])) (by decide +kernel)) (pc' := 89) (L' := [some (.ref a0), some (.int y1), some (.ref 28), some (.int y3), some (.int y4), some (.int y5), some (.int v9)]) (st' := []) rfl ?_
      refine q_o (mz_fe (e := (89, .aload_n 0, 1, (0, 0, 0), [])) (by decide +kernel)) (pc2 := 90) rfl ?_
      refine q_getI (mz_fe (e := (90, .getfield 50, 12, (2, 5, 1), [])) (by decide +kernel)) rfl (by decide) (ls_t ha0) (by rw [(ls_l ha0)]; decide) ?_
      refine q_if (c := .eq) (off := 7) (t := 100) (x := (mz_rd m8 a0 5)) (y := 0) (st := []) (mz_fe (e := (93, .ifCond .eq 7, 3, (0, 0, 0), [])) (by decide +kernel)) (fun _ => rfl) rfl rfl rfl (fun c11 => ?_) (fun c11 => ?_)
      · refine q_o (mz_fe (e := (100, .iload 6, 2, (0, 0, 0), [])) (by decide +kernel)) (pc2 := 102) rfl ?_
        exact q_retI (mz_fe (e := (102, .ireturn, 1, (0, 0, 0), [])) (by decide +kernel)) (by decide +kernel)
      · refine q_ic (v := 0) (mz_fe (e := (96, .iconst 0, 1, (0, 0, 0), [])) (by decide +kernel)) (by decide) ?_
        refine q_o (mz_fe (e := (97, .goto 5, 3, (0, 0, 0), [])) (by decide +kernel)) (pc2 := 102) rfl ?_
        exact q_retI (mz_fe (e := (102, .ireturn, 1, (0, 0, 0), [])) (by decide +kernel)) (by decide +kernel)
    · refine q_o (mz_fe (e := (35, .iload 5, 2, (0, 0, 0), [])) (by decide +kernel)) (pc2 := 37) rfl ?_
      refine q_if (c := .ne) (off := 42) (t := 79) (x := y5) (y := 0) (st := []) (mz_fe (e := (37, .ifCond .ne 42, 3, (0, 0, 0), [])) (by decide +kernel)) (fun _ => rfl) rfl rfl rfl (fun c12 => ?_) (fun c12 => ?_)
      · refine q_o (mz_fe (e := (79, .aload_n 0, 1, (0, 0, 0), [])) (by decide +kernel)) (pc2 := 80) rfl ?_
        refine q_o (mz_fe (e := (80, .iload_n 1, 1, (0, 0, 0), [])) (by decide +kernel)) (pc2 := 81) rfl ?_
        refine q_o (mz_fe (e := (81, .iload 4, 2, (0, 0, 0), [])) (by decide +kernel)) (pc2 := 83) rfl ?_
        refine q_o (mz_fe (e := (83, .aload_n 2, 1, (0, 0, 0), [])) (by decide +kernel)) (pc2 := 84) rfl ?_
        refine q_callI (N := 24) (vs := [.ref a0, .int y1, .int y4, .ref 28]) (rest := []) (L' := [some (.ref a0), some (.int y1), some (.ref 28), some (.int y3), some (.int y4), some (.int y5), some (.int y6)]) (f := fun v14 m13 => if (mz_rd m13 a0 5) = 0 then (some (v14, m13)) else (some (0, m13))) rfl (mz_fe (e := (84, .invokevirtual 54, 14, (24, 4, 8), [])) (by decide +kernel)) rfl (mz_inv_virt (N := 24) (k := 4) (t := 8) (st := [.ref 28, .int y4, .int y1, .ref a0]) (rest := []) (b := a0) (vs := [.int y1, .int y4, .ref 28]) (h := (mz_S0, m)) rfl rfl (Nat.le_of_ble_eq_true rfl) (Nat.le_of_ble_eq_true rfl) (ls_t ha0) (by decide)) (mz_dc_lt (n := 4) rfl (by decide +kernel) (by decide +kernel)) (by decide +kernel) (Or.inl (by decide +kernel)) (fun v14 m13 => ?_)
        refine q_s (mz_fe (e := (87, .istore 6, 2, (0, 0, 0), [])) (by decide +kernel)) (pc' := 89) (L' := [some (.ref a0), some (.int y1), some (.ref 28), some (.int y3), some (.int y4), some (.int y5), some (.int v14)]) (st' := []) rfl ?_
        refine q_o (mz_fe (e := (89, .aload_n 0, 1, (0, 0, 0), [])) (by decide +kernel)) (pc2 := 90) rfl ?_
        refine q_getI (mz_fe (e := (90, .getfield 50, 12, (2, 5, 1), [])) (by decide +kernel)) rfl (by decide) (ls_t ha0) (by rw [(ls_l ha0)]; decide) ?_
        refine q_if (c := .eq) (off := 7) (t := 100) (x := (mz_rd m13 a0 5)) (y := 0) (st := []) (mz_fe (e := (93, .ifCond .eq 7, 3, (0, 0, 0), [])) (by decide +kernel)) (fun _ => rfl) rfl rfl rfl (fun c16 => ?_) (fun c16 => ?_)
        · refine q_o (mz_fe (e := (100, .iload 6, 2, (0, 0, 0), [])) (by decide +kernel)) (pc2 := 102) rfl ?_
          exact q_retI (mz_fe (e := (102, .ireturn, 1, (0, 0, 0), [])) (by decide +kernel)) (by decide +kernel)
        · refine q_ic (v := 0) (mz_fe (e := (96, .iconst 0, 1, (0, 0, 0), [])) (by decide +kernel)) (by decide) ?_
          refine q_o (mz_fe (e := (97, .goto 5, 3, (0, 0, 0), [])) (by decide +kernel)) (pc2 := 102) rfl ?_
          exact q_retI (mz_fe (e := (102, .ireturn, 1, (0, 0, 0), [])) (by decide +kernel)) (by decide +kernel)
      · refine q_o (mz_fe (e := (40, .aload_n 0, 1, (0, 0, 0), [])) (by decide +kernel)) (pc2 := 41) rfl ?_
        refine q_o (mz_fe (e := (41, .iload_n 1, 1, (0, 0, 0), [])) (by decide +kernel)) (pc2 := 42) rfl ?_
        refine q_o (mz_fe (e := (42, .iload 4, 2, (0, 0, 0), [])) (by decide +kernel)) (pc2 := 44) rfl ?_
        refine q_o (mz_fe (e := (44, .aload_n 2, 1, (0, 0, 0), [])) (by decide +kernel)) (pc2 := 45) rfl ?_
        refine q_callI (N := 24) (vs := [.ref a0, .int y1, .int y4, .ref 28]) (rest := []) (L' := [some (.ref a0), some (.int y1), some (.ref 28), some (.int y3), some (.int y4), some (.int y5), some (.int y6)]) (f := fun v18 m17 => (R_X2_partValue d a0 y1 (y4 + 1) m17).bind (fun u22 => if u22.1 ≤ v18 then (H_X2_value_23 d a0 y1 y3 (y4 + 3) y5 (y6 + 1) u22.2) else (H_X2_value_23 d a0 y1 y3 (y4 + 2) 1 (y6 + 1) u22.2))) rfl (mz_fe (e := (45, .invokevirtual 54, 14, (24, 4, 8), [])) (by decide +kernel)) rfl (mz_inv_virt (N := 24) (k := 4) (t := 8) (st := [.ref 28, .int y4, .int y1, .ref a0]) (rest := []) (b := a0) (vs := [.int y1, .int y4, .ref 28]) (h := (mz_S0, m)) rfl rfl (Nat.le_of_ble_eq_true rfl) (Nat.le_of_ble_eq_true rfl) (ls_t ha0) (by decide)) (mz_dc_lt (n := 4) rfl (by decide +kernel) (by decide +kernel)) (by decide +kernel) (Or.inl (by decide +kernel)) (fun v18 m17 => ?_)
        refine q_o (mz_fe (e := (48, .aload_n 0, 1, (0, 0, 0), [])) (by decide +kernel)) (pc2 := 49) rfl ?_
        refine q_o (mz_fe (e := (49, .iload_n 1, 1, (0, 0, 0), [])) (by decide +kernel)) (pc2 := 50) rfl ?_
        refine q_o (mz_fe (e := (50, .iload 4, 2, (0, 0, 0), [])) (by decide +kernel)) (pc2 := 52) rfl ?_
        refine q_ic (v := 1) (mz_fe (e := (52, .iconst 1, 1, (0, 0, 0), [])) (by decide +kernel)) (by decide) ?_
        refine q_o (mz_fe (e := (53, .iadd, 1, (0, 0, 0), [])) (by decide +kernel)) (pc2 := 54) rfl ?_
        refine q_o (mz_fe (e := (54, .aload_n 2, 1, (0, 0, 0), [])) (by decide +kernel)) (pc2 := 55) rfl ?_
        refine q_callI (N := 24) (vs := [.ref a0, .int y1, .int (y4 + 1), .ref 28]) (rest := [.int v18]) (L' := [some (.ref a0), some (.int y1), some (.ref 28), some (.int y3), some (.int y4), some (.int y5), some (.int y6)]) (f := fun v21 m20 => if v21 ≤ v18 then (H_X2_value_23 d a0 y1 y3 (y4 + 3) y5 (y6 + 1) m20) else (H_X2_value_23 d a0 y1 y3 (y4 + 2) 1 (y6 + 1) m20)) rfl (mz_fe (e := (55, .invokevirtual 54, 14, (24, 4, 8), [])) (by decide +kernel)) rfl (mz_inv_virt (N := 24) (k := 4) (t := 8) (st := [.ref 28, .int (y4 + 1), .int y1, .ref a0, .int v18]) (rest := [.int v18]) (b := a0) (vs := [.int y1, .int (y4 + 1), .ref 28]) (h := (mz_S0, m17)) rfl rfl (Nat.le_of_ble_eq_true rfl) (Nat.le_of_ble_eq_true rfl) (ls_t ha0) (by decide)) (mz_dc_lt (n := 4) rfl (by decide +kernel) (by decide +kernel)) (by decide +kernel) (Or.inl (by decide +kernel)) (fun v21 m20 => ?_)
        refine q_if (c := .ge) (off := 12) (t := 70) (x := v18) (y := v21) (st := []) (mz_fe (e := (58, .if_icmp .ge 12, 3, (0, 0, 0), [])) (by decide +kernel)) (fun _ => rfl) rfl rfl rfl (fun c23 => ?_) (fun c23 => ?_)
        · refine q_iinc (v := y4) (c := 3) (L3 := [some (.ref a0), some (.int y1), some (.ref 28), some (.int y3), some (.int (y4 + 3)), some (.int y5), some (.int y6)]) (mz_fe (e := (70, .iinc 4 3, 3, (0, 0, 0), [])) (by decide +kernel)) rfl rfl (by decide) rfl ?_
          refine q_iinc (v := y6) (c := 1) (L3 := [some (.ref a0), some (.int y1), some (.ref 28), some (.int y3), some (.int (y4 + 3)), some (.int y5), some (.int (y6 + 1))]) (mz_fe (e := (73, .iinc 6 1, 3, (0, 0, 0), [])) (by decide +kernel)) rfl rfl (by decide) rfl ?_
          refine q_o (mz_fe (e := (76, .goto (-53), 3, (0, 0, 0), [])) (by decide +kernel)) (pc2 := 23) rfl ?_
          exact congrArg mz_cI (mz_At_msk (L := [some (.ref a0), some (.int y1), some (.ref 28), some (.int y3), some (.int (y4 + 3)), some (.int y5), some (.int (y6 + 1))]) (L2 := [some (.ref a0), some (.int y1), some (.ref 28), some (.int y3), some (.int (y4 + 3)), some (.int y5), some (.int (y6 + 1))]) (mz_fe (e := (23, .iload 6, 2, (0, 0, 0), [true, true, true, true, true, true, true])) (by decide +kernel)) rfl rfl)
        · refine q_iinc (v := y4) (c := 2) (L3 := [some (.ref a0), some (.int y1), some (.ref 28), some (.int y3), some (.int (y4 + 2)), some (.int y5), some (.int y6)]) (mz_fe (e := (61, .iinc 4 2, 3, (0, 0, 0), [])) (by decide +kernel)) rfl rfl (by decide) rfl ?_
          refine q_ic (v := 1) (mz_fe (e := (64, .iconst 1, 1, (0, 0, 0), [])) (by decide +kernel)) (by decide) ?_
          refine q_s (mz_fe (e := (65, .istore 5, 2, (0, 0, 0), [])) (by decide +kernel)) (pc' := 67) (L' := [some (.ref a0), some (.int y1), some (.ref 28), some (.int y3), some (.int (y4 + 2)), some (.int 1), some (.int y6)]) (st' := []) rfl ?_
          refine q_o (mz_fe (e := (67, .goto 6, 3, (0, 0, 0), [])) (by decide +kernel)) (pc2 := 73) rfl ?_
          refine q_iinc (v := y6) (c := 1) (L3 := [some (.ref a0), some (.int y1), some (.ref 28), some (.int y3), some (.int (y4 + 2)), some (.int 1), some (.int (y6 + 1))]) (mz_fe (e := (73, .iinc 6 1, 3, (0, 0, 0), [])) (by decide +kernel)) rfl rfl (by decide) rfl ?_
          refine q_o (mz_fe (e := (76, .goto (-53), 3, (0, 0, 0), [])) (by decide +kernel)) (pc2 := 23) rfl ?_
          exact congrArg mz_cI (mz_At_msk (L := [some (.ref a0), some (.int y1), some (.ref 28), some (.int y3), some (.int (y4 + 2)), some (.int 1), some (.int (y6 + 1))]) (L2 := [some (.ref a0), some (.int y1), some (.ref 28), some (.int y3), some (.int (y4 + 2)), some (.int 1), some (.int (y6 + 1))]) (mz_fe (e := (23, .iload 6, 2, (0, 0, 0), [true, true, true, true, true, true, true])) (by decide +kernel)) rfl rfl)
set_option maxRecDepth 10000 in
theorem R_X2_partValue_eq (d : Nat) (w : Nat) (x0 : Int32) (x1 : Int32) (m : MzM) (hw : mz_isW w = true) : R_X2_partValue d w x0 x1 m = mz_g (mz_ok ((x0 * 14) + x1) 56) (H_X2_partValue_20 d w ((x0 * 14) + x1) 0 (mz_rd m (w + 2) (((x0 * 14) + x1) : Int32).toNatClampNeg) m) := by
  show mz_cI (mz_T d 24 0 (mz_en (mz_xl 24) [.ref w, .int x0, .int x1, .ref 28]) [] m) = _
  rw [show mz_en (mz_xl 24) [.ref w, .int x0, .int x1, .ref 28] = [some (.ref w), some (.int x0), some (.int x1), some (.ref 28), none, none, none, none, none, none] from by rw [show mz_xl 24 = 10 from by decide +kernel]; rfl]
  refine q_o (mz_fe (e := (0, .iload_n 1, 1, (0, 0, 0), [])) (by decide +kernel)) (pc2 := 1) rfl ?_
  refine q_bi (v := 14) (mz_fe (e := (1, .bipush 14, 2, (0, 0, 0), [])) (by decide +kernel)) (by decide) ?_
  refine q_o (mz_fe (e := (3, .imul, 1, (0, 0, 0), [])) (by decide +kernel)) (pc2 := 4) rfl ?_
  refine q_o (mz_fe (e := (4, .iload_n 2, 1, (0, 0, 0), [])) (by decide +kernel)) (pc2 := 5) rfl ?_
  refine q_o (mz_fe (e := (5, .iadd, 1, (0, 0, 0), [])) (by decide +kernel)) (pc2 := 6) rfl ?_
  refine q_s (mz_fe (e := (6, .istore 4, 2, (0, 0, 0), [])) (by decide +kernel)) (pc' := 8) (L' := [some (.ref w), some (.int x0), some (.int x1), some (.ref 28), some (.int ((x0 * 14) + x1)), none, none, none, none, none]) (st' := []) rfl ?_
  refine q_ic (v := 0) (mz_fe (e := (8, .iconst 0, 1, (0, 0, 0), [])) (by decide +kernel)) (by decide) ?_
  refine q_s (mz_fe (e := (9, .istore 5, 2, (0, 0, 0), [])) (by decide +kernel)) (pc' := 11) (L' := [some (.ref w), some (.int x0), some (.int x1), some (.ref 28), some (.int ((x0 * 14) + x1)), some (.int 0), none, none, none, none]) (st' := []) rfl ?_
  refine q_o (mz_fe (e := (11, .aload_n 0, 1, (0, 0, 0), [])) (by decide +kernel)) (pc2 := 12) rfl ?_
  refine q_getR (b := (w + 2)) (mz_fe (e := (12, .getfield 15, 8, (2, 1, 2), [])) (by decide +kernel)) rfl (ls_t hw) (by rw [(ls_l hw)]; decide) (ls_r1 hw) ?_
  refine q_o (mz_fe (e := (15, .iload 4, 2, (0, 0, 0), [])) (by decide +kernel)) (pc2 := 17) rfl ?_
  refine q_ialdg rfl (mz_fe (e := (17, .iaload, 1, (0, 0, 0), [])) (by decide +kernel)) rfl (by omega) (ls_et hw) (ls_el hw) (fun g1 => ?_)
  refine q_s (mz_fe (e := (18, .istore 6, 2, (0, 0, 0), [])) (by decide +kernel)) (pc' := 20) (L' := [some (.ref w), some (.int x0), some (.int x1), some (.ref 28), some (.int ((x0 * 14) + x1)), some (.int 0), some (.int (mz_rd m (w + 2) (((x0 * 14) + x1) : Int32).toNatClampNeg)), none, none, none]) (st' := []) rfl ?_
  exact congrArg mz_cI (mz_At_msk (L := [some (.ref w), some (.int x0), some (.int x1), some (.ref 28), some (.int ((x0 * 14) + x1)), some (.int 0), some (.int (mz_rd m (w + 2) (((x0 * 14) + x1) : Int32).toNatClampNeg)), none, none, none]) (L2 := [some (.ref w), none, none, some (.ref 28), some (.int ((x0 * 14) + x1)), some (.int 0), some (.int (mz_rd m (w + 2) (((x0 * 14) + x1) : Int32).toNatClampNeg)), none, none, none]) (mz_fe (e := (20, .iload 6, 2, (0, 0, 0), [true, false, false, true, true, true, true, false, false, false])) (by decide +kernel)) rfl rfl)
set_option maxRecDepth 10000 in
theorem H_X2_partValue_20_eq (d : Nat) (a0 : Nat) (y4 : Int32) (y5 : Int32) (y6 : Int32) (m : MzM) (ha0 : mz_isW a0 = true) : H_X2_partValue_20 d a0 y4 y5 y6 m = mz_g (mz_ok (y4 + 1) 56) (if (mz_rd m (a0 + 2) ((y4 + 1) : Int32).toNatClampNeg) ≤ y6 then (some ((mz_rd m (a0 + 4) 0), m)) else (mz_g (mz_ok y6 404) (if (10009 : Int32) ≤ (mz_rd m (a0 + 1) (y6 : Int32).toNatClampNeg) then (if y5 < 2 then (H_X2_partValue_20 d a0 y4 y5 (y6 + 1) m) else (mz_g (mz_ok ((y5 + (-1)) - 1) 32) (mz_g (mz_ok (y5 + (-1)) 32) (if ((mz_rd m (a0 + 1) (y6 : Int32).toNatClampNeg) - 10009) = 6 then (mz_g (mz_ok ((y5 + (-1)) - 1) 32) (H_X2_partValue_20 d a0 y4 (y5 + (-1)) (y6 + 1) (mz_wr m (a0 + 4) (((y5 + (-1)) - 1) : Int32).toNatClampNeg ((mz_rd m (a0 + 4) (((y5 + (-1)) - 1) : Int32).toNatClampNeg) + (mz_rd m (a0 + 4) ((y5 + (-1)) : Int32).toNatClampNeg))))) else if ((mz_rd m (a0 + 1) (y6 : Int32).toNatClampNeg) - 10009) = 7 then (mz_g (mz_ok ((y5 + (-1)) - 1) 32) (H_X2_partValue_20 d a0 y4 (y5 + (-1)) (y6 + 1) (mz_wr m (a0 + 4) (((y5 + (-1)) - 1) : Int32).toNatClampNeg ((mz_rd m (a0 + 4) (((y5 + (-1)) - 1) : Int32).toNatClampNeg) - (mz_rd m (a0 + 4) ((y5 + (-1)) : Int32).toNatClampNeg))))) else if ((mz_rd m (a0 + 1) (y6 : Int32).toNatClampNeg) - 10009) = 8 then (mz_g (mz_ok ((y5 + (-1)) - 1) 32) (H_X2_partValue_20 d a0 y4 (y5 + (-1)) (y6 + 1) (mz_wr m (a0 + 4) (((y5 + (-1)) - 1) : Int32).toNatClampNeg ((mz_rd m (a0 + 4) (((y5 + (-1)) - 1) : Int32).toNatClampNeg) * (mz_rd m (a0 + 4) ((y5 + (-1)) : Int32).toNatClampNeg))))) else (if ¬ (mz_rd m (a0 + 4) ((y5 + (-1)) : Int32).toNatClampNeg) = 0 then (mz_g (decide (((mz_rd m a0 5) ||| 0) = 0 ∨ ((mz_rd m a0 5) ||| 0) = 1)) (if ¬ (mz_rd m (a0 + 4) ((y5 + (-1)) : Int32).toNatClampNeg) = 0 then (mz_g (decide ((mz_rd m (a0 + 4) ((y5 + (-1)) : Int32).toNatClampNeg) ≠ 0)) (mz_g (mz_ok ((y5 + (-1)) - 1) 32) (H_X2_partValue_20 d a0 y4 (y5 + (-1)) (y6 + 1) (mz_wr (mz_wr m a0 5 ((mz_rd m a0 5) ||| 0)) (a0 + 4) (((y5 + (-1)) - 1) : Int32).toNatClampNeg ((mz_rd m (a0 + 4) (((y5 + (-1)) - 1) : Int32).toNatClampNeg) / (mz_rd m (a0 + 4) ((y5 + (-1)) : Int32).toNatClampNeg)))))) else (mz_g (mz_ok ((y5 + (-1)) - 1) 32) (H_X2_partValue_20 d a0 y4 (y5 + (-1)) (y6 + 1) (mz_wr (mz_wr m a0 5 ((mz_rd m a0 5) ||| 0)) (a0 + 4) (((y5 + (-1)) - 1) : Int32).toNatClampNeg 0))))) else (mz_g (decide (((mz_rd m a0 5) ||| 1) = 0 ∨ ((mz_rd m a0 5) ||| 1) = 1)) (if ¬ (mz_rd m (a0 + 4) ((y5 + (-1)) : Int32).toNatClampNeg) = 0 then (mz_g (decide ((mz_rd m (a0 + 4) ((y5 + (-1)) : Int32).toNatClampNeg) ≠ 0)) (mz_g (mz_ok ((y5 + (-1)) - 1) 32) (H_X2_partValue_20 d a0 y4 (y5 + (-1)) (y6 + 1) (mz_wr (mz_wr m a0 5 ((mz_rd m a0 5) ||| 1)) (a0 + 4) (((y5 + (-1)) - 1) : Int32).toNatClampNeg ((mz_rd m (a0 + 4) (((y5 + (-1)) - 1) : Int32).toNatClampNeg) / (mz_rd m (a0 + 4) ((y5 + (-1)) : Int32).toNatClampNeg)))))) else (mz_g (mz_ok ((y5 + (-1)) - 1) 32) (H_X2_partValue_20 d a0 y4 (y5 + (-1)) (y6 + 1) (mz_wr (mz_wr m a0 5 ((mz_rd m a0 5) ||| 1)) (a0 + 4) (((y5 + (-1)) - 1) : Int32).toNatClampNeg 0)))))))))) else (if (32 : Int32) ≤ y5 then (if y5 < 2 then (H_X2_partValue_20 d a0 y4 y5 (y6 + 1) m) else (mz_g (mz_ok ((y5 + (-1)) - 1) 32) (mz_g (mz_ok (y5 + (-1)) 32) (if ((mz_rd m (a0 + 1) (y6 : Int32).toNatClampNeg) - 10009) = 6 then (mz_g (mz_ok ((y5 + (-1)) - 1) 32) (H_X2_partValue_20 d a0 y4 (y5 + (-1)) (y6 + 1) (mz_wr m (a0 + 4) (((y5 + (-1)) - 1) : Int32).toNatClampNeg ((mz_rd m (a0 + 4) (((y5 + (-1)) - 1) : Int32).toNatClampNeg) + (mz_rd m (a0 + 4) ((y5 + (-1)) : Int32).toNatClampNeg))))) else if ((mz_rd m (a0 + 1) (y6 : Int32).toNatClampNeg) - 10009) = 7 then (mz_g (mz_ok ((y5 + (-1)) - 1) 32) (H_X2_partValue_20 d a0 y4 (y5 + (-1)) (y6 + 1) (mz_wr m (a0 + 4) (((y5 + (-1)) - 1) : Int32).toNatClampNeg ((mz_rd m (a0 + 4) (((y5 + (-1)) - 1) : Int32).toNatClampNeg) - (mz_rd m (a0 + 4) ((y5 + (-1)) : Int32).toNatClampNeg))))) else if ((mz_rd m (a0 + 1) (y6 : Int32).toNatClampNeg) - 10009) = 8 then (mz_g (mz_ok ((y5 + (-1)) - 1) 32) (H_X2_partValue_20 d a0 y4 (y5 + (-1)) (y6 + 1) (mz_wr m (a0 + 4) (((y5 + (-1)) - 1) : Int32).toNatClampNeg ((mz_rd m (a0 + 4) (((y5 + (-1)) - 1) : Int32).toNatClampNeg) * (mz_rd m (a0 + 4) ((y5 + (-1)) : Int32).toNatClampNeg))))) else (if ¬ (mz_rd m (a0 + 4) ((y5 + (-1)) : Int32).toNatClampNeg) = 0 then (mz_g (decide (((mz_rd m a0 5) ||| 0) = 0 ∨ ((mz_rd m a0 5) ||| 0) = 1)) (if ¬ (mz_rd m (a0 + 4) ((y5 + (-1)) : Int32).toNatClampNeg) = 0 then (mz_g (decide ((mz_rd m (a0 + 4) ((y5 + (-1)) : Int32).toNatClampNeg) ≠ 0)) (mz_g (mz_ok ((y5 + (-1)) - 1) 32) (H_X2_partValue_20 d a0 y4 (y5 + (-1)) (y6 + 1) (mz_wr (mz_wr m a0 5 ((mz_rd m a0 5) ||| 0)) (a0 + 4) (((y5 + (-1)) - 1) : Int32).toNatClampNeg ((mz_rd m (a0 + 4) (((y5 + (-1)) - 1) : Int32).toNatClampNeg) / (mz_rd m (a0 + 4) ((y5 + (-1)) : Int32).toNatClampNeg)))))) else (mz_g (mz_ok ((y5 + (-1)) - 1) 32) (H_X2_partValue_20 d a0 y4 (y5 + (-1)) (y6 + 1) (mz_wr (mz_wr m a0 5 ((mz_rd m a0 5) ||| 0)) (a0 + 4) (((y5 + (-1)) - 1) : Int32).toNatClampNeg 0))))) else (mz_g (decide (((mz_rd m a0 5) ||| 1) = 0 ∨ ((mz_rd m a0 5) ||| 1) = 1)) (if ¬ (mz_rd m (a0 + 4) ((y5 + (-1)) : Int32).toNatClampNeg) = 0 then (mz_g (decide ((mz_rd m (a0 + 4) ((y5 + (-1)) : Int32).toNatClampNeg) ≠ 0)) (mz_g (mz_ok ((y5 + (-1)) - 1) 32) (H_X2_partValue_20 d a0 y4 (y5 + (-1)) (y6 + 1) (mz_wr (mz_wr m a0 5 ((mz_rd m a0 5) ||| 1)) (a0 + 4) (((y5 + (-1)) - 1) : Int32).toNatClampNeg ((mz_rd m (a0 + 4) (((y5 + (-1)) - 1) : Int32).toNatClampNeg) / (mz_rd m (a0 + 4) ((y5 + (-1)) : Int32).toNatClampNeg)))))) else (mz_g (mz_ok ((y5 + (-1)) - 1) 32) (H_X2_partValue_20 d a0 y4 (y5 + (-1)) (y6 + 1) (mz_wr (mz_wr m a0 5 ((mz_rd m a0 5) ||| 1)) (a0 + 4) (((y5 + (-1)) - 1) : Int32).toNatClampNeg 0)))))))))) else (if (10000 : Int32) ≤ (mz_rd m (a0 + 1) (y6 : Int32).toNatClampNeg) then (mz_g (mz_ok ((mz_rd m (a0 + 1) (y6 : Int32).toNatClampNeg) - 10000) 9) (mz_g (mz_ok y5 32) (H_X2_partValue_20 d a0 y4 (y5 + 1) (y6 + 1) (mz_wr m (a0 + 4) (y5 : Int32).toNatClampNeg (mz_rd m 28 (((mz_rd m (a0 + 1) (y6 : Int32).toNatClampNeg) - 10000) : Int32).toNatClampNeg))))) else (mz_g (mz_ok y5 32) (H_X2_partValue_20 d a0 y4 (y5 + 1) (y6 + 1) (mz_wr m (a0 + 4) (y5 : Int32).toNatClampNeg (mz_rd m (a0 + 1) (y6 : Int32).toNatClampNeg))))))))) := by
  show mz_cI (mz_T d 24 20 [some (.ref a0), none, none, some (.ref 28), some (.int y4), some (.int y5), some (.int y6), none, none, none] [] m) = _
  refine q_s (mz_fe (e := (20, .iload 6, 2, (0, 0, 0), [true, false, false, true, true, true, true, false, false, false])) (by decide +kernel)) (pc' := 22) (L' := [some (.ref a0), none, none, some (.ref 28), some (.int y4), some (.int y5), some (.int y6), none, none, none]) (st' := [.int y6]) rfl ?_
  refine q_o (mz_fe (e := (22, .aload_n 0, 1, (0, 0, 0), [])) (by decide +kernel)) (pc2 := 23) rfl ?_
  refine q_getR (b := (a0 + 2)) (mz_fe (e := (23, .getfield 15, 8, (2, 1, 2), [])) (by decide +kernel)) rfl (ls_t ha0) (by rw [(ls_l ha0)]; decide) (ls_r1 ha0) ?_
  refine q_o (mz_fe (e := (26, .iload 4, 2, (0, 0, 0), [])) (by decide +kernel)) (pc2 := 28) rfl ?_
  refine q_ic (v := 1) (mz_fe (e := (28, .iconst 1, 1, (0, 0, 0), [])) (by decide +kernel)) (by decide) ?_
  refine q_o (mz_fe (e := (29, .iadd, 1, (0, 0, 0), [])) (by decide +kernel)) (pc2 := 30) rfl ?_
  refine q_ialdg rfl (mz_fe (e := (30, .iaload, 1, (0, 0, 0), [])) (by decide +kernel)) rfl (by omega) (ls_et ha0) (ls_el ha0) (fun g2 => ?_)
  refine q_if (c := .ge) (off := 224) (t := 255) (x := y6) (y := (mz_rd m (a0 + 2) ((y4 + 1) : Int32).toNatClampNeg)) (st := []) (mz_fe (e := (31, .if_icmp .ge 224, 3, (0, 0, 0), [])) (by decide +kernel)) (fun _ => rfl) rfl rfl rfl (fun c3 => ?_) (fun c3 => ?_)
  · refine q_o (mz_fe (e := (255, .aload_n 0, 1, (0, 0, 0), [])) (by decide +kernel)) (pc2 := 256) rfl ?_
    refine q_getR (b := (a0 + 4)) (mz_fe (e := (256, .getfield 21, 10, (2, 3, 2), [])) (by decide +kernel)) rfl (ls_t ha0) (by rw [(ls_l ha0)]; decide) (ls_r3 ha0) ?_
    refine q_ic (v := 0) (mz_fe (e := (259, .iconst 0, 1, (0, 0, 0), [])) (by decide +kernel)) (by decide) ?_
    refine q_iald (j := 0) (mz_fe (e := (260, .iaload, 1, (0, 0, 0), [])) (by decide +kernel)) rfl (by omega) (ls_kt ha0) (ls_kl ha0) (by decide) (by decide) ?_
    exact q_retI (mz_fe (e := (261, .ireturn, 1, (0, 0, 0), [])) (by decide +kernel)) (by decide +kernel)
  · refine q_o (mz_fe (e := (34, .aload_n 0, 1, (0, 0, 0), [])) (by decide +kernel)) (pc2 := 35) rfl ?_
    refine q_getR (b := (a0 + 1)) (mz_fe (e := (35, .getfield 11, 7, (2, 0, 2), [])) (by decide +kernel)) rfl (ls_t ha0) (by rw [(ls_l ha0)]; decide) (ls_r0 ha0) ?_
    refine q_o (mz_fe (e := (38, .iload 6, 2, (0, 0, 0), [])) (by decide +kernel)) (pc2 := 40) rfl ?_
    refine q_ialdg rfl (mz_fe (e := (40, .iaload, 1, (0, 0, 0), [])) (by decide +kernel)) rfl (by omega) (ls_ct ha0) (ls_cl ha0) (fun g4 => ?_)
    refine q_s (mz_fe (e := (41, .istore 7, 2, (0, 0, 0), [])) (by decide +kernel)) (pc' := 43) (L' := [some (.ref a0), none, none, some (.ref 28), some (.int y4), some (.int y5), some (.int y6), some (.int (mz_rd m (a0 + 1) (y6 : Int32).toNatClampNeg)), none, none]) (st' := []) rfl ?_
    refine q_o (mz_fe (e := (43, .iload 7, 2, (0, 0, 0), [])) (by decide +kernel)) (pc2 := 45) rfl ?_
    refine q_si (v := 10009) (mz_fe (e := (45, .sipush 10009, 3, (0, 0, 0), [])) (by decide +kernel)) (by decide) ?_
    refine q_if (c := .ge) (off := 47) (t := 95) (x := (mz_rd m (a0 + 1) (y6 : Int32).toNatClampNeg)) (y := 10009) (st := []) (mz_fe (e := (48, .if_icmp .ge 47, 3, (0, 0, 0), [])) (by decide +kernel)) (fun _ => rfl) rfl rfl rfl (fun c5 => ?_) (fun c5 => ?_)
    · refine q_o (mz_fe (e := (95, .iload 5, 2, (0, 0, 0), [])) (by decide +kernel)) (pc2 := 97) rfl ?_
      refine q_ic (v := 2) (mz_fe (e := (97, .iconst 2, 1, (0, 0, 0), [])) (by decide +kernel)) (by decide) ?_
      refine q_if (c := .lt) (off := 151) (t := 249) (x := y5) (y := 2) (st := []) (mz_fe (e := (98, .if_icmp .lt 151, 3, (0, 0, 0), [])) (by decide +kernel)) (fun _ => rfl) rfl rfl rfl (fun c6 => ?_) (fun c6 => ?_)
      · refine q_iinc (v := y6) (c := 1) (L3 := [some (.ref a0), none, none, some (.ref 28), some (.int y4), some (.int y5), some (.int (y6 + 1)), some (.int (mz_rd m (a0 + 1) (y6 : Int32).toNatClampNeg)), none, none]) (mz_fe (e := (249, .iinc 6 1, 3, (0, 0, 0), [])) (by decide +kernel)) rfl rfl (by decide) rfl ?_
        refine q_o (mz_fe (e := (252, .goto (-232), 3, (0, 0, 0), [])) (by decide +kernel)) (pc2 := 20) rfl ?_
        exact congrArg mz_cI (mz_At_msk (L := [some (.ref a0), none, none, some (.ref 28), some (.int y4), some (.int y5), some (.int (y6 + 1)), some (.int (mz_rd m (a0 + 1) (y6 : Int32).toNatClampNeg)), none, none]) (L2 := [some (.ref a0), none, none, some (.ref 28), some (.int y4), some (.int y5), some (.int (y6 + 1)), none, none, none]) (mz_fe (e := (20, .iload 6, 2, (0, 0, 0), [true, false, false, true, true, true, true, false, false, false])) (by decide +kernel)) rfl rfl)
      · refine q_iinc (v := y5) (c := (-1)) (L3 := [some (.ref a0), none, none, some (.ref 28), some (.int y4), some (.int (y5 + (-1))), some (.int y6), some (.int (mz_rd m (a0 + 1) (y6 : Int32).toNatClampNeg)), none, none]) (mz_fe (e := (101, .iinc 5 (-1), 3, (0, 0, 0), [])) (by decide +kernel)) rfl rfl (by decide) rfl ?_
        refine q_o (mz_fe (e := (104, .aload_n 0, 1, (0, 0, 0), [])) (by decide +kernel)) (pc2 := 105) rfl ?_
        refine q_getR (b := (a0 + 4)) (mz_fe (e := (105, .getfield 21, 10, (2, 3, 2), [])) (by decide +kernel)) rfl (ls_t ha0) (by rw [(ls_l ha0)]; decide) (ls_r3 ha0) ?_
        refine q_o (mz_fe (e := (108, .iload 5, 2, (0, 0, 0), [])) (by decide +kernel)) (pc2 := 110) rfl ?_
        refine q_ic (v := 1) (mz_fe (e := (110, .iconst 1, 1, (0, 0, 0), [])) (by decide +kernel)) (by decide) ?_
        refine q_o (mz_fe (e := (111, .isub, 1, (0, 0, 0), [])) (by decide +kernel)) (pc2 := 112) rfl ?_
        refine q_ialdg rfl (mz_fe (e := (112, .iaload, 1, (0, 0, 0), [])) (by decide +kernel)) rfl (by omega) (ls_kt ha0) (ls_kl ha0) (fun g7 => ?_)
        refine q_s (mz_fe (e := (113, .istore 8, 2, (0, 0, 0), [])) (by decide +kernel)) (pc' := 115) (L' := [some (.ref a0), none, none, some (.ref 28), some (.int y4), some (.int (y5 + (-1))), some (.int y6), some (.int (mz_rd m (a0 + 1) (y6 : Int32).toNatClampNeg)), some (.int (mz_rd m (a0 + 4) (((y5 + (-1)) - 1) : Int32).toNatClampNeg)), none]) (st' := []) rfl ?_
        refine q_o (mz_fe (e := (115, .aload_n 0, 1, (0, 0, 0), [])) (by decide +kernel)) (pc2 := 116) rfl ?_
        refine q_getR (b := (a0 + 4)) (mz_fe (e := (116, .getfield 21, 10, (2, 3, 2), [])) (by decide +kernel)) rfl (ls_t ha0) (by rw [(ls_l ha0)]; decide) (ls_r3 ha0) ?_
        refine q_o (mz_fe (e := (119, .iload 5, 2, (0, 0, 0), [])) (by decide +kernel)) (pc2 := 121) rfl ?_
        refine q_ialdg rfl (mz_fe (e := (121, .iaload, 1, (0, 0, 0), [])) (by decide +kernel)) rfl (by omega) (ls_kt ha0) (ls_kl ha0) (fun g8 => ?_)
        refine q_s (mz_fe (e := (122, .istore 9, 2, (0, 0, 0), [])) (by decide +kernel)) (pc' := 124) (L' := [some (.ref a0), none, none, some (.ref 28), some (.int y4), some (.int (y5 + (-1))), some (.int y6), some (.int (mz_rd m (a0 + 1) (y6 : Int32).toNatClampNeg)), some (.int (mz_rd m (a0 + 4) (((y5 + (-1)) - 1) : Int32).toNatClampNeg)), some (.int (mz_rd m (a0 + 4) ((y5 + (-1)) : Int32).toNatClampNeg))]) (st' := []) rfl ?_
        refine q_o (mz_fe (e := (124, .iload 7, 2, (0, 0, 0), [])) (by decide +kernel)) (pc2 := 126) rfl ?_
        refine q_si (v := 10009) (mz_fe (e := (126, .sipush 10009, 3, (0, 0, 0), [])) (by decide +kernel)) (by decide) ?_
        refine q_o (mz_fe (e := (129, .isub, 1, (0, 0, 0), [])) (by decide +kernel)) (pc2 := 130) rfl ?_
        refine mz_ite (P := ((mz_rd m (a0 + 1) (y6 : Int32).toNatClampNeg) - 10009) = 6) (fun c9 => ?_) (fun c9 => ?_)
        · refine q_sw (t := 156) (st := []) (mz_fe (e := (130, .tableswitch 77 6 8 #[26, 43, 60], 26, (0, 0, 0), [])) (by decide +kernel)) rfl (by rw [c9]; decide +kernel) ?_
          refine q_o (mz_fe (e := (156, .aload_n 0, 1, (0, 0, 0), [])) (by decide +kernel)) (pc2 := 157) rfl ?_
          refine q_getR (b := (a0 + 4)) (mz_fe (e := (157, .getfield 21, 10, (2, 3, 2), [])) (by decide +kernel)) rfl (ls_t ha0) (by rw [(ls_l ha0)]; decide) (ls_r3 ha0) ?_
          refine q_o (mz_fe (e := (160, .iload 5, 2, (0, 0, 0), [])) (by decide +kernel)) (pc2 := 162) rfl ?_
          refine q_ic (v := 1) (mz_fe (e := (162, .iconst 1, 1, (0, 0, 0), [])) (by decide +kernel)) (by decide) ?_
          refine q_o (mz_fe (e := (163, .isub, 1, (0, 0, 0), [])) (by decide +kernel)) (pc2 := 164) rfl ?_
          refine q_o (mz_fe (e := (164, .iload 8, 2, (0, 0, 0), [])) (by decide +kernel)) (pc2 := 166) rfl ?_
          refine q_o (mz_fe (e := (166, .iload 9, 2, (0, 0, 0), [])) (by decide +kernel)) (pc2 := 168) rfl ?_
          refine q_o (mz_fe (e := (168, .iadd, 1, (0, 0, 0), [])) (by decide +kernel)) (pc2 := 169) rfl ?_
          refine q_stAg (f := (fun x => x)) rfl (mz_fe (e := (169, .iastore, 1, (0, 0, 0), [])) (by decide +kernel)) (fun _ => rfl) rfl (ls_kt ha0) (ls_kl ha0) (fun g10 => ?_)
          refine q_o (mz_fe (e := (170, .goto 79, 3, (0, 0, 0), [])) (by decide +kernel)) (pc2 := 249) rfl ?_
          refine q_iinc (v := y6) (c := 1) (L3 := [some (.ref a0), none, none, some (.ref 28), some (.int y4), some (.int (y5 + (-1))), some (.int (y6 + 1)), some (.int (mz_rd m (a0 + 1) (y6 : Int32).toNatClampNeg)), some (.int (mz_rd m (a0 + 4) (((y5 + (-1)) - 1) : Int32).toNatClampNeg)), some (.int (mz_rd m (a0 + 4) ((y5 + (-1)) : Int32).toNatClampNeg))]) (mz_fe (e := (249, .iinc 6 1, 3, (0, 0, 0), [])) (by decide +kernel)) rfl rfl (by decide) rfl ?_
          refine q_o (mz_fe (e := (252, .goto (-232), 3, (0, 0, 0), [])) (by decide +kernel)) (pc2 := 20) rfl ?_
          exact congrArg mz_cI (mz_At_msk (L := [some (.ref a0), none, none, some (.ref 28), some (.int y4), some (.int (y5 + (-1))), some (.int (y6 + 1)), some (.int (mz_rd m (a0 + 1) (y6 : Int32).toNatClampNeg)), some (.int (mz_rd m (a0 + 4) (((y5 + (-1)) - 1) : Int32).toNatClampNeg)), some (.int (mz_rd m (a0 + 4) ((y5 + (-1)) : Int32).toNatClampNeg))]) (L2 := [some (.ref a0), none, none, some (.ref 28), some (.int y4), some (.int (y5 + (-1))), some (.int (y6 + 1)), none, none, none]) (mz_fe (e := (20, .iload 6, 2, (0, 0, 0), [true, false, false, true, true, true, true, false, false, false])) (by decide +kernel)) rfl rfl)
        refine mz_ite (P := ((mz_rd m (a0 + 1) (y6 : Int32).toNatClampNeg) - 10009) = 7) (fun c11 => ?_) (fun c11 => ?_)
        · refine q_sw (t := 173) (st := []) (mz_fe (e := (130, .tableswitch 77 6 8 #[26, 43, 60], 26, (0, 0, 0), [])) (by decide +kernel)) rfl (by rw [c11]; decide +kernel) ?_
          refine q_o (mz_fe (e := (173, .aload_n 0, 1, (0, 0, 0), [])) (by decide +kernel)) (pc2 := 174) rfl ?_
          refine q_getR (b := (a0 + 4)) (mz_fe (e := (174, .getfield 21, 10, (2, 3, 2), [])) (by decide +kernel)) rfl (ls_t ha0) (by rw [(ls_l ha0)]; decide) (ls_r3 ha0) ?_
          refine q_o (mz_fe (e := (177, .iload 5, 2, (0, 0, 0), [])) (by decide +kernel)) (pc2 := 179) rfl ?_
          refine q_ic (v := 1) (mz_fe (e := (179, .iconst 1, 1, (0, 0, 0), [])) (by decide +kernel)) (by decide) ?_
          refine q_o (mz_fe (e := (180, .isub, 1, (0, 0, 0), [])) (by decide +kernel)) (pc2 := 181) rfl ?_
          refine q_o (mz_fe (e := (181, .iload 8, 2, (0, 0, 0), [])) (by decide +kernel)) (pc2 := 183) rfl ?_
          refine q_o (mz_fe (e := (183, .iload 9, 2, (0, 0, 0), [])) (by decide +kernel)) (pc2 := 185) rfl ?_
          refine q_o (mz_fe (e := (185, .isub, 1, (0, 0, 0), [])) (by decide +kernel)) (pc2 := 186) rfl ?_
          refine q_stAg (f := (fun x => x)) rfl (mz_fe (e := (186, .iastore, 1, (0, 0, 0), [])) (by decide +kernel)) (fun _ => rfl) rfl (ls_kt ha0) (ls_kl ha0) (fun g12 => ?_)
          refine q_o (mz_fe (e := (187, .goto 62, 3, (0, 0, 0), [])) (by decide +kernel)) (pc2 := 249) rfl ?_
          refine q_iinc (v := y6) (c := 1) (L3 := [some (.ref a0), none, none, some (.ref 28), some (.int y4), some (.int (y5 + (-1))), some (.int (y6 + 1)), some (.int (mz_rd m (a0 + 1) (y6 : Int32).toNatClampNeg)), some (.int (mz_rd m (a0 + 4) (((y5 + (-1)) - 1) : Int32).toNatClampNeg)), some (.int (mz_rd m (a0 + 4) ((y5 + (-1)) : Int32).toNatClampNeg))]) (mz_fe (e := (249, .iinc 6 1, 3, (0, 0, 0), [])) (by decide +kernel)) rfl rfl (by decide) rfl ?_
          refine q_o (mz_fe (e := (252, .goto (-232), 3, (0, 0, 0), [])) (by decide +kernel)) (pc2 := 20) rfl ?_
          exact congrArg mz_cI (mz_At_msk (L := [some (.ref a0), none, none, some (.ref 28), some (.int y4), some (.int (y5 + (-1))), some (.int (y6 + 1)), some (.int (mz_rd m (a0 + 1) (y6 : Int32).toNatClampNeg)), some (.int (mz_rd m (a0 + 4) (((y5 + (-1)) - 1) : Int32).toNatClampNeg)), some (.int (mz_rd m (a0 + 4) ((y5 + (-1)) : Int32).toNatClampNeg))]) (L2 := [some (.ref a0), none, none, some (.ref 28), some (.int y4), some (.int (y5 + (-1))), some (.int (y6 + 1)), none, none, none]) (mz_fe (e := (20, .iload 6, 2, (0, 0, 0), [true, false, false, true, true, true, true, false, false, false])) (by decide +kernel)) rfl rfl)
        refine mz_ite (P := ((mz_rd m (a0 + 1) (y6 : Int32).toNatClampNeg) - 10009) = 8) (fun c13 => ?_) (fun c13 => ?_)
        · refine q_sw (t := 190) (st := []) (mz_fe (e := (130, .tableswitch 77 6 8 #[26, 43, 60], 26, (0, 0, 0), [])) (by decide +kernel)) rfl (by rw [c13]; decide +kernel) ?_
          refine q_o (mz_fe (e := (190, .aload_n 0, 1, (0, 0, 0), [])) (by decide +kernel)) (pc2 := 191) rfl ?_
          refine q_getR (b := (a0 + 4)) (mz_fe (e := (191, .getfield 21, 10, (2, 3, 2), [])) (by decide +kernel)) rfl (ls_t ha0) (by rw [(ls_l ha0)]; decide) (ls_r3 ha0) ?_
          refine q_o (mz_fe (e := (194, .iload 5, 2, (0, 0, 0), [])) (by decide +kernel)) (pc2 := 196) rfl ?_
          refine q_ic (v := 1) (mz_fe (e := (196, .iconst 1, 1, (0, 0, 0), [])) (by decide +kernel)) (by decide) ?_
          refine q_o (mz_fe (e := (197, .isub, 1, (0, 0, 0), [])) (by decide +kernel)) (pc2 := 198) rfl ?_
          refine q_o (mz_fe (e := (198, .iload 8, 2, (0, 0, 0), [])) (by decide +kernel)) (pc2 := 200) rfl ?_
          refine q_o (mz_fe (e := (200, .iload 9, 2, (0, 0, 0), [])) (by decide +kernel)) (pc2 := 202) rfl ?_
          refine q_o (mz_fe (e := (202, .imul, 1, (0, 0, 0), [])) (by decide +kernel)) (pc2 := 203) rfl ?_
          refine q_stAg (f := (fun x => x)) rfl (mz_fe (e := (203, .iastore, 1, (0, 0, 0), [])) (by decide +kernel)) (fun _ => rfl) rfl (ls_kt ha0) (ls_kl ha0) (fun g14 => ?_)
          refine q_o (mz_fe (e := (204, .goto 45, 3, (0, 0, 0), [])) (by decide +kernel)) (pc2 := 249) rfl ?_
          refine q_iinc (v := y6) (c := 1) (L3 := [some (.ref a0), none, none, some (.ref 28), some (.int y4), some (.int (y5 + (-1))), some (.int (y6 + 1)), some (.int (mz_rd m (a0 + 1) (y6 : Int32).toNatClampNeg)), some (.int (mz_rd m (a0 + 4) (((y5 + (-1)) - 1) : Int32).toNatClampNeg)), some (.int (mz_rd m (a0 + 4) ((y5 + (-1)) : Int32).toNatClampNeg))]) (mz_fe (e := (249, .iinc 6 1, 3, (0, 0, 0), [])) (by decide +kernel)) rfl rfl (by decide) rfl ?_
          refine q_o (mz_fe (e := (252, .goto (-232), 3, (0, 0, 0), [])) (by decide +kernel)) (pc2 := 20) rfl ?_
          exact congrArg mz_cI (mz_At_msk (L := [some (.ref a0), none, none, some (.ref 28), some (.int y4), some (.int (y5 + (-1))), some (.int (y6 + 1)), some (.int (mz_rd m (a0 + 1) (y6 : Int32).toNatClampNeg)), some (.int (mz_rd m (a0 + 4) (((y5 + (-1)) - 1) : Int32).toNatClampNeg)), some (.int (mz_rd m (a0 + 4) ((y5 + (-1)) : Int32).toNatClampNeg))]) (L2 := [some (.ref a0), none, none, some (.ref 28), some (.int y4), some (.int (y5 + (-1))), some (.int (y6 + 1)), none, none, none]) (mz_fe (e := (20, .iload 6, 2, (0, 0, 0), [true, false, false, true, true, true, true, false, false, false])) (by decide +kernel)) rfl rfl)
        refine q_sw (t := 207) (st := []) (mz_fe (e := (130, .tableswitch 77 6 8 #[26, 43, 60], 26, (0, 0, 0), [])) (by decide +kernel)) rfl (mz_swd [6, 7, 8] (by decide +kernel) (List.forall_mem_cons.mpr ⟨c9, (List.forall_mem_cons.mpr ⟨c11, (List.forall_mem_cons.mpr ⟨c13, (fun _ z => absurd z List.not_mem_nil)⟩)⟩)⟩)) ?_
        refine q_o (mz_fe (e := (207, .aload_n 0, 1, (0, 0, 0), [])) (by decide +kernel)) (pc2 := 208) rfl ?_
        refine q_o (mz_fe (e := (208, .dup, 1, (0, 0, 0), [])) (by decide +kernel)) (pc2 := 209) rfl ?_
        refine q_getI (mz_fe (e := (209, .getfield 50, 12, (2, 5, 1), [])) (by decide +kernel)) rfl (by decide) (ls_t ha0) (by rw [(ls_l ha0)]; decide) ?_
        refine q_o (mz_fe (e := (212, .iload 9, 2, (0, 0, 0), [])) (by decide +kernel)) (pc2 := 214) rfl ?_
        refine q_if (c := .ne) (off := 7) (t := 221) (x := (mz_rd m (a0 + 4) ((y5 + (-1)) : Int32).toNatClampNeg)) (y := 0) (st := [.int (mz_rd m a0 5), .ref a0]) (mz_fe (e := (214, .ifCond .ne 7, 3, (0, 0, 0), [])) (by decide +kernel)) (fun _ => rfl) rfl rfl rfl (fun c15 => ?_) (fun c15 => ?_)
        · refine q_ic (v := 0) (mz_fe (e := (221, .iconst 0, 1, (0, 0, 0), [])) (by decide +kernel)) (by decide) ?_
          refine q_o (mz_fe (e := (222, .ior, 1, (0, 0, 0), [])) (by decide +kernel)) (pc2 := 223) rfl ?_
          refine q_putZg rfl (mz_fe (e := (223, .putfield 50, 12, (2, 5, 1), [])) (by decide +kernel)) rfl (ls_t ha0) (by rw [(ls_l ha0)]; decide) (fun g16 => ?_)
          refine q_o (mz_fe (e := (226, .aload_n 0, 1, (0, 0, 0), [])) (by decide +kernel)) (pc2 := 227) rfl ?_
          refine q_getR (b := (a0 + 4)) (mz_fe (e := (227, .getfield 21, 10, (2, 3, 2), [])) (by decide +kernel)) rfl (ls_t ha0) (by rw [(ls_l ha0)]; decide) (ls_r3 ha0) ?_
          refine q_o (mz_fe (e := (230, .iload 5, 2, (0, 0, 0), [])) (by decide +kernel)) (pc2 := 232) rfl ?_
          refine q_ic (v := 1) (mz_fe (e := (232, .iconst 1, 1, (0, 0, 0), [])) (by decide +kernel)) (by decide) ?_
          refine q_o (mz_fe (e := (233, .isub, 1, (0, 0, 0), [])) (by decide +kernel)) (pc2 := 234) rfl ?_
          refine q_o (mz_fe (e := (234, .iload 9, 2, (0, 0, 0), [])) (by decide +kernel)) (pc2 := 236) rfl ?_
          refine q_if (c := .ne) (off := 7) (t := 243) (x := (mz_rd m (a0 + 4) ((y5 + (-1)) : Int32).toNatClampNeg)) (y := 0) (st := [.int ((y5 + (-1)) - 1), .ref (a0 + 4)]) (mz_fe (e := (236, .ifCond .ne 7, 3, (0, 0, 0), [])) (by decide +kernel)) (fun _ => rfl) rfl rfl rfl (fun c17 => ?_) (fun c17 => ?_)
          · refine q_o (mz_fe (e := (243, .iload 8, 2, (0, 0, 0), [])) (by decide +kernel)) (pc2 := 245) rfl ?_
            refine q_o (mz_fe (e := (245, .iload 9, 2, (0, 0, 0), [])) (by decide +kernel)) (pc2 := 247) rfl ?_
            refine q_div (z := fun x y => x / y) rfl (mz_fe (e := (247, .idiv, 1, (0, 0, 0), [])) (by decide +kernel)) (fun _ => rfl) rfl (fun g18 => ?_)
            refine q_stAg (f := (fun x => x)) rfl (mz_fe (e := (248, .iastore, 1, (0, 0, 0), [])) (by decide +kernel)) (fun _ => rfl) rfl (ls_kt ha0) (ls_kl ha0) (fun g19 => ?_)
            refine q_iinc (v := y6) (c := 1) (L3 := [some (.ref a0), none, none, some (.ref 28), some (.int y4), some (.int (y5 + (-1))), some (.int (y6 + 1)), some (.int (mz_rd m (a0 + 1) (y6 : Int32).toNatClampNeg)), some (.int (mz_rd m (a0 + 4) (((y5 + (-1)) - 1) : Int32).toNatClampNeg)), some (.int (mz_rd m (a0 + 4) ((y5 + (-1)) : Int32).toNatClampNeg))]) (mz_fe (e := (249, .iinc 6 1, 3, (0, 0, 0), [])) (by decide +kernel)) rfl rfl (by decide) rfl ?_
            refine q_o (mz_fe (e := (252, .goto (-232), 3, (0, 0, 0), [])) (by decide +kernel)) (pc2 := 20) rfl ?_
            exact congrArg mz_cI (mz_At_msk (L := [some (.ref a0), none, none, some (.ref 28), some (.int y4), some (.int (y5 + (-1))), some (.int (y6 + 1)), some (.int (mz_rd m (a0 + 1) (y6 : Int32).toNatClampNeg)), some (.int (mz_rd m (a0 + 4) (((y5 + (-1)) - 1) : Int32).toNatClampNeg)), some (.int (mz_rd m (a0 + 4) ((y5 + (-1)) : Int32).toNatClampNeg))]) (L2 := [some (.ref a0), none, none, some (.ref 28), some (.int y4), some (.int (y5 + (-1))), some (.int (y6 + 1)), none, none, none]) (mz_fe (e := (20, .iload 6, 2, (0, 0, 0), [true, false, false, true, true, true, true, false, false, false])) (by decide +kernel)) rfl rfl)
          · refine q_ic (v := 0) (mz_fe (e := (239, .iconst 0, 1, (0, 0, 0), [])) (by decide +kernel)) (by decide) ?_
            refine q_o (mz_fe (e := (240, .goto 8, 3, (0, 0, 0), [])) (by decide +kernel)) (pc2 := 248) rfl ?_
            refine q_stAg (f := (fun x => x)) rfl (mz_fe (e := (248, .iastore, 1, (0, 0, 0), [])) (by decide +kernel)) (fun _ => rfl) rfl (ls_kt ha0) (ls_kl ha0) (fun g20 => ?_)
            refine q_iinc (v := y6) (c := 1) (L3 := [some (.ref a0), none, none, some (.ref 28), some (.int y4), some (.int (y5 + (-1))), some (.int (y6 + 1)), some (.int (mz_rd m (a0 + 1) (y6 : Int32).toNatClampNeg)), some (.int (mz_rd m (a0 + 4) (((y5 + (-1)) - 1) : Int32).toNatClampNeg)), some (.int (mz_rd m (a0 + 4) ((y5 + (-1)) : Int32).toNatClampNeg))]) (mz_fe (e := (249, .iinc 6 1, 3, (0, 0, 0), [])) (by decide +kernel)) rfl rfl (by decide) rfl ?_
            refine q_o (mz_fe (e := (252, .goto (-232), 3, (0, 0, 0), [])) (by decide +kernel)) (pc2 := 20) rfl ?_
            exact congrArg mz_cI (mz_At_msk (L := [some (.ref a0), none, none, some (.ref 28), some (.int y4), some (.int (y5 + (-1))), some (.int (y6 + 1)), some (.int (mz_rd m (a0 + 1) (y6 : Int32).toNatClampNeg)), some (.int (mz_rd m (a0 + 4) (((y5 + (-1)) - 1) : Int32).toNatClampNeg)), some (.int (mz_rd m (a0 + 4) ((y5 + (-1)) : Int32).toNatClampNeg))]) (L2 := [some (.ref a0), none, none, some (.ref 28), some (.int y4), some (.int (y5 + (-1))), some (.int (y6 + 1)), none, none, none]) (mz_fe (e := (20, .iload 6, 2, (0, 0, 0), [true, false, false, true, true, true, true, false, false, false])) (by decide +kernel)) rfl rfl)
        · refine q_ic (v := 1) (mz_fe (e := (217, .iconst 1, 1, (0, 0, 0), [])) (by decide +kernel)) (by decide) ?_
          refine q_o (mz_fe (e := (218, .goto 4, 3, (0, 0, 0), [])) (by decide +kernel)) (pc2 := 222) rfl ?_
          refine q_o (mz_fe (e := (222, .ior, 1, (0, 0, 0), [])) (by decide +kernel)) (pc2 := 223) rfl ?_
          refine q_putZg rfl (mz_fe (e := (223, .putfield 50, 12, (2, 5, 1), [])) (by decide +kernel)) rfl (ls_t ha0) (by rw [(ls_l ha0)]; decide) (fun g21 => ?_)
          refine q_o (mz_fe (e := (226, .aload_n 0, 1, (0, 0, 0), [])) (by decide +kernel)) (pc2 := 227) rfl ?_
          refine q_getR (b := (a0 + 4)) (mz_fe (e := (227, .getfield 21, 10, (2, 3, 2), [])) (by decide +kernel)) rfl (ls_t ha0) (by rw [(ls_l ha0)]; decide) (ls_r3 ha0) ?_
          refine q_o (mz_fe (e := (230, .iload 5, 2, (0, 0, 0), [])) (by decide +kernel)) (pc2 := 232) rfl ?_
          refine q_ic (v := 1) (mz_fe (e := (232, .iconst 1, 1, (0, 0, 0), [])) (by decide +kernel)) (by decide) ?_
          refine q_o (mz_fe (e := (233, .isub, 1, (0, 0, 0), [])) (by decide +kernel)) (pc2 := 234) rfl ?_
          refine q_o (mz_fe (e := (234, .iload 9, 2, (0, 0, 0), [])) (by decide +kernel)) (pc2 := 236) rfl ?_
          refine q_if (c := .ne) (off := 7) (t := 243) (x := (mz_rd m (a0 + 4) ((y5 + (-1)) : Int32).toNatClampNeg)) (y := 0) (st := [.int ((y5 + (-1)) - 1), .ref (a0 + 4)]) (mz_fe (e := (236, .ifCond .ne 7, 3, (0, 0, 0), [])) (by decide +kernel)) (fun _ => rfl) rfl rfl rfl (fun c22 => ?_) (fun c22 => ?_)
          · refine q_o (mz_fe (e := (243, .iload 8, 2, (0, 0, 0), [])) (by decide +kernel)) (pc2 := 245) rfl ?_
            refine q_o (mz_fe (e := (245, .iload 9, 2, (0, 0, 0), [])) (by decide +kernel)) (pc2 := 247) rfl ?_
            refine q_div (z := fun x y => x / y) rfl (mz_fe (e := (247, .idiv, 1, (0, 0, 0), [])) (by decide +kernel)) (fun _ => rfl) rfl (fun g23 => ?_)
            refine q_stAg (f := (fun x => x)) rfl (mz_fe (e := (248, .iastore, 1, (0, 0, 0), [])) (by decide +kernel)) (fun _ => rfl) rfl (ls_kt ha0) (ls_kl ha0) (fun g24 => ?_)
            refine q_iinc (v := y6) (c := 1) (L3 := [some (.ref a0), none, none, some (.ref 28), some (.int y4), some (.int (y5 + (-1))), some (.int (y6 + 1)), some (.int (mz_rd m (a0 + 1) (y6 : Int32).toNatClampNeg)), some (.int (mz_rd m (a0 + 4) (((y5 + (-1)) - 1) : Int32).toNatClampNeg)), some (.int (mz_rd m (a0 + 4) ((y5 + (-1)) : Int32).toNatClampNeg))]) (mz_fe (e := (249, .iinc 6 1, 3, (0, 0, 0), [])) (by decide +kernel)) rfl rfl (by decide) rfl ?_
            refine q_o (mz_fe (e := (252, .goto (-232), 3, (0, 0, 0), [])) (by decide +kernel)) (pc2 := 20) rfl ?_
            exact congrArg mz_cI (mz_At_msk (L := [some (.ref a0), none, none, some (.ref 28), some (.int y4), some (.int (y5 + (-1))), some (.int (y6 + 1)), some (.int (mz_rd m (a0 + 1) (y6 : Int32).toNatClampNeg)), some (.int (mz_rd m (a0 + 4) (((y5 + (-1)) - 1) : Int32).toNatClampNeg)), some (.int (mz_rd m (a0 + 4) ((y5 + (-1)) : Int32).toNatClampNeg))]) (L2 := [some (.ref a0), none, none, some (.ref 28), some (.int y4), some (.int (y5 + (-1))), some (.int (y6 + 1)), none, none, none]) (mz_fe (e := (20, .iload 6, 2, (0, 0, 0), [true, false, false, true, true, true, true, false, false, false])) (by decide +kernel)) rfl rfl)
          · refine q_ic (v := 0) (mz_fe (e := (239, .iconst 0, 1, (0, 0, 0), [])) (by decide +kernel)) (by decide) ?_
            refine q_o (mz_fe (e := (240, .goto 8, 3, (0, 0, 0), [])) (by decide +kernel)) (pc2 := 248) rfl ?_
            refine q_stAg (f := (fun x => x)) rfl (mz_fe (e := (248, .iastore, 1, (0, 0, 0), [])) (by decide +kernel)) (fun _ => rfl) rfl (ls_kt ha0) (ls_kl ha0) (fun g25 => ?_)
            refine q_iinc (v := y6) (c := 1) (L3 := [some (.ref a0), none, none, some (.ref 28), some (.int y4), some (.int (y5 + (-1))), some (.int (y6 + 1)), some (.int (mz_rd m (a0 + 1) (y6 : Int32).toNatClampNeg)), some (.int (mz_rd m (a0 + 4) (((y5 + (-1)) - 1) : Int32).toNatClampNeg)), some (.int (mz_rd m (a0 + 4) ((y5 + (-1)) : Int32).toNatClampNeg))]) (mz_fe (e := (249, .iinc 6 1, 3, (0, 0, 0), [])) (by decide +kernel)) rfl rfl (by decide) rfl ?_
            refine q_o (mz_fe (e := (252, .goto (-232), 3, (0, 0, 0), [])) (by decide +kernel)) (pc2 := 20) rfl ?_
            exact congrArg mz_cI (mz_At_msk (L := [some (.ref a0), none, none, some (.ref 28), some (.int y4), some (.int (y5 + (-1))), some (.int (y6 + 1)), some (.int (mz_rd m (a0 + 1) (y6 : Int32).toNatClampNeg)), some (.int (mz_rd m (a0 + 4) (((y5 + (-1)) - 1) : Int32).toNatClampNeg)), some (.int (mz_rd m (a0 + 4) ((y5 + (-1)) : Int32).toNatClampNeg))]) (L2 := [some (.ref a0), none, none, some (.ref 28), some (.int y4), some (.int (y5 + (-1))), some (.int (y6 + 1)), none, none, none]) (mz_fe (e := (20, .iload 6, 2, (0, 0, 0), [true, false, false, true, true, true, true, false, false, false])) (by decide +kernel)) rfl rfl)
    · refine q_o (mz_fe (e := (51, .iload 5, 2, (0, 0, 0), [])) (by decide +kernel)) (pc2 := 53) rfl ?_
      refine q_o (mz_fe (e := (53, .aload_n 0, 1, (0, 0, 0), [])) (by decide +kernel)) (pc2 := 54) rfl ?_
      refine q_getR (b := (a0 + 4)) (mz_fe (e := (54, .getfield 21, 10, (2, 3, 2), [])) (by decide +kernel)) rfl (ls_t ha0) (by rw [(ls_l ha0)]; decide) (ls_r3 ha0) ?_
      refine q_alen (v := 32) (mz_fe (e := (57, .arraylength, 1, (0, 0, 0), [])) (by decide +kernel)) rfl (by omega) (by rw [(ls_kt ha0)]; decide) (ls_kl ha0) (by decide) ?_
      refine q_if (c := .ge) (off := 37) (t := 95) (x := y5) (y := 32) (st := []) (mz_fe (e := (58, .if_icmp .ge 37, 3, (0, 0, 0), [])) (by decide +kernel)) (fun _ => rfl) rfl rfl rfl (fun c26 => ?_) (fun c26 => ?_)
      · refine q_o (mz_fe (e := (95, .iload 5, 2, (0, 0, 0), [])) (by decide +kernel)) (pc2 := 97) rfl ?_
        refine q_ic (v := 2) (mz_fe (e := (97, .iconst 2, 1, (0, 0, 0), [])) (by decide +kernel)) (by decide) ?_
        refine q_if (c := .lt) (off := 151) (t := 249) (x := y5) (y := 2) (st := []) (mz_fe (e := (98, .if_icmp .lt 151, 3, (0, 0, 0), [])) (by decide +kernel)) (fun _ => rfl) rfl rfl rfl (fun c27 => ?_) (fun c27 => ?_)
        · refine q_iinc (v := y6) (c := 1) (L3 := [some (.ref a0), none, none, some (.ref 28), some (.int y4), some (.int y5), some (.int (y6 + 1)), some (.int (mz_rd m (a0 + 1) (y6 : Int32).toNatClampNeg)), none, none]) (mz_fe (e := (249, .iinc 6 1, 3, (0, 0, 0), [])) (by decide +kernel)) rfl rfl (by decide) rfl ?_
          refine q_o (mz_fe (e := (252, .goto (-232), 3, (0, 0, 0), [])) (by decide +kernel)) (pc2 := 20) rfl ?_
          exact congrArg mz_cI (mz_At_msk (L := [some (.ref a0), none, none, some (.ref 28), some (.int y4), some (.int y5), some (.int (y6 + 1)), some (.int (mz_rd m (a0 + 1) (y6 : Int32).toNatClampNeg)), none, none]) (L2 := [some (.ref a0), none, none, some (.ref 28), some (.int y4), some (.int y5), some (.int (y6 + 1)), none, none, none]) (mz_fe (e := (20, .iload 6, 2, (0, 0, 0), [true, false, false, true, true, true, true, false, false, false])) (by decide +kernel)) rfl rfl)
        · refine q_iinc (v := y5) (c := (-1)) (L3 := [some (.ref a0), none, none, some (.ref 28), some (.int y4), some (.int (y5 + (-1))), some (.int y6), some (.int (mz_rd m (a0 + 1) (y6 : Int32).toNatClampNeg)), none, none]) (mz_fe (e := (101, .iinc 5 (-1), 3, (0, 0, 0), [])) (by decide +kernel)) rfl rfl (by decide) rfl ?_
          refine q_o (mz_fe (e := (104, .aload_n 0, 1, (0, 0, 0), [])) (by decide +kernel)) (pc2 := 105) rfl ?_
          refine q_getR (b := (a0 + 4)) (mz_fe (e := (105, .getfield 21, 10, (2, 3, 2), [])) (by decide +kernel)) rfl (ls_t ha0) (by rw [(ls_l ha0)]; decide) (ls_r3 ha0) ?_
          refine q_o (mz_fe (e := (108, .iload 5, 2, (0, 0, 0), [])) (by decide +kernel)) (pc2 := 110) rfl ?_
          refine q_ic (v := 1) (mz_fe (e := (110, .iconst 1, 1, (0, 0, 0), [])) (by decide +kernel)) (by decide) ?_
          refine q_o (mz_fe (e := (111, .isub, 1, (0, 0, 0), [])) (by decide +kernel)) (pc2 := 112) rfl ?_
          refine q_ialdg rfl (mz_fe (e := (112, .iaload, 1, (0, 0, 0), [])) (by decide +kernel)) rfl (by omega) (ls_kt ha0) (ls_kl ha0) (fun g28 => ?_)
          refine q_s (mz_fe (e := (113, .istore 8, 2, (0, 0, 0), [])) (by decide +kernel)) (pc' := 115) (L' := [some (.ref a0), none, none, some (.ref 28), some (.int y4), some (.int (y5 + (-1))), some (.int y6), some (.int (mz_rd m (a0 + 1) (y6 : Int32).toNatClampNeg)), some (.int (mz_rd m (a0 + 4) (((y5 + (-1)) - 1) : Int32).toNatClampNeg)), none]) (st' := []) rfl ?_
          refine q_o (mz_fe (e := (115, .aload_n 0, 1, (0, 0, 0), [])) (by decide +kernel)) (pc2 := 116) rfl ?_
          refine q_getR (b := (a0 + 4)) (mz_fe (e := (116, .getfield 21, 10, (2, 3, 2), [])) (by decide +kernel)) rfl (ls_t ha0) (by rw [(ls_l ha0)]; decide) (ls_r3 ha0) ?_
          refine q_o (mz_fe (e := (119, .iload 5, 2, (0, 0, 0), [])) (by decide +kernel)) (pc2 := 121) rfl ?_
          refine q_ialdg rfl (mz_fe (e := (121, .iaload, 1, (0, 0, 0), [])) (by decide +kernel)) rfl (by omega) (ls_kt ha0) (ls_kl ha0) (fun g29 => ?_)
          refine q_s (mz_fe (e := (122, .istore 9, 2, (0, 0, 0), [])) (by decide +kernel)) (pc' := 124) (L' := [some (.ref a0), none, none, some (.ref 28), some (.int y4), some (.int (y5 + (-1))), some (.int y6), some (.int (mz_rd m (a0 + 1) (y6 : Int32).toNatClampNeg)), some (.int (mz_rd m (a0 + 4) (((y5 + (-1)) - 1) : Int32).toNatClampNeg)), some (.int (mz_rd m (a0 + 4) ((y5 + (-1)) : Int32).toNatClampNeg))]) (st' := []) rfl ?_
          refine q_o (mz_fe (e := (124, .iload 7, 2, (0, 0, 0), [])) (by decide +kernel)) (pc2 := 126) rfl ?_
          refine q_si (v := 10009) (mz_fe (e := (126, .sipush 10009, 3, (0, 0, 0), [])) (by decide +kernel)) (by decide) ?_
          refine q_o (mz_fe (e := (129, .isub, 1, (0, 0, 0), [])) (by decide +kernel)) (pc2 := 130) rfl ?_
          refine mz_ite (P := ((mz_rd m (a0 + 1) (y6 : Int32).toNatClampNeg) - 10009) = 6) (fun c30 => ?_) (fun c30 => ?_)
          · refine q_sw (t := 156) (st := []) (mz_fe (e := (130, .tableswitch 77 6 8 #[26, 43, 60], 26, (0, 0, 0), [])) (by decide +kernel)) rfl (by rw [c30]; decide +kernel) ?_
            refine q_o (mz_fe (e := (156, .aload_n 0, 1, (0, 0, 0), [])) (by decide +kernel)) (pc2 := 157) rfl ?_
            refine q_getR (b := (a0 + 4)) (mz_fe (e := (157, .getfield 21, 10, (2, 3, 2), [])) (by decide +kernel)) rfl (ls_t ha0) (by rw [(ls_l ha0)]; decide) (ls_r3 ha0) ?_
            refine q_o (mz_fe (e := (160, .iload 5, 2, (0, 0, 0), [])) (by decide +kernel)) (pc2 := 162) rfl ?_
            refine q_ic (v := 1) (mz_fe (e := (162, .iconst 1, 1, (0, 0, 0), [])) (by decide +kernel)) (by decide) ?_
            refine q_o (mz_fe (e := (163, .isub, 1, (0, 0, 0), [])) (by decide +kernel)) (pc2 := 164) rfl ?_
            refine q_o (mz_fe (e := (164, .iload 8, 2, (0, 0, 0), [])) (by decide +kernel)) (pc2 := 166) rfl ?_
            refine q_o (mz_fe (e := (166, .iload 9, 2, (0, 0, 0), [])) (by decide +kernel)) (pc2 := 168) rfl ?_
            refine q_o (mz_fe (e := (168, .iadd, 1, (0, 0, 0), [])) (by decide +kernel)) (pc2 := 169) rfl ?_
            refine q_stAg (f := (fun x => x)) rfl (mz_fe (e := (169, .iastore, 1, (0, 0, 0), [])) (by decide +kernel)) (fun _ => rfl) rfl (ls_kt ha0) (ls_kl ha0) (fun g31 => ?_)
            refine q_o (mz_fe (e := (170, .goto 79, 3, (0, 0, 0), [])) (by decide +kernel)) (pc2 := 249) rfl ?_
            refine q_iinc (v := y6) (c := 1) (L3 := [some (.ref a0), none, none, some (.ref 28), some (.int y4), some (.int (y5 + (-1))), some (.int (y6 + 1)), some (.int (mz_rd m (a0 + 1) (y6 : Int32).toNatClampNeg)), some (.int (mz_rd m (a0 + 4) (((y5 + (-1)) - 1) : Int32).toNatClampNeg)), some (.int (mz_rd m (a0 + 4) ((y5 + (-1)) : Int32).toNatClampNeg))]) (mz_fe (e := (249, .iinc 6 1, 3, (0, 0, 0), [])) (by decide +kernel)) rfl rfl (by decide) rfl ?_
            refine q_o (mz_fe (e := (252, .goto (-232), 3, (0, 0, 0), [])) (by decide +kernel)) (pc2 := 20) rfl ?_
            exact congrArg mz_cI (mz_At_msk (L := [some (.ref a0), none, none, some (.ref 28), some (.int y4), some (.int (y5 + (-1))), some (.int (y6 + 1)), some (.int (mz_rd m (a0 + 1) (y6 : Int32).toNatClampNeg)), some (.int (mz_rd m (a0 + 4) (((y5 + (-1)) - 1) : Int32).toNatClampNeg)), some (.int (mz_rd m (a0 + 4) ((y5 + (-1)) : Int32).toNatClampNeg))]) (L2 := [some (.ref a0), none, none, some (.ref 28), some (.int y4), some (.int (y5 + (-1))), some (.int (y6 + 1)), none, none, none]) (mz_fe (e := (20, .iload 6, 2, (0, 0, 0), [true, false, false, true, true, true, true, false, false, false])) (by decide +kernel)) rfl rfl)
          refine mz_ite (P := ((mz_rd m (a0 + 1) (y6 : Int32).toNatClampNeg) - 10009) = 7) (fun c32 => ?_) (fun c32 => ?_)
          · refine q_sw (t := 173) (st := []) (mz_fe (e := (130, .tableswitch 77 6 8 #[26, 43, 60], 26, (0, 0, 0), [])) (by decide +kernel)) rfl (by rw [c32]; decide +kernel) ?_
            refine q_o (mz_fe (e := (173, .aload_n 0, 1, (0, 0, 0), [])) (by decide +kernel)) (pc2 := 174) rfl ?_
            refine q_getR (b := (a0 + 4)) (mz_fe (e := (174, .getfield 21, 10, (2, 3, 2), [])) (by decide +kernel)) rfl (ls_t ha0) (by rw [(ls_l ha0)]; decide) (ls_r3 ha0) ?_
            refine q_o (mz_fe (e := (177, .iload 5, 2, (0, 0, 0), [])) (by decide +kernel)) (pc2 := 179) rfl ?_
            refine q_ic (v := 1) (mz_fe (e := (179, .iconst 1, 1, (0, 0, 0), [])) (by decide +kernel)) (by decide) ?_
            refine q_o (mz_fe (e := (180, .isub, 1, (0, 0, 0), [])) (by decide +kernel)) (pc2 := 181) rfl ?_
            refine q_o (mz_fe (e := (181, .iload 8, 2, (0, 0, 0), [])) (by decide +kernel)) (pc2 := 183) rfl ?_
            refine q_o (mz_fe (e := (183, .iload 9, 2, (0, 0, 0), [])) (by decide +kernel)) (pc2 := 185) rfl ?_
            refine q_o (mz_fe (e := (185, .isub, 1, (0, 0, 0), [])) (by decide +kernel)) (pc2 := 186) rfl ?_
            refine q_stAg (f := (fun x => x)) rfl (mz_fe (e := (186, .iastore, 1, (0, 0, 0), [])) (by decide +kernel)) (fun _ => rfl) rfl (ls_kt ha0) (ls_kl ha0) (fun g33 => ?_)
            refine q_o (mz_fe (e := (187, .goto 62, 3, (0, 0, 0), [])) (by decide +kernel)) (pc2 := 249) rfl ?_
            refine q_iinc (v := y6) (c := 1) (L3 := [some (.ref a0), none, none, some (.ref 28), some (.int y4), some (.int (y5 + (-1))), some (.int (y6 + 1)), some (.int (mz_rd m (a0 + 1) (y6 : Int32).toNatClampNeg)), some (.int (mz_rd m (a0 + 4) (((y5 + (-1)) - 1) : Int32).toNatClampNeg)), some (.int (mz_rd m (a0 + 4) ((y5 + (-1)) : Int32).toNatClampNeg))]) (mz_fe (e := (249, .iinc 6 1, 3, (0, 0, 0), [])) (by decide +kernel)) rfl rfl (by decide) rfl ?_
            refine q_o (mz_fe (e := (252, .goto (-232), 3, (0, 0, 0), [])) (by decide +kernel)) (pc2 := 20) rfl ?_
            exact congrArg mz_cI (mz_At_msk (L := [some (.ref a0), none, none, some (.ref 28), some (.int y4), some (.int (y5 + (-1))), some (.int (y6 + 1)), some (.int (mz_rd m (a0 + 1) (y6 : Int32).toNatClampNeg)), some (.int (mz_rd m (a0 + 4) (((y5 + (-1)) - 1) : Int32).toNatClampNeg)), some (.int (mz_rd m (a0 + 4) ((y5 + (-1)) : Int32).toNatClampNeg))]) (L2 := [some (.ref a0), none, none, some (.ref 28), some (.int y4), some (.int (y5 + (-1))), some (.int (y6 + 1)), none, none, none]) (mz_fe (e := (20, .iload 6, 2, (0, 0, 0), [true, false, false, true, true, true, true, false, false, false])) (by decide +kernel)) rfl rfl)
          refine mz_ite (P := ((mz_rd m (a0 + 1) (y6 : Int32).toNatClampNeg) - 10009) = 8) (fun c34 => ?_) (fun c34 => ?_)
          · refine q_sw (t := 190) (st := []) (mz_fe (e := (130, .tableswitch 77 6 8 #[26, 43, 60], 26, (0, 0, 0), [])) (by decide +kernel)) rfl (by rw [c34]; decide +kernel) ?_
            refine q_o (mz_fe (e := (190, .aload_n 0, 1, (0, 0, 0), [])) (by decide +kernel)) (pc2 := 191) rfl ?_
            refine q_getR (b := (a0 + 4)) (mz_fe (e := (191, .getfield 21, 10, (2, 3, 2), [])) (by decide +kernel)) rfl (ls_t ha0) (by rw [(ls_l ha0)]; decide) (ls_r3 ha0) ?_
            refine q_o (mz_fe (e := (194, .iload 5, 2, (0, 0, 0), [])) (by decide +kernel)) (pc2 := 196) rfl ?_
            refine q_ic (v := 1) (mz_fe (e := (196, .iconst 1, 1, (0, 0, 0), [])) (by decide +kernel)) (by decide) ?_
            refine q_o (mz_fe (e := (197, .isub, 1, (0, 0, 0), [])) (by decide +kernel)) (pc2 := 198) rfl ?_
            refine q_o (mz_fe (e := (198, .iload 8, 2, (0, 0, 0), [])) (by decide +kernel)) (pc2 := 200) rfl ?_
            refine q_o (mz_fe (e := (200, .iload 9, 2, (0, 0, 0), [])) (by decide +kernel)) (pc2 := 202) rfl ?_
            refine q_o (mz_fe (e := (202, .imul, 1, (0, 0, 0), [])) (by decide +kernel)) (pc2 := 203) rfl ?_
            refine q_stAg (f := (fun x => x)) rfl (mz_fe (e := (203, .iastore, 1, (0, 0, 0), [])) (by decide +kernel)) (fun _ => rfl) rfl (ls_kt ha0) (ls_kl ha0) (fun g35 => ?_)
            refine q_o (mz_fe (e := (204, .goto 45, 3, (0, 0, 0), [])) (by decide +kernel)) (pc2 := 249) rfl ?_
            refine q_iinc (v := y6) (c := 1) (L3 := [some (.ref a0), none, none, some (.ref 28), some (.int y4), some (.int (y5 + (-1))), some (.int (y6 + 1)), some (.int (mz_rd m (a0 + 1) (y6 : Int32).toNatClampNeg)), some (.int (mz_rd m (a0 + 4) (((y5 + (-1)) - 1) : Int32).toNatClampNeg)), some (.int (mz_rd m (a0 + 4) ((y5 + (-1)) : Int32).toNatClampNeg))]) (mz_fe (e := (249, .iinc 6 1, 3, (0, 0, 0), [])) (by decide +kernel)) rfl rfl (by decide) rfl ?_
            refine q_o (mz_fe (e := (252, .goto (-232), 3, (0, 0, 0), [])) (by decide +kernel)) (pc2 := 20) rfl ?_
            exact congrArg mz_cI (mz_At_msk (L := [some (.ref a0), none, none, some (.ref 28), some (.int y4), some (.int (y5 + (-1))), some (.int (y6 + 1)), some (.int (mz_rd m (a0 + 1) (y6 : Int32).toNatClampNeg)), some (.int (mz_rd m (a0 + 4) (((y5 + (-1)) - 1) : Int32).toNatClampNeg)), some (.int (mz_rd m (a0 + 4) ((y5 + (-1)) : Int32).toNatClampNeg))]) (L2 := [some (.ref a0), none, none, some (.ref 28), some (.int y4), some (.int (y5 + (-1))), some (.int (y6 + 1)), none, none, none]) (mz_fe (e := (20, .iload 6, 2, (0, 0, 0), [true, false, false, true, true, true, true, false, false, false])) (by decide +kernel)) rfl rfl)
          refine q_sw (t := 207) (st := []) (mz_fe (e := (130, .tableswitch 77 6 8 #[26, 43, 60], 26, (0, 0, 0), [])) (by decide +kernel)) rfl (mz_swd [6, 7, 8] (by decide +kernel) (List.forall_mem_cons.mpr ⟨c30, (List.forall_mem_cons.mpr ⟨c32, (List.forall_mem_cons.mpr ⟨c34, (fun _ z => absurd z List.not_mem_nil)⟩)⟩)⟩)) ?_
          refine q_o (mz_fe (e := (207, .aload_n 0, 1, (0, 0, 0), [])) (by decide +kernel)) (pc2 := 208) rfl ?_
          refine q_o (mz_fe (e := (208, .dup, 1, (0, 0, 0), [])) (by decide +kernel)) (pc2 := 209) rfl ?_
          refine q_getI (mz_fe (e := (209, .getfield 50, 12, (2, 5, 1), [])) (by decide +kernel)) rfl (by decide) (ls_t ha0) (by rw [(ls_l ha0)]; decide) ?_
          refine q_o (mz_fe (e := (212, .iload 9, 2, (0, 0, 0), [])) (by decide +kernel)) (pc2 := 214) rfl ?_
          refine q_if (c := .ne) (off := 7) (t := 221) (x := (mz_rd m (a0 + 4) ((y5 + (-1)) : Int32).toNatClampNeg)) (y := 0) (st := [.int (mz_rd m a0 5), .ref a0]) (mz_fe (e := (214, .ifCond .ne 7, 3, (0, 0, 0), [])) (by decide +kernel)) (fun _ => rfl) rfl rfl rfl (fun c36 => ?_) (fun c36 => ?_)
          · refine q_ic (v := 0) (mz_fe (e := (221, .iconst 0, 1, (0, 0, 0), [])) (by decide +kernel)) (by decide) ?_
            refine q_o (mz_fe (e := (222, .ior, 1, (0, 0, 0), [])) (by decide +kernel)) (pc2 := 223) rfl ?_
            refine q_putZg rfl (mz_fe (e := (223, .putfield 50, 12, (2, 5, 1), [])) (by decide +kernel)) rfl (ls_t ha0) (by rw [(ls_l ha0)]; decide) (fun g37 => ?_)
            refine q_o (mz_fe (e := (226, .aload_n 0, 1, (0, 0, 0), [])) (by decide +kernel)) (pc2 := 227) rfl ?_
            refine q_getR (b := (a0 + 4)) (mz_fe (e := (227, .getfield 21, 10, (2, 3, 2), [])) (by decide +kernel)) rfl (ls_t ha0) (by rw [(ls_l ha0)]; decide) (ls_r3 ha0) ?_
            refine q_o (mz_fe (e := (230, .iload 5, 2, (0, 0, 0), [])) (by decide +kernel)) (pc2 := 232) rfl ?_
            refine q_ic (v := 1) (mz_fe (e := (232, .iconst 1, 1, (0, 0, 0), [])) (by decide +kernel)) (by decide) ?_
            refine q_o (mz_fe (e := (233, .isub, 1, (0, 0, 0), [])) (by decide +kernel)) (pc2 := 234) rfl ?_
            refine q_o (mz_fe (e := (234, .iload 9, 2, (0, 0, 0), [])) (by decide +kernel)) (pc2 := 236) rfl ?_
            refine q_if (c := .ne) (off := 7) (t := 243) (x := (mz_rd m (a0 + 4) ((y5 + (-1)) : Int32).toNatClampNeg)) (y := 0) (st := [.int ((y5 + (-1)) - 1), .ref (a0 + 4)]) (mz_fe (e := (236, .ifCond .ne 7, 3, (0, 0, 0), [])) (by decide +kernel)) (fun _ => rfl) rfl rfl rfl (fun c38 => ?_) (fun c38 => ?_)
            · refine q_o (mz_fe (e := (243, .iload 8, 2, (0, 0, 0), [])) (by decide +kernel)) (pc2 := 245) rfl ?_
              refine q_o (mz_fe (e := (245, .iload 9, 2, (0, 0, 0), [])) (by decide +kernel)) (pc2 := 247) rfl ?_
              refine q_div (z := fun x y => x / y) rfl (mz_fe (e := (247, .idiv, 1, (0, 0, 0), [])) (by decide +kernel)) (fun _ => rfl) rfl (fun g39 => ?_)
              refine q_stAg (f := (fun x => x)) rfl (mz_fe (e := (248, .iastore, 1, (0, 0, 0), [])) (by decide +kernel)) (fun _ => rfl) rfl (ls_kt ha0) (ls_kl ha0) (fun g40 => ?_)
              refine q_iinc (v := y6) (c := 1) (L3 := [some (.ref a0), none, none, some (.ref 28), some (.int y4), some (.int (y5 + (-1))), some (.int (y6 + 1)), some (.int (mz_rd m (a0 + 1) (y6 : Int32).toNatClampNeg)), some (.int (mz_rd m (a0 + 4) (((y5 + (-1)) - 1) : Int32).toNatClampNeg)), some (.int (mz_rd m (a0 + 4) ((y5 + (-1)) : Int32).toNatClampNeg))]) (mz_fe (e := (249, .iinc 6 1, 3, (0, 0, 0), [])) (by decide +kernel)) rfl rfl (by decide) rfl ?_
              refine q_o (mz_fe (e := (252, .goto (-232), 3, (0, 0, 0), [])) (by decide +kernel)) (pc2 := 20) rfl ?_
              exact congrArg mz_cI (mz_At_msk (L := [some (.ref a0), none, none, some (.ref 28), some (.int y4), some (.int (y5 + (-1))), some (.int (y6 + 1)), some (.int (mz_rd m (a0 + 1) (y6 : Int32).toNatClampNeg)), some (.int (mz_rd m (a0 + 4) (((y5 + (-1)) - 1) : Int32).toNatClampNeg)), some (.int (mz_rd m (a0 + 4) ((y5 + (-1)) : Int32).toNatClampNeg))]) (L2 := [some (.ref a0), none, none, some (.ref 28), some (.int y4), some (.int (y5 + (-1))), some (.int (y6 + 1)), none, none, none]) (mz_fe (e := (20, .iload 6, 2, (0, 0, 0), [true, false, false, true, true, true, true, false, false, false])) (by decide +kernel)) rfl rfl)
            · refine q_ic (v := 0) (mz_fe (e := (239, .iconst 0, 1, (0, 0, 0), [])) (by decide +kernel)) (by decide) ?_
              refine q_o (mz_fe (e := (240, .goto 8, 3, (0, 0, 0), [])) (by decide +kernel)) (pc2 := 248) rfl ?_
              refine q_stAg (f := (fun x => x)) rfl (mz_fe (e := (248, .iastore, 1, (0, 0, 0), [])) (by decide +kernel)) (fun _ => rfl) rfl (ls_kt ha0) (ls_kl ha0) (fun g41 => ?_)
              refine q_iinc (v := y6) (c := 1) (L3 := [some (.ref a0), none, none, some (.ref 28), some (.int y4), some (.int (y5 + (-1))), some (.int (y6 + 1)), some (.int (mz_rd m (a0 + 1) (y6 : Int32).toNatClampNeg)), some (.int (mz_rd m (a0 + 4) (((y5 + (-1)) - 1) : Int32).toNatClampNeg)), some (.int (mz_rd m (a0 + 4) ((y5 + (-1)) : Int32).toNatClampNeg))]) (mz_fe (e := (249, .iinc 6 1, 3, (0, 0, 0), [])) (by decide +kernel)) rfl rfl (by decide) rfl ?_
              refine q_o (mz_fe (e := (252, .goto (-232), 3, (0, 0, 0), [])) (by decide +kernel)) (pc2 := 20) rfl ?_
              exact congrArg mz_cI (mz_At_msk (L := [some (.ref a0), none, none, some (.ref 28), some (.int y4), some (.int (y5 + (-1))), some (.int (y6 + 1)), some (.int (mz_rd m (a0 + 1) (y6 : Int32).toNatClampNeg)), some (.int (mz_rd m (a0 + 4) (((y5 + (-1)) - 1) : Int32).toNatClampNeg)), some (.int (mz_rd m (a0 + 4) ((y5 + (-1)) : Int32).toNatClampNeg))]) (L2 := [some (.ref a0), none, none, some (.ref 28), some (.int y4), some (.int (y5 + (-1))), some (.int (y6 + 1)), none, none, none]) (mz_fe (e := (20, .iload 6, 2, (0, 0, 0), [true, false, false, true, true, true, true, false, false, false])) (by decide +kernel)) rfl rfl)
          · refine q_ic (v := 1) (mz_fe (e := (217, .iconst 1, 1, (0, 0, 0), [])) (by decide +kernel)) (by decide) ?_
            refine q_o (mz_fe (e := (218, .goto 4, 3, (0, 0, 0), [])) (by decide +kernel)) (pc2 := 222) rfl ?_
            refine q_o (mz_fe (e := (222, .ior, 1, (0, 0, 0), [])) (by decide +kernel)) (pc2 := 223) rfl ?_
            refine q_putZg rfl (mz_fe (e := (223, .putfield 50, 12, (2, 5, 1), [])) (by decide +kernel)) rfl (ls_t ha0) (by rw [(ls_l ha0)]; decide) (fun g42 => ?_)
            refine q_o (mz_fe (e := (226, .aload_n 0, 1, (0, 0, 0), [])) (by decide +kernel)) (pc2 := 227) rfl ?_
            refine q_getR (b := (a0 + 4)) (mz_fe (e := (227, .getfield 21, 10, (2, 3, 2), [])) (by decide +kernel)) rfl (ls_t ha0) (by rw [(ls_l ha0)]; decide) (ls_r3 ha0) ?_
            refine q_o (mz_fe (e := (230, .iload 5, 2, (0, 0, 0), [])) (by decide +kernel)) (pc2 := 232) rfl ?_
            refine q_ic (v := 1) (mz_fe (e := (232, .iconst 1, 1, (0, 0, 0), [])) (by decide +kernel)) (by decide) ?_
            refine q_o (mz_fe (e := (233, .isub, 1, (0, 0, 0), [])) (by decide +kernel)) (pc2 := 234) rfl ?_
            refine q_o (mz_fe (e := (234, .iload 9, 2, (0, 0, 0), [])) (by decide +kernel)) (pc2 := 236) rfl ?_
            refine q_if (c := .ne) (off := 7) (t := 243) (x := (mz_rd m (a0 + 4) ((y5 + (-1)) : Int32).toNatClampNeg)) (y := 0) (st := [.int ((y5 + (-1)) - 1), .ref (a0 + 4)]) (mz_fe (e := (236, .ifCond .ne 7, 3, (0, 0, 0), [])) (by decide +kernel)) (fun _ => rfl) rfl rfl rfl (fun c43 => ?_) (fun c43 => ?_)
            · refine q_o (mz_fe (e := (243, .iload 8, 2, (0, 0, 0), [])) (by decide +kernel)) (pc2 := 245) rfl ?_
              refine q_o (mz_fe (e := (245, .iload 9, 2, (0, 0, 0), [])) (by decide +kernel)) (pc2 := 247) rfl ?_
              refine q_div (z := fun x y => x / y) rfl (mz_fe (e := (247, .idiv, 1, (0, 0, 0), [])) (by decide +kernel)) (fun _ => rfl) rfl (fun g44 => ?_)
              refine q_stAg (f := (fun x => x)) rfl (mz_fe (e := (248, .iastore, 1, (0, 0, 0), [])) (by decide +kernel)) (fun _ => rfl) rfl (ls_kt ha0) (ls_kl ha0) (fun g45 => ?_)
              refine q_iinc (v := y6) (c := 1) (L3 := [some (.ref a0), none, none, some (.ref 28), some (.int y4), some (.int (y5 + (-1))), some (.int (y6 + 1)), some (.int (mz_rd m (a0 + 1) (y6 : Int32).toNatClampNeg)), some (.int (mz_rd m (a0 + 4) (((y5 + (-1)) - 1) : Int32).toNatClampNeg)), some (.int (mz_rd m (a0 + 4) ((y5 + (-1)) : Int32).toNatClampNeg))]) (mz_fe (e := (249, .iinc 6 1, 3, (0, 0, 0), [])) (by decide +kernel)) rfl rfl (by decide) rfl ?_
              refine q_o (mz_fe (e := (252, .goto (-232), 3, (0, 0, 0), [])) (by decide +kernel)) (pc2 := 20) rfl ?_
              exact congrArg mz_cI (mz_At_msk (L := [some (.ref a0), none, none, some (.ref 28), some (.int y4), some (.int (y5 + (-1))), some (.int (y6 + 1)), some (.int (mz_rd m (a0 + 1) (y6 : Int32).toNatClampNeg)), some (.int (mz_rd m (a0 + 4) (((y5 + (-1)) - 1) : Int32).toNatClampNeg)), some (.int (mz_rd m (a0 + 4) ((y5 + (-1)) : Int32).toNatClampNeg))]) (L2 := [some (.ref a0), none, none, some (.ref 28), some (.int y4), some (.int (y5 + (-1))), some (.int (y6 + 1)), none, none, none]) (mz_fe (e := (20, .iload 6, 2, (0, 0, 0), [true, false, false, true, true, true, true, false, false, false])) (by decide +kernel)) rfl rfl)
            · refine q_ic (v := 0) (mz_fe (e := (239, .iconst 0, 1, (0, 0, 0), [])) (by decide +kernel)) (by decide) ?_
              refine q_o (mz_fe (e := (240, .goto 8, 3, (0, 0, 0), [])) (by decide +kernel)) (pc2 := 248) rfl ?_
              refine q_stAg (f := (fun x => x)) rfl (mz_fe (e := (248, .iastore, 1, (0, 0, 0), [])) (by decide +kernel)) (fun _ => rfl) rfl (ls_kt ha0) (ls_kl ha0) (fun g46 => ?_)
              refine q_iinc (v := y6) (c := 1) (L3 := [some (.ref a0), none, none, some (.ref 28), some (.int y4), some (.int (y5 + (-1))), some (.int (y6 + 1)), some (.int (mz_rd m (a0 + 1) (y6 : Int32).toNatClampNeg)), some (.int (mz_rd m (a0 + 4) (((y5 + (-1)) - 1) : Int32).toNatClampNeg)), some (.int (mz_rd m (a0 + 4) ((y5 + (-1)) : Int32).toNatClampNeg))]) (mz_fe (e := (249, .iinc 6 1, 3, (0, 0, 0), [])) (by decide +kernel)) rfl rfl (by decide) rfl ?_
              refine q_o (mz_fe (e := (252, .goto (-232), 3, (0, 0, 0), [])) (by decide +kernel)) (pc2 := 20) rfl ?_
              exact congrArg mz_cI (mz_At_msk (L := [some (.ref a0), none, none, some (.ref 28), some (.int y4), some (.int (y5 + (-1))), some (.int (y6 + 1)), some (.int (mz_rd m (a0 + 1) (y6 : Int32).toNatClampNeg)), some (.int (mz_rd m (a0 + 4) (((y5 + (-1)) - 1) : Int32).toNatClampNeg)), some (.int (mz_rd m (a0 + 4) ((y5 + (-1)) : Int32).toNatClampNeg))]) (L2 := [some (.ref a0), none, none, some (.ref 28), some (.int y4), some (.int (y5 + (-1))), some (.int (y6 + 1)), none, none, none]) (mz_fe (e := (20, .iload 6, 2, (0, 0, 0), [true, false, false, true, true, true, true, false, false, false])) (by decide +kernel)) rfl rfl)
      · refine q_o (mz_fe (e := (61, .aload_n 0, 1, (0, 0, 0), [])) (by decide +kernel)) (pc2 := 62) rfl ?_
        refine q_getR (b := (a0 + 4)) (mz_fe (e := (62, .getfield 21, 10, (2, 3, 2), [])) (by decide +kernel)) rfl (ls_t ha0) (by rw [(ls_l ha0)]; decide) (ls_r3 ha0) ?_
        refine q_o (mz_fe (e := (65, .iload 5, 2, (0, 0, 0), [])) (by decide +kernel)) (pc2 := 67) rfl ?_
        refine q_o (mz_fe (e := (67, .iload 7, 2, (0, 0, 0), [])) (by decide +kernel)) (pc2 := 69) rfl ?_
        refine q_si (v := 10000) (mz_fe (e := (69, .sipush 10000, 3, (0, 0, 0), [])) (by decide +kernel)) (by decide) ?_
        refine q_if (c := .ge) (off := 8) (t := 80) (x := (mz_rd m (a0 + 1) (y6 : Int32).toNatClampNeg)) (y := 10000) (st := [.int y5, .ref (a0 + 4)]) (mz_fe (e := (72, .if_icmp .ge 8, 3, (0, 0, 0), [])) (by decide +kernel)) (fun _ => rfl) rfl rfl rfl (fun c47 => ?_) (fun c47 => ?_)
        · refine q_o (mz_fe (e := (80, .aload_n 3, 1, (0, 0, 0), [])) (by decide +kernel)) (pc2 := 81) rfl ?_
          refine q_o (mz_fe (e := (81, .iload 7, 2, (0, 0, 0), [])) (by decide +kernel)) (pc2 := 83) rfl ?_
          refine q_si (v := 10000) (mz_fe (e := (83, .sipush 10000, 3, (0, 0, 0), [])) (by decide +kernel)) (by decide) ?_
          refine q_o (mz_fe (e := (86, .isub, 1, (0, 0, 0), [])) (by decide +kernel)) (pc2 := 87) rfl ?_
          refine q_ialdg rfl (mz_fe (e := (87, .iaload, 1, (0, 0, 0), [])) (by decide +kernel)) rfl (by decide) tg_28 ln_28 (fun g48 => ?_)
          refine q_stAg (f := (fun x => x)) rfl (mz_fe (e := (88, .iastore, 1, (0, 0, 0), [])) (by decide +kernel)) (fun _ => rfl) rfl (ls_kt ha0) (ls_kl ha0) (fun g49 => ?_)
          refine q_iinc (v := y5) (c := 1) (L3 := [some (.ref a0), none, none, some (.ref 28), some (.int y4), some (.int (y5 + 1)), some (.int y6), some (.int (mz_rd m (a0 + 1) (y6 : Int32).toNatClampNeg)), none, none]) (mz_fe (e := (89, .iinc 5 1, 3, (0, 0, 0), [])) (by decide +kernel)) rfl rfl (by decide) rfl ?_
          refine q_o (mz_fe (e := (92, .goto 157, 3, (0, 0, 0), [])) (by decide +kernel)) (pc2 := 249) rfl ?_
          refine q_iinc (v := y6) (c := 1) (L3 := [some (.ref a0), none, none, some (.ref 28), some (.int y4), some (.int (y5 + 1)), some (.int (y6 + 1)), some (.int (mz_rd m (a0 + 1) (y6 : Int32).toNatClampNeg)), none, none]) (mz_fe (e := (249, .iinc 6 1, 3, (0, 0, 0), [])) (by decide +kernel)) rfl rfl (by decide) rfl ?_
          refine q_o (mz_fe (e := (252, .goto (-232), 3, (0, 0, 0), [])) (by decide +kernel)) (pc2 := 20) rfl ?_
          exact congrArg mz_cI (mz_At_msk (L := [some (.ref a0), none, none, some (.ref 28), some (.int y4), some (.int (y5 + 1)), some (.int (y6 + 1)), some (.int (mz_rd m (a0 + 1) (y6 : Int32).toNatClampNeg)), none, none]) (L2 := [some (.ref a0), none, none, some (.ref 28), some (.int y4), some (.int (y5 + 1)), some (.int (y6 + 1)), none, none, none]) (mz_fe (e := (20, .iload 6, 2, (0, 0, 0), [true, false, false, true, true, true, true, false, false, false])) (by decide +kernel)) rfl rfl)
        · refine q_o (mz_fe (e := (75, .iload 7, 2, (0, 0, 0), [])) (by decide +kernel)) (pc2 := 77) rfl ?_
          refine q_o (mz_fe (e := (77, .goto 11, 3, (0, 0, 0), [])) (by decide +kernel)) (pc2 := 88) rfl ?_
          refine q_stAg (f := (fun x => x)) rfl (mz_fe (e := (88, .iastore, 1, (0, 0, 0), [])) (by decide +kernel)) (fun _ => rfl) rfl (ls_kt ha0) (ls_kl ha0) (fun g50 => ?_)
          refine q_iinc (v := y5) (c := 1) (L3 := [some (.ref a0), none, none, some (.ref 28), some (.int y4), some (.int (y5 + 1)), some (.int y6), some (.int (mz_rd m (a0 + 1) (y6 : Int32).toNatClampNeg)), none, none]) (mz_fe (e := (89, .iinc 5 1, 3, (0, 0, 0), [])) (by decide +kernel)) rfl rfl (by decide) rfl ?_
          refine q_o (mz_fe (e := (92, .goto 157, 3, (0, 0, 0), [])) (by decide +kernel)) (pc2 := 249) rfl ?_
          refine q_iinc (v := y6) (c := 1) (L3 := [some (.ref a0), none, none, some (.ref 28), some (.int y4), some (.int (y5 + 1)), some (.int (y6 + 1)), some (.int (mz_rd m (a0 + 1) (y6 : Int32).toNatClampNeg)), none, none]) (mz_fe (e := (249, .iinc 6 1, 3, (0, 0, 0), [])) (by decide +kernel)) rfl rfl (by decide) rfl ?_
          refine q_o (mz_fe (e := (252, .goto (-232), 3, (0, 0, 0), [])) (by decide +kernel)) (pc2 := 20) rfl ?_
          exact congrArg mz_cI (mz_At_msk (L := [some (.ref a0), none, none, some (.ref 28), some (.int y4), some (.int (y5 + 1)), some (.int (y6 + 1)), some (.int (mz_rd m (a0 + 1) (y6 : Int32).toNatClampNeg)), none, none]) (L2 := [some (.ref a0), none, none, some (.ref 28), some (.int y4), some (.int (y5 + 1)), some (.int (y6 + 1)), none, none, none]) (mz_fe (e := (20, .iload 6, 2, (0, 0, 0), [true, false, false, true, true, true, true, false, false, false])) (by decide +kernel)) rfl rfl)
set_option maxRecDepth 10000 in
theorem R_X6_copyFrom_eq (d : Nat) (s : Nat) (s2 : Nat) (m : MzM) (hs : mz_isS s = true) (hs2 : mz_isS s2 = true) : R_X6_copyFrom d s s2 m = some (mz_wr (mz_wr (mz_wr (mz_wr (mz_wr (mz_cp (mz_cp (mz_cp m (s2 + 1) 0 (s + 1) 0 24) (s2 + 2) 0 (s + 2) 0 4) (s2 + 3) 0 (s + 3) 0 6) s 3 (mz_rd (mz_cp (mz_cp (mz_cp m (s2 + 1) 0 (s + 1) 0 24) (s2 + 2) 0 (s + 2) 0 4) (s2 + 3) 0 (s + 3) 0 6) s2 3)) s 4 (mz_rd (mz_wr (mz_cp (mz_cp (mz_cp m (s2 + 1) 0 (s + 1) 0 24) (s2 + 2) 0 (s + 2) 0 4) (s2 + 3) 0 (s + 3) 0 6) s 3 (mz_rd (mz_cp (mz_cp (mz_cp m (s2 + 1) 0 (s + 1) 0 24) (s2 + 2) 0 (s + 2) 0 4) (s2 + 3) 0 (s + 3) 0 6) s2 3)) s2 4)) s 5 (mz_rd (mz_wr (mz_wr (mz_cp (mz_cp (mz_cp m (s2 + 1) 0 (s + 1) 0 24) (s2 + 2) 0 (s + 2) 0 4) (s2 + 3) 0 (s + 3) 0 6) s 3 (mz_rd (mz_cp (mz_cp (mz_cp m (s2 + 1) 0 (s + 1) 0 24) (s2 + 2) 0 (s + 2) 0 4) (s2 + 3) 0 (s + 3) 0 6) s2 3)) s 4 (mz_rd (mz_wr (mz_cp (mz_cp (mz_cp m (s2 + 1) 0 (s + 1) 0 24) (s2 + 2) 0 (s + 2) 0 4) (s2 + 3) 0 (s + 3) 0 6) s 3 (mz_rd (mz_cp (mz_cp (mz_cp m (s2 + 1) 0 (s + 1) 0 24) (s2 + 2) 0 (s + 2) 0 4) (s2 + 3) 0 (s + 3) 0 6) s2 3)) s2 4)) s2 5)) s 6 (mz_rd (mz_wr (mz_wr (mz_wr (mz_cp (mz_cp (mz_cp m (s2 + 1) 0 (s + 1) 0 24) (s2 + 2) 0 (s + 2) 0 4) (s2 + 3) 0 (s + 3) 0 6) s 3 (mz_rd (mz_cp (mz_cp (mz_cp m (s2 + 1) 0 (s + 1) 0 24) (s2 + 2) 0 (s + 2) 0 4) (s2 + 3) 0 (s + 3) 0 6) s2 3)) s 4 (mz_rd (mz_wr (mz_cp (mz_cp (mz_cp m (s2 + 1) 0 (s + 1) 0 24) (s2 + 2) 0 (s + 2) 0 4) (s2 + 3) 0 (s + 3) 0 6) s 3 (mz_rd (mz_cp (mz_cp (mz_cp m (s2 + 1) 0 (s + 1) 0 24) (s2 + 2) 0 (s + 2) 0 4) (s2 + 3) 0 (s + 3) 0 6) s2 3)) s2 4)) s 5 (mz_rd (mz_wr (mz_wr (mz_cp (mz_cp (mz_cp m (s2 + 1) 0 (s + 1) 0 24) (s2 + 2) 0 (s + 2) 0 4) (s2 + 3) 0 (s + 3) 0 6) s 3 (mz_rd (mz_cp (mz_cp (mz_cp m (s2 + 1) 0 (s + 1) 0 24) (s2 + 2) 0 (s + 2) 0 4) (s2 + 3) 0 (s + 3) 0 6) s2 3)) s 4 (mz_rd (mz_wr (mz_cp (mz_cp (mz_cp m (s2 + 1) 0 (s + 1) 0 24) (s2 + 2) 0 (s + 2) 0 4) (s2 + 3) 0 (s + 3) 0 6) s 3 (mz_rd (mz_cp (mz_cp (mz_cp m (s2 + 1) 0 (s + 1) 0 24) (s2 + 2) 0 (s + 2) 0 4) (s2 + 3) 0 (s + 3) 0 6) s2 3)) s2 4)) s2 5)) s2 6)) s 7 (mz_rd (mz_wr (mz_wr (mz_wr (mz_wr (mz_cp (mz_cp (mz_cp m (s2 + 1) 0 (s + 1) 0 24) (s2 + 2) 0 (s + 2) 0 4) (s2 + 3) 0 (s + 3) 0 6) s 3 (mz_rd (mz_cp (mz_cp (mz_cp m (s2 + 1) 0 (s + 1) 0 24) (s2 + 2) 0 (s + 2) 0 4) (s2 + 3) 0 (s + 3) 0 6) s2 3)) s 4 (mz_rd (mz_wr (mz_cp (mz_cp (mz_cp m (s2 + 1) 0 (s + 1) 0 24) (s2 + 2) 0 (s + 2) 0 4) (s2 + 3) 0 (s + 3) 0 6) s 3 (mz_rd (mz_cp (mz_cp (mz_cp m (s2 + 1) 0 (s + 1) 0 24) (s2 + 2) 0 (s + 2) 0 4) (s2 + 3) 0 (s + 3) 0 6) s2 3)) s2 4)) s 5 (mz_rd (mz_wr (mz_wr (mz_cp (mz_cp (mz_cp m (s2 + 1) 0 (s + 1) 0 24) (s2 + 2) 0 (s + 2) 0 4) (s2 + 3) 0 (s + 3) 0 6) s 3 (mz_rd (mz_cp (mz_cp (mz_cp m (s2 + 1) 0 (s + 1) 0 24) (s2 + 2) 0 (s + 2) 0 4) (s2 + 3) 0 (s + 3) 0 6) s2 3)) s 4 (mz_rd (mz_wr (mz_cp (mz_cp (mz_cp m (s2 + 1) 0 (s + 1) 0 24) (s2 + 2) 0 (s + 2) 0 4) (s2 + 3) 0 (s + 3) 0 6) s 3 (mz_rd (mz_cp (mz_cp (mz_cp m (s2 + 1) 0 (s + 1) 0 24) (s2 + 2) 0 (s + 2) 0 4) (s2 + 3) 0 (s + 3) 0 6) s2 3)) s2 4)) s2 5)) s 6 (mz_rd (mz_wr (mz_wr (mz_wr (mz_cp (mz_cp (mz_cp m (s2 + 1) 0 (s + 1) 0 24) (s2 + 2) 0 (s + 2) 0 4) (s2 + 3) 0 (s + 3) 0 6) s 3 (mz_rd (mz_cp (mz_cp (mz_cp m (s2 + 1) 0 (s + 1) 0 24) (s2 + 2) 0 (s + 2) 0 4) (s2 + 3) 0 (s + 3) 0 6) s2 3)) s 4 (mz_rd (mz_wr (mz_cp (mz_cp (mz_cp m (s2 + 1) 0 (s + 1) 0 24) (s2 + 2) 0 (s + 2) 0 4) (s2 + 3) 0 (s + 3) 0 6) s 3 (mz_rd (mz_cp (mz_cp (mz_cp m (s2 + 1) 0 (s + 1) 0 24) (s2 + 2) 0 (s + 2) 0 4) (s2 + 3) 0 (s + 3) 0 6) s2 3)) s2 4)) s 5 (mz_rd (mz_wr (mz_wr (mz_cp (mz_cp (mz_cp m (s2 + 1) 0 (s + 1) 0 24) (s2 + 2) 0 (s + 2) 0 4) (s2 + 3) 0 (s + 3) 0 6) s 3 (mz_rd (mz_cp (mz_cp (mz_cp m (s2 + 1) 0 (s + 1) 0 24) (s2 + 2) 0 (s + 2) 0 4) (s2 + 3) 0 (s + 3) 0 6) s2 3)) s 4 (mz_rd (mz_wr (mz_cp (mz_cp (mz_cp m (s2 + 1) 0 (s + 1) 0 24) (s2 + 2) 0 (s + 2) 0 4) (s2 + 3) 0 (s + 3) 0 6) s 3 (mz_rd (mz_cp (mz_cp (mz_cp m (s2 + 1) 0 (s + 1) 0 24) (s2 + 2) 0 (s + 2) 0 4) (s2 + 3) 0 (s + 3) 0 6) s2 3)) s2 4)) s2 5)) s2 6)) s2 7)) := by
  show mz_cV (mz_T d 68 0 (mz_en (mz_xl 68) [.ref s, .ref s2]) [] m) = _
  rw [show mz_en (mz_xl 68) [.ref s, .ref s2] = [some (.ref s), some (.ref s2)] from by rw [show mz_xl 68 = 2 from by decide +kernel]; rfl]
  refine q_o (mz_fe (e := (0, .aload_n 1, 1, (0, 0, 0), [])) (by decide +kernel)) (pc2 := 1) rfl ?_
  refine q_getR (b := (s2 + 1)) (mz_fe (e := (1, .getfield 9, 54, (6, 0, 2), [])) (by decide +kernel)) rfl (st_t hs2) (by rw [(st_l hs2)]; decide) (st_c hs2) ?_
  refine q_ic (v := 0) (mz_fe (e := (4, .iconst 0, 1, (0, 0, 0), [])) (by decide +kernel)) (by decide) ?_
  refine q_o (mz_fe (e := (5, .aload_n 0, 1, (0, 0, 0), [])) (by decide +kernel)) (pc2 := 6) rfl ?_
  refine q_getR (b := (s + 1)) (mz_fe (e := (6, .getfield 9, 54, (6, 0, 2), [])) (by decide +kernel)) rfl (st_t hs) (by rw [(st_l hs)]; decide) (st_c hs) ?_
  refine q_ic (v := 0) (mz_fe (e := (9, .iconst 0, 1, (0, 0, 0), [])) (by decide +kernel)) (by decide) ?_
  refine q_o (mz_fe (e := (10, .aload_n 0, 1, (0, 0, 0), [])) (by decide +kernel)) (pc2 := 11) rfl ?_
  refine q_getR (b := (s + 1)) (mz_fe (e := (11, .getfield 9, 54, (6, 0, 2), [])) (by decide +kernel)) rfl (st_t hs) (by rw [(st_l hs)]; decide) (st_c hs) ?_
  refine q_alen (v := 24) (mz_fe (e := (14, .arraylength, 1, (0, 0, 0), [])) (by decide +kernel)) rfl (by omega) (by rw [(st_ct hs)]; decide) (st_cl hs) (by decide) ?_
  refine q_cpy (mz_fe (e := (15, .invokestatic 25, 15, (9998, 0, 0), [])) (by decide +kernel)) rfl (st_ct hs2) (st_ct hs) (st_cl hs2) (st_cl hs) (by decide) (sj := 0) (by decide) (dj := 0) (by decide) (nj := 24) (by decide) (by decide) (Nat.le_of_ble_eq_true rfl) ?_
  refine q_o (mz_fe (e := (18, .aload_n 1, 1, (0, 0, 0), [])) (by decide +kernel)) (pc2 := 19) rfl ?_
  refine q_getR (b := (s2 + 2)) (mz_fe (e := (19, .getfield 15, 55, (6, 1, 2), [])) (by decide +kernel)) rfl (st_t hs2) (by rw [(st_l hs2)]; decide) (st_w hs2) ?_
  refine q_ic (v := 0) (mz_fe (e := (22, .iconst 0, 1, (0, 0, 0), [])) (by decide +kernel)) (by decide) ?_
  refine q_o (mz_fe (e := (23, .aload_n 0, 1, (0, 0, 0), [])) (by decide +kernel)) (pc2 := 24) rfl ?_
  refine q_getR (b := (s + 2)) (mz_fe (e := (24, .getfield 15, 55, (6, 1, 2), [])) (by decide +kernel)) rfl (st_t hs) (by rw [(st_l hs)]; decide) (st_w hs) ?_
  refine q_ic (v := 0) (mz_fe (e := (27, .iconst 0, 1, (0, 0, 0), [])) (by decide +kernel)) (by decide) ?_
  refine q_o (mz_fe (e := (28, .aload_n 0, 1, (0, 0, 0), [])) (by decide +kernel)) (pc2 := 29) rfl ?_
  refine q_getR (b := (s + 2)) (mz_fe (e := (29, .getfield 15, 55, (6, 1, 2), [])) (by decide +kernel)) rfl (st_t hs) (by rw [(st_l hs)]; decide) (st_w hs) ?_
  refine q_alen (v := 4) (mz_fe (e := (32, .arraylength, 1, (0, 0, 0), [])) (by decide +kernel)) rfl (by omega) (by rw [(st_wt hs)]; decide) (st_wl hs) (by decide) ?_
  refine q_cpy (mz_fe (e := (33, .invokestatic 25, 15, (9998, 0, 0), [])) (by decide +kernel)) rfl (st_wt hs2) (st_wt hs) (st_wl hs2) (st_wl hs) (by decide) (sj := 0) (by decide) (dj := 0) (by decide) (nj := 4) (by decide) (by decide) (Nat.le_of_ble_eq_true rfl) ?_
  refine q_o (mz_fe (e := (36, .aload_n 1, 1, (0, 0, 0), [])) (by decide +kernel)) (pc2 := 37) rfl ?_
  refine q_getR (b := (s2 + 3)) (mz_fe (e := (37, .getfield 18, 56, (6, 2, 2), [])) (by decide +kernel)) rfl (st_t hs2) (by rw [(st_l hs2)]; decide) (st_p hs2) ?_
  refine q_ic (v := 0) (mz_fe (e := (40, .iconst 0, 1, (0, 0, 0), [])) (by decide +kernel)) (by decide) ?_
  refine q_o (mz_fe (e := (41, .aload_n 0, 1, (0, 0, 0), [])) (by decide +kernel)) (pc2 := 42) rfl ?_
  refine q_getR (b := (s + 3)) (mz_fe (e := (42, .getfield 18, 56, (6, 2, 2), [])) (by decide +kernel)) rfl (st_t hs) (by rw [(st_l hs)]; decide) (st_p hs) ?_
  refine q_ic (v := 0) (mz_fe (e := (45, .iconst 0, 1, (0, 0, 0), [])) (by decide +kernel)) (by decide) ?_
  refine q_o (mz_fe (e := (46, .aload_n 0, 1, (0, 0, 0), [])) (by decide +kernel)) (pc2 := 47) rfl ?_
  refine q_getR (b := (s + 3)) (mz_fe (e := (47, .getfield 18, 56, (6, 2, 2), [])) (by decide +kernel)) rfl (st_t hs) (by rw [(st_l hs)]; decide) (st_p hs) ?_
  refine q_alen (v := 6) (mz_fe (e := (50, .arraylength, 1, (0, 0, 0), [])) (by decide +kernel)) rfl (by omega) (by rw [(st_pt hs)]; decide) (st_pl hs) (by decide) ?_
  refine q_cpy (mz_fe (e := (51, .invokestatic 25, 15, (9998, 0, 0), [])) (by decide +kernel)) rfl (st_pt hs2) (st_pt hs) (st_pl hs2) (st_pl hs) (by decide) (sj := 0) (by decide) (dj := 0) (by decide) (nj := 6) (by decide) (by decide) (Nat.le_of_ble_eq_true rfl) ?_
  refine q_o (mz_fe (e := (54, .aload_n 0, 1, (0, 0, 0), [])) (by decide +kernel)) (pc2 := 55) rfl ?_
  refine q_o (mz_fe (e := (55, .aload_n 1, 1, (0, 0, 0), [])) (by decide +kernel)) (pc2 := 56) rfl ?_
  refine q_getI (mz_fe (e := (56, .getfield 31, 58, (6, 3, 0), [])) (by decide +kernel)) rfl (by decide) (st_t hs2) (by rw [(st_l hs2)]; decide) ?_
  refine q_putI (mz_fe (e := (59, .putfield 31, 58, (6, 3, 0), [])) (by decide +kernel)) rfl (st_t hs) (by rw [(st_l hs)]; decide) ?_
  refine q_o (mz_fe (e := (62, .aload_n 0, 1, (0, 0, 0), [])) (by decide +kernel)) (pc2 := 63) rfl ?_
  refine q_o (mz_fe (e := (63, .aload_n 1, 1, (0, 0, 0), [])) (by decide +kernel)) (pc2 := 64) rfl ?_
  refine q_getI (mz_fe (e := (64, .getfield 34, 59, (6, 4, 0), [])) (by decide +kernel)) rfl (by decide) (st_t hs2) (by rw [(st_l hs2)]; decide) ?_
  refine q_putI (mz_fe (e := (67, .putfield 34, 59, (6, 4, 0), [])) (by decide +kernel)) rfl (st_t hs) (by rw [(st_l hs)]; decide) ?_
  refine q_o (mz_fe (e := (70, .aload_n 0, 1, (0, 0, 0), [])) (by decide +kernel)) (pc2 := 71) rfl ?_
  refine q_o (mz_fe (e := (71, .aload_n 1, 1, (0, 0, 0), [])) (by decide +kernel)) (pc2 := 72) rfl ?_
  refine q_getI (mz_fe (e := (72, .getfield 21, 57, (6, 5, 0), [])) (by decide +kernel)) rfl (by decide) (st_t hs2) (by rw [(st_l hs2)]; decide) ?_
  refine q_putI (mz_fe (e := (75, .putfield 21, 57, (6, 5, 0), [])) (by decide +kernel)) rfl (st_t hs) (by rw [(st_l hs)]; decide) ?_
  refine q_o (mz_fe (e := (78, .aload_n 0, 1, (0, 0, 0), [])) (by decide +kernel)) (pc2 := 79) rfl ?_
  refine q_o (mz_fe (e := (79, .aload_n 1, 1, (0, 0, 0), [])) (by decide +kernel)) (pc2 := 80) rfl ?_
  refine q_getI (mz_fe (e := (80, .getfield 37, 60, (6, 6, 0), [])) (by decide +kernel)) rfl (by decide) (st_t hs2) (by rw [(st_l hs2)]; decide) ?_
  refine q_putI (mz_fe (e := (83, .putfield 37, 60, (6, 6, 0), [])) (by decide +kernel)) rfl (st_t hs) (by rw [(st_l hs)]; decide) ?_
  refine q_o (mz_fe (e := (86, .aload_n 0, 1, (0, 0, 0), [])) (by decide +kernel)) (pc2 := 87) rfl ?_
  refine q_o (mz_fe (e := (87, .aload_n 1, 1, (0, 0, 0), [])) (by decide +kernel)) (pc2 := 88) rfl ?_
  refine q_getI (mz_fe (e := (88, .getfield 40, 61, (6, 7, 0), [])) (by decide +kernel)) rfl (by decide) (st_t hs2) (by rw [(st_l hs2)]; decide) ?_
  refine q_putI (mz_fe (e := (91, .putfield 40, 61, (6, 7, 0), [])) (by decide +kernel)) rfl (st_t hs) (by rw [(st_l hs)]; decide) ?_
  exact q_retV (mz_fe (e := (94, .return_, 1, (0, 0, 0), [])) (by decide +kernel)) (by decide +kernel)
set_option maxRecDepth 10000 in
theorem R_X6_startFrom_eq (d : Nat) (s : Nat) (t : Nat) (m : MzM) (hs : mz_isS s = true) (ht : mz_isT t = true) : R_X6_startFrom d s t m = H_X6_startFrom_20 d s t 0 (mz_cp m (t + 2) 0 (s + 1) 0 24) := by
  show mz_cV (mz_T d 69 0 (mz_en (mz_xl 69) [.ref s, .ref t]) [] m) = _
  rw [show mz_en (mz_xl 69) [.ref s, .ref t] = [some (.ref s), some (.ref t), none] from by rw [show mz_xl 69 = 3 from by decide +kernel]; rfl]
  refine q_o (mz_fe (e := (0, .aload_n 1, 1, (0, 0, 0), [])) (by decide +kernel)) (pc2 := 1) rfl ?_
  refine q_getR (b := (t + 2)) (mz_fe (e := (1, .getfield 43, 62, (8, 1, 2), [])) (by decide +kernel)) rfl (tx_t ht) (by rw [(tx_l ht)]; decide) (tx_r1 ht) ?_
  refine q_ic (v := 0) (mz_fe (e := (4, .iconst 0, 1, (0, 0, 0), [])) (by decide +kernel)) (by decide) ?_
  refine q_o (mz_fe (e := (5, .aload_n 0, 1, (0, 0, 0), [])) (by decide +kernel)) (pc2 := 6) rfl ?_
  refine q_getR (b := (s + 1)) (mz_fe (e := (6, .getfield 9, 54, (6, 0, 2), [])) (by decide +kernel)) rfl (st_t hs) (by rw [(st_l hs)]; decide) (st_c hs) ?_
  refine q_ic (v := 0) (mz_fe (e := (9, .iconst 0, 1, (0, 0, 0), [])) (by decide +kernel)) (by decide) ?_
  refine q_o (mz_fe (e := (10, .aload_n 0, 1, (0, 0, 0), [])) (by decide +kernel)) (pc2 := 11) rfl ?_
  refine q_getR (b := (s + 1)) (mz_fe (e := (11, .getfield 9, 54, (6, 0, 2), [])) (by decide +kernel)) rfl (st_t hs) (by rw [(st_l hs)]; decide) (st_c hs) ?_
  refine q_alen (v := 24) (mz_fe (e := (14, .arraylength, 1, (0, 0, 0), [])) (by decide +kernel)) rfl (by omega) (by rw [(st_ct hs)]; decide) (st_cl hs) (by decide) ?_
  refine q_cpy (mz_fe (e := (15, .invokestatic 25, 15, (9998, 0, 0), [])) (by decide +kernel)) rfl (tx_ct ht) (st_ct hs) (tx_cl ht) (st_cl hs) (by decide) (sj := 0) (by decide) (dj := 0) (by decide) (nj := 24) (by decide) (by decide) (Nat.le_of_ble_eq_true rfl) ?_
  refine q_ic (v := 0) (mz_fe (e := (18, .iconst 0, 1, (0, 0, 0), [])) (by decide +kernel)) (by decide) ?_
  refine q_s (mz_fe (e := (19, .istore_n 2, 1, (0, 0, 0), [])) (by decide +kernel)) (pc' := 20) (L' := [some (.ref s), some (.ref t), some (.int 0)]) (st' := []) rfl ?_
  exact congrArg mz_cV (mz_At_msk (L := [some (.ref s), some (.ref t), some (.int 0)]) (L2 := [some (.ref s), some (.ref t), some (.int 0)]) (mz_fe (e := (20, .iload_n 2, 1, (0, 0, 0), [true, true, true])) (by decide +kernel)) rfl rfl)
set_option maxRecDepth 10000 in
theorem H_X6_startFrom_20_eq (d : Nat) (a0 : Nat) (a1 : Nat) (y2 : Int32) (m : MzM) (ha0 : mz_isS a0 = true) (ha1 : mz_isT a1 = true) : H_X6_startFrom_20 d a0 a1 y2 m = if (6 : Int32) ≤ y2 then ((R_X6_emptyScrew d a0 m).bind (fun m2 => (R_X6_changePlate d a0 (mz_rd m2 a1 6) m2).bind (fun m5 => some (mz_wr (mz_wr (mz_wr m5 a0 3 0) a0 4 0) a0 7 0)))) else (mz_g (mz_ok y2 6) (H_X6_startFrom_20 d a0 a1 (y2 + 1) (mz_wr m (a0 + 3) (y2 : Int32).toNatClampNeg 0))) := by
  show mz_cV (mz_T d 69 20 [some (.ref a0), some (.ref a1), some (.int y2)] [] m) = _
  refine q_s (mz_fe (e := (20, .iload_n 2, 1, (0, 0, 0), [true, true, true])) (by decide +kernel)) (pc' := 21) (L' := [some (.ref a0), some (.ref a1), some (.int y2)]) (st' := [.int y2]) rfl ?_
  refine q_bi (v := 6) (mz_fe (e := (21, .bipush 6, 2, (0, 0, 0), [])) (by decide +kernel)) (by decide) ?_
  refine q_if (c := .ge) (off := 16) (t := 39) (x := y2) (y := 6) (st := []) (mz_fe (e := (23, .if_icmp .ge 16, 3, (0, 0, 0), [])) (by decide +kernel)) (fun _ => rfl) rfl rfl rfl (fun c1 => ?_) (fun c1 => ?_)
  · refine q_o (mz_fe (e := (39, .aload_n 0, 1, (0, 0, 0), [])) (by decide +kernel)) (pc2 := 40) rfl ?_
    refine q_callV (N := 71) (vs := [.ref a0]) (rest := []) (L' := [some (.ref a0), some (.ref a1), some (.int y2)]) rfl (mz_fe (e := (40, .invokevirtual 46, 69, (71, 1, 12), [])) (by decide +kernel)) rfl (mz_inv_virt (N := 71) (k := 1) (t := 12) (st := [.ref a0]) (rest := []) (b := a0) (vs := []) (h := (mz_S0, m)) rfl rfl (Nat.le_of_ble_eq_true rfl) (Nat.le_of_ble_eq_true rfl) (st_t ha0) (by decide)) (mz_dc_lt (n := 1) rfl (by decide +kernel) (by decide +kernel)) (by decide +kernel) (by decide +kernel) (fun m2 => ?_)
    refine q_o (mz_fe (e := (43, .aload_n 0, 1, (0, 0, 0), [])) (by decide +kernel)) (pc2 := 44) rfl ?_
    refine q_o (mz_fe (e := (44, .aload_n 1, 1, (0, 0, 0), [])) (by decide +kernel)) (pc2 := 45) rfl ?_
    refine q_getI (mz_fe (e := (45, .getfield 49, 63, (8, 6, 0), [])) (by decide +kernel)) rfl (by decide) (tx_t ha1) (by rw [(tx_l ha1)]; decide) ?_
    refine q_callV (N := 70) (vs := [.ref a0, .int (mz_rd m2 a1 6)]) (rest := []) (L' := [some (.ref a0), some (.ref a1), some (.int y2)]) rfl (mz_fe (e := (48, .invokevirtual 52, 70, (70, 2, 12), [])) (by decide +kernel)) rfl (mz_inv_virt (N := 70) (k := 2) (t := 12) (st := [.int (mz_rd m2 a1 6), .ref a0]) (rest := []) (b := a0) (vs := [.int (mz_rd m2 a1 6)]) (h := (mz_S0, m2)) rfl rfl (Nat.le_of_ble_eq_true rfl) (Nat.le_of_ble_eq_true rfl) (st_t ha0) (by decide)) (mz_dc_lt (n := 2) rfl (by decide +kernel) (by decide +kernel)) (by decide +kernel) (by decide +kernel) (fun m5 => ?_)
    refine q_o (mz_fe (e := (51, .aload_n 0, 1, (0, 0, 0), [])) (by decide +kernel)) (pc2 := 52) rfl ?_
    refine q_ic (v := 0) (mz_fe (e := (52, .iconst 0, 1, (0, 0, 0), [])) (by decide +kernel)) (by decide) ?_
    refine q_putI (mz_fe (e := (53, .putfield 31, 58, (6, 3, 0), [])) (by decide +kernel)) rfl (st_t ha0) (by rw [(st_l ha0)]; decide) ?_
    refine q_o (mz_fe (e := (56, .aload_n 0, 1, (0, 0, 0), [])) (by decide +kernel)) (pc2 := 57) rfl ?_
    refine q_ic (v := 0) (mz_fe (e := (57, .iconst 0, 1, (0, 0, 0), [])) (by decide +kernel)) (by decide) ?_
    refine q_putI (mz_fe (e := (58, .putfield 34, 59, (6, 4, 0), [])) (by decide +kernel)) rfl (st_t ha0) (by rw [(st_l ha0)]; decide) ?_
    refine q_o (mz_fe (e := (61, .aload_n 0, 1, (0, 0, 0), [])) (by decide +kernel)) (pc2 := 62) rfl ?_
    refine q_ic (v := 0) (mz_fe (e := (62, .iconst 0, 1, (0, 0, 0), [])) (by decide +kernel)) (by decide) ?_
    refine q_putI (mz_fe (e := (63, .putfield 40, 61, (6, 7, 0), [])) (by decide +kernel)) rfl (st_t ha0) (by rw [(st_l ha0)]; decide) ?_
    exact q_retV (mz_fe (e := (66, .return_, 1, (0, 0, 0), [])) (by decide +kernel)) (by decide +kernel)
  · refine q_o (mz_fe (e := (26, .aload_n 0, 1, (0, 0, 0), [])) (by decide +kernel)) (pc2 := 27) rfl ?_
    refine q_getR (b := (a0 + 3)) (mz_fe (e := (27, .getfield 18, 56, (6, 2, 2), [])) (by decide +kernel)) rfl (st_t ha0) (by rw [(st_l ha0)]; decide) (st_p ha0) ?_
    refine q_o (mz_fe (e := (30, .iload_n 2, 1, (0, 0, 0), [])) (by decide +kernel)) (pc2 := 31) rfl ?_
    refine q_ic (v := 0) (mz_fe (e := (31, .iconst 0, 1, (0, 0, 0), [])) (by decide +kernel)) (by decide) ?_
    refine q_stAg (f := (fun x => x)) rfl (mz_fe (e := (32, .iastore, 1, (0, 0, 0), [])) (by decide +kernel)) (fun _ => rfl) rfl (st_pt ha0) (st_pl ha0) (fun g8 => ?_)
    refine q_iinc (v := y2) (c := 1) (L3 := [some (.ref a0), some (.ref a1), some (.int (y2 + 1))]) (mz_fe (e := (33, .iinc 2 1, 3, (0, 0, 0), [])) (by decide +kernel)) rfl rfl (by decide) rfl ?_
    refine q_o (mz_fe (e := (36, .goto (-16), 3, (0, 0, 0), [])) (by decide +kernel)) (pc2 := 20) rfl ?_
    exact congrArg mz_cV (mz_At_msk (L := [some (.ref a0), some (.ref a1), some (.int (y2 + 1))]) (L2 := [some (.ref a0), some (.ref a1), some (.int (y2 + 1))]) (mz_fe (e := (20, .iload_n 2, 1, (0, 0, 0), [true, true, true])) (by decide +kernel)) rfl rfl)
set_option maxRecDepth 10000 in
theorem R_X6_changePlate_eq (d : Nat) (s : Nat) (x0 : Int32) (m : MzM) (hs : mz_isS s = true) : R_X6_changePlate d s x0 m = some (mz_wr (mz_wr m s 5 x0) s 6 0) := by
  show mz_cV (mz_T d 70 0 (mz_en (mz_xl 70) [.ref s, .int x0]) [] m) = _
  rw [show mz_en (mz_xl 70) [.ref s, .int x0] = [some (.ref s), some (.int x0)] from by rw [show mz_xl 70 = 2 from by decide +kernel]; rfl]
  refine q_o (mz_fe (e := (0, .aload_n 0, 1, (0, 0, 0), [])) (by decide +kernel)) (pc2 := 1) rfl ?_
  refine q_o (mz_fe (e := (1, .iload_n 1, 1, (0, 0, 0), [])) (by decide +kernel)) (pc2 := 2) rfl ?_
  refine q_putI (mz_fe (e := (2, .putfield 21, 57, (6, 5, 0), [])) (by decide +kernel)) rfl (st_t hs) (by rw [(st_l hs)]; decide) ?_
  refine q_o (mz_fe (e := (5, .aload_n 0, 1, (0, 0, 0), [])) (by decide +kernel)) (pc2 := 6) rfl ?_
  refine q_ic (v := 0) (mz_fe (e := (6, .iconst 0, 1, (0, 0, 0), [])) (by decide +kernel)) (by decide) ?_
  refine q_putI (mz_fe (e := (7, .putfield 37, 60, (6, 6, 0), [])) (by decide +kernel)) rfl (st_t hs) (by rw [(st_l hs)]; decide) ?_
  exact q_retV (mz_fe (e := (10, .return_, 1, (0, 0, 0), [])) (by decide +kernel)) (by decide +kernel)
set_option maxRecDepth 10000 in
theorem R_X6_emptyScrew_eq (d : Nat) (s : Nat) (m : MzM) (hs : mz_isS s = true) : R_X6_emptyScrew d s m = H_X6_emptyScrew_2 d s 0 m := by
  show mz_cV (mz_T d 71 0 (mz_en (mz_xl 71) [.ref s]) [] m) = _
  rw [show mz_en (mz_xl 71) [.ref s] = [some (.ref s), none] from by rw [show mz_xl 71 = 2 from by decide +kernel]; rfl]
  refine q_ic (v := 0) (mz_fe (e := (0, .iconst 0, 1, (0, 0, 0), [])) (by decide +kernel)) (by decide) ?_
  refine q_s (mz_fe (e := (1, .istore_n 1, 1, (0, 0, 0), [])) (by decide +kernel)) (pc' := 2) (L' := [some (.ref s), some (.int 0)]) (st' := []) rfl ?_
  exact congrArg mz_cV (mz_At_msk (L := [some (.ref s), some (.int 0)]) (L2 := [some (.ref s), some (.int 0)]) (mz_fe (e := (2, .iload_n 1, 1, (0, 0, 0), [true, true])) (by decide +kernel)) rfl rfl)
set_option maxRecDepth 10000 in
theorem H_X6_emptyScrew_2_eq (d : Nat) (a0 : Nat) (y1 : Int32) (m : MzM) (ha0 : mz_isS a0 = true) : H_X6_emptyScrew_2 d a0 y1 m = if (4 : Int32) ≤ y1 then some m else (mz_g (mz_ok y1 4) (H_X6_emptyScrew_2 d a0 (y1 + 1) (mz_wr m (a0 + 2) (y1 : Int32).toNatClampNeg 0))) := by
  show mz_cV (mz_T d 71 2 [some (.ref a0), some (.int y1)] [] m) = _
  refine q_s (mz_fe (e := (2, .iload_n 1, 1, (0, 0, 0), [true, true])) (by decide +kernel)) (pc' := 3) (L' := [some (.ref a0), some (.int y1)]) (st' := [.int y1]) rfl ?_
  refine q_ic (v := 4) (mz_fe (e := (3, .iconst 4, 1, (0, 0, 0), [])) (by decide +kernel)) (by decide) ?_
  refine q_if (c := .ge) (off := 16) (t := 20) (x := y1) (y := 4) (st := []) (mz_fe (e := (4, .if_icmp .ge 16, 3, (0, 0, 0), [])) (by decide +kernel)) (fun _ => rfl) rfl rfl rfl (fun c1 => ?_) (fun c1 => ?_)
  · exact q_retV (mz_fe (e := (20, .return_, 1, (0, 0, 0), [])) (by decide +kernel)) (by decide +kernel)
  · refine q_o (mz_fe (e := (7, .aload_n 0, 1, (0, 0, 0), [])) (by decide +kernel)) (pc2 := 8) rfl ?_
    refine q_getR (b := (a0 + 2)) (mz_fe (e := (8, .getfield 15, 55, (6, 1, 2), [])) (by decide +kernel)) rfl (st_t ha0) (by rw [(st_l ha0)]; decide) (st_w ha0) ?_
    refine q_o (mz_fe (e := (11, .iload_n 1, 1, (0, 0, 0), [])) (by decide +kernel)) (pc2 := 12) rfl ?_
    refine q_ic (v := 0) (mz_fe (e := (12, .iconst 0, 1, (0, 0, 0), [])) (by decide +kernel)) (by decide) ?_
    refine q_stAg (f := (fun x => x)) rfl (mz_fe (e := (13, .iastore, 1, (0, 0, 0), [])) (by decide +kernel)) (fun _ => rfl) rfl (st_wt ha0) (st_wl ha0) (fun g2 => ?_)
    refine q_iinc (v := y1) (c := 1) (L3 := [some (.ref a0), some (.int (y1 + 1))]) (mz_fe (e := (14, .iinc 1 1, 3, (0, 0, 0), [])) (by decide +kernel)) rfl rfl (by decide) rfl ?_
    refine q_o (mz_fe (e := (17, .goto (-15), 3, (0, 0, 0), [])) (by decide +kernel)) (pc2 := 2) rfl ?_
    exact congrArg mz_cV (mz_At_msk (L := [some (.ref a0), some (.int (y1 + 1))]) (L2 := [some (.ref a0), some (.int (y1 + 1))]) (mz_fe (e := (2, .iload_n 1, 1, (0, 0, 0), [true, true])) (by decide +kernel)) rfl rfl)
set_option maxRecDepth 10000 in
theorem R_X6_amount_eq (d : Nat) (s : Nat) (x0 : Int32) (x1 : Int32) (m : MzM) (hs : mz_isS s = true) : R_X6_amount d s x0 x1 m = mz_g (mz_ok ((x0 * 4) + x1) 24) (some ((mz_rd m (s + 1) (((x0 * 4) + x1) : Int32).toNatClampNeg), m)) := by
  show mz_cI (mz_T d 72 0 (mz_en (mz_xl 72) [.ref s, .int x0, .int x1]) [] m) = _
  rw [show mz_en (mz_xl 72) [.ref s, .int x0, .int x1] = [some (.ref s), some (.int x0), some (.int x1)] from by rw [show mz_xl 72 = 3 from by decide +kernel]; rfl]
  refine q_o (mz_fe (e := (0, .aload_n 0, 1, (0, 0, 0), [])) (by decide +kernel)) (pc2 := 1) rfl ?_
  refine q_getR (b := (s + 1)) (mz_fe (e := (1, .getfield 9, 54, (6, 0, 2), [])) (by decide +kernel)) rfl (st_t hs) (by rw [(st_l hs)]; decide) (st_c hs) ?_
  refine q_o (mz_fe (e := (4, .iload_n 1, 1, (0, 0, 0), [])) (by decide +kernel)) (pc2 := 5) rfl ?_
  refine q_ic (v := 4) (mz_fe (e := (5, .iconst 4, 1, (0, 0, 0), [])) (by decide +kernel)) (by decide) ?_
  refine q_o (mz_fe (e := (6, .imul, 1, (0, 0, 0), [])) (by decide +kernel)) (pc2 := 7) rfl ?_
  refine q_o (mz_fe (e := (7, .iload_n 2, 1, (0, 0, 0), [])) (by decide +kernel)) (pc2 := 8) rfl ?_
  refine q_o (mz_fe (e := (8, .iadd, 1, (0, 0, 0), [])) (by decide +kernel)) (pc2 := 9) rfl ?_
  refine q_ialdg rfl (mz_fe (e := (9, .iaload, 1, (0, 0, 0), [])) (by decide +kernel)) rfl (by omega) (st_ct hs) (st_cl hs) (fun g1 => ?_)
  exact q_retI (mz_fe (e := (10, .ireturn, 1, (0, 0, 0), [])) (by decide +kernel)) (by decide +kernel)
set_option maxRecDepth 10000 in
theorem R_X6_setAmount_eq (d : Nat) (s : Nat) (x0 : Int32) (x1 : Int32) (x2 : Int32) (m : MzM) (hs : mz_isS s = true) : R_X6_setAmount d s x0 x1 x2 m = mz_g (mz_ok ((x0 * 4) + x1) 24) (some (mz_wr m (s + 1) (((x0 * 4) + x1) : Int32).toNatClampNeg x2)) := by
  show mz_cV (mz_T d 73 0 (mz_en (mz_xl 73) [.ref s, .int x0, .int x1, .int x2]) [] m) = _
  rw [show mz_en (mz_xl 73) [.ref s, .int x0, .int x1, .int x2] = [some (.ref s), some (.int x0), some (.int x1), some (.int x2)] from by rw [show mz_xl 73 = 4 from by decide +kernel]; rfl]
  refine q_o (mz_fe (e := (0, .aload_n 0, 1, (0, 0, 0), [])) (by decide +kernel)) (pc2 := 1) rfl ?_
  refine q_getR (b := (s + 1)) (mz_fe (e := (1, .getfield 9, 54, (6, 0, 2), [])) (by decide +kernel)) rfl (st_t hs) (by rw [(st_l hs)]; decide) (st_c hs) ?_
  refine q_o (mz_fe (e := (4, .iload_n 1, 1, (0, 0, 0), [])) (by decide +kernel)) (pc2 := 5) rfl ?_
  refine q_ic (v := 4) (mz_fe (e := (5, .iconst 4, 1, (0, 0, 0), [])) (by decide +kernel)) (by decide) ?_
  refine q_o (mz_fe (e := (6, .imul, 1, (0, 0, 0), [])) (by decide +kernel)) (pc2 := 7) rfl ?_
  refine q_o (mz_fe (e := (7, .iload_n 2, 1, (0, 0, 0), [])) (by decide +kernel)) (pc2 := 8) rfl ?_
  refine q_o (mz_fe (e := (8, .iadd, 1, (0, 0, 0), [])) (by decide +kernel)) (pc2 := 9) rfl ?_
  refine q_o (mz_fe (e := (9, .iload_n 3, 1, (0, 0, 0), [])) (by decide +kernel)) (pc2 := 10) rfl ?_
  refine q_stAg (f := (fun x => x)) rfl (mz_fe (e := (10, .iastore, 1, (0, 0, 0), [])) (by decide +kernel)) (fun _ => rfl) rfl (st_ct hs) (st_cl hs) (fun g1 => ?_)
  exact q_retV (mz_fe (e := (11, .return_, 1, (0, 0, 0), [])) (by decide +kernel)) (by decide +kernel)
set_option maxRecDepth 10000 in
theorem R_X6_ofAll_eq (d : Nat) (s : Nat) (x0 : Int32) (m : MzM) (hs : mz_isS s = true) : R_X6_ofAll d s x0 m = H_X6_ofAll_4 d s x0 0 0 m := by
  show mz_cI (mz_T d 74 0 (mz_en (mz_xl 74) [.ref s, .int x0]) [] m) = _
  rw [show mz_en (mz_xl 74) [.ref s, .int x0] = [some (.ref s), some (.int x0), none, none] from by rw [show mz_xl 74 = 4 from by decide +kernel]; rfl]
  refine q_ic (v := 0) (mz_fe (e := (0, .iconst 0, 1, (0, 0, 0), [])) (by decide +kernel)) (by decide) ?_
  refine q_s (mz_fe (e := (1, .istore_n 2, 1, (0, 0, 0), [])) (by decide +kernel)) (pc' := 2) (L' := [some (.ref s), some (.int x0), some (.int 0), none]) (st' := []) rfl ?_
  refine q_ic (v := 0) (mz_fe (e := (2, .iconst 0, 1, (0, 0, 0), [])) (by decide +kernel)) (by decide) ?_
  refine q_s (mz_fe (e := (3, .istore_n 3, 1, (0, 0, 0), [])) (by decide +kernel)) (pc' := 4) (L' := [some (.ref s), some (.int x0), some (.int 0), some (.int 0)]) (st' := []) rfl ?_
  exact congrArg mz_cI (mz_At_msk (L := [some (.ref s), some (.int x0), some (.int 0), some (.int 0)]) (L2 := [some (.ref s), some (.int x0), some (.int 0), some (.int 0)]) (mz_fe (e := (4, .iload_n 3, 1, (0, 0, 0), [true, true, true, true])) (by decide +kernel)) rfl rfl)
set_option maxRecDepth 10000 in
theorem H_X6_ofAll_4_eq (d : Nat) (a0 : Nat) (y1 : Int32) (y2 : Int32) (y3 : Int32) (m : MzM) (ha0 : mz_isS a0 = true) : H_X6_ofAll_4 d a0 y1 y2 y3 m = if (4 : Int32) ≤ y3 then (some (y2, m)) else ((R_X6_amount d a0 y1 y3 m).bind (fun u4 => H_X6_ofAll_4 d a0 y1 (y2 + u4.1) (y3 + 1) u4.2)) := by
  show mz_cI (mz_T d 74 4 [some (.ref a0), some (.int y1), some (.int y2), some (.int y3)] [] m) = _
  refine q_s (mz_fe (e := (4, .iload_n 3, 1, (0, 0, 0), [true, true, true, true])) (by decide +kernel)) (pc' := 5) (L' := [some (.ref a0), some (.int y1), some (.int y2), some (.int y3)]) (st' := [.int y3]) rfl ?_
  refine q_ic (v := 4) (mz_fe (e := (5, .iconst 4, 1, (0, 0, 0), [])) (by decide +kernel)) (by decide) ?_
  refine q_if (c := .ge) (off := 18) (t := 24) (x := y3) (y := 4) (st := []) (mz_fe (e := (6, .if_icmp .ge 18, 3, (0, 0, 0), [])) (by decide +kernel)) (fun _ => rfl) rfl rfl rfl (fun c1 => ?_) (fun c1 => ?_)
  · refine q_o (mz_fe (e := (24, .iload_n 2, 1, (0, 0, 0), [])) (by decide +kernel)) (pc2 := 25) rfl ?_
    exact q_retI (mz_fe (e := (25, .ireturn, 1, (0, 0, 0), [])) (by decide +kernel)) (by decide +kernel)
  · refine q_o (mz_fe (e := (9, .iload_n 2, 1, (0, 0, 0), [])) (by decide +kernel)) (pc2 := 10) rfl ?_
    refine q_o (mz_fe (e := (10, .aload_n 0, 1, (0, 0, 0), [])) (by decide +kernel)) (pc2 := 11) rfl ?_
    refine q_o (mz_fe (e := (11, .iload_n 1, 1, (0, 0, 0), [])) (by decide +kernel)) (pc2 := 12) rfl ?_
    refine q_o (mz_fe (e := (12, .iload_n 3, 1, (0, 0, 0), [])) (by decide +kernel)) (pc2 := 13) rfl ?_
    refine q_callI (N := 72) (vs := [.ref a0, .int y1, .int y3]) (rest := [.int y2]) (L' := [some (.ref a0), some (.int y1), some (.int y2), some (.int y3)]) (f := fun v3 m2 => H_X6_ofAll_4 d a0 y1 (y2 + v3) (y3 + 1) m2) rfl (mz_fe (e := (13, .invokevirtual 56, 71, (72, 3, 12), [])) (by decide +kernel)) rfl (mz_inv_virt (N := 72) (k := 3) (t := 12) (st := [.int y3, .int y1, .ref a0, .int y2]) (rest := [.int y2]) (b := a0) (vs := [.int y1, .int y3]) (h := (mz_S0, m)) rfl rfl (Nat.le_of_ble_eq_true rfl) (Nat.le_of_ble_eq_true rfl) (st_t ha0) (by decide)) (mz_dc_lt (n := 3) rfl (by decide +kernel) (by decide +kernel)) (by decide +kernel) (Or.inl (by decide +kernel)) (fun v3 m2 => ?_)
    refine q_o (mz_fe (e := (16, .iadd, 1, (0, 0, 0), [])) (by decide +kernel)) (pc2 := 17) rfl ?_
    refine q_s (mz_fe (e := (17, .istore_n 2, 1, (0, 0, 0), [])) (by decide +kernel)) (pc' := 18) (L' := [some (.ref a0), some (.int y1), some (.int (y2 + v3)), some (.int y3)]) (st' := []) rfl ?_
    refine q_iinc (v := y3) (c := 1) (L3 := [some (.ref a0), some (.int y1), some (.int (y2 + v3)), some (.int (y3 + 1))]) (mz_fe (e := (18, .iinc 3 1, 3, (0, 0, 0), [])) (by decide +kernel)) rfl rfl (by decide) rfl ?_
    refine q_o (mz_fe (e := (21, .goto (-17), 3, (0, 0, 0), [])) (by decide +kernel)) (pc2 := 4) rfl ?_
    exact congrArg mz_cI (mz_At_msk (L := [some (.ref a0), some (.int y1), some (.int (y2 + v3)), some (.int (y3 + 1))]) (L2 := [some (.ref a0), some (.int y1), some (.int (y2 + v3)), some (.int (y3 + 1))]) (mz_fe (e := (4, .iload_n 3, 1, (0, 0, 0), [true, true, true, true])) (by decide +kernel)) rfl rfl)
set_option maxRecDepth 10000 in
theorem R_X6_inScrew_eq (d : Nat) (s : Nat) (m : MzM) (hs : mz_isS s = true) : R_X6_inScrew d s m = H_X6_inScrew_4 d s 0 0 m := by
  show mz_cI (mz_T d 75 0 (mz_en (mz_xl 75) [.ref s]) [] m) = _
  rw [show mz_en (mz_xl 75) [.ref s] = [some (.ref s), none, none] from by rw [show mz_xl 75 = 3 from by decide +kernel]; rfl]
  refine q_ic (v := 0) (mz_fe (e := (0, .iconst 0, 1, (0, 0, 0), [])) (by decide +kernel)) (by decide) ?_
  refine q_s (mz_fe (e := (1, .istore_n 1, 1, (0, 0, 0), [])) (by decide +kernel)) (pc' := 2) (L' := [some (.ref s), some (.int 0), none]) (st' := []) rfl ?_
  refine q_ic (v := 0) (mz_fe (e := (2, .iconst 0, 1, (0, 0, 0), [])) (by decide +kernel)) (by decide) ?_
  refine q_s (mz_fe (e := (3, .istore_n 2, 1, (0, 0, 0), [])) (by decide +kernel)) (pc' := 4) (L' := [some (.ref s), some (.int 0), some (.int 0)]) (st' := []) rfl ?_
  exact congrArg mz_cI (mz_At_msk (L := [some (.ref s), some (.int 0), some (.int 0)]) (L2 := [some (.ref s), some (.int 0), some (.int 0)]) (mz_fe (e := (4, .iload_n 2, 1, (0, 0, 0), [true, true, true])) (by decide +kernel)) rfl rfl)
set_option maxRecDepth 10000 in
theorem H_X6_inScrew_4_eq (d : Nat) (a0 : Nat) (y1 : Int32) (y2 : Int32) (m : MzM) (ha0 : mz_isS a0 = true) : H_X6_inScrew_4 d a0 y1 y2 m = if (4 : Int32) ≤ y2 then (some (y1, m)) else (mz_g (mz_ok y2 4) (H_X6_inScrew_4 d a0 (y1 + (mz_rd m (a0 + 2) (y2 : Int32).toNatClampNeg)) (y2 + 1) m)) := by
  show mz_cI (mz_T d 75 4 [some (.ref a0), some (.int y1), some (.int y2)] [] m) = _
  refine q_s (mz_fe (e := (4, .iload_n 2, 1, (0, 0, 0), [true, true, true])) (by decide +kernel)) (pc' := 5) (L' := [some (.ref a0), some (.int y1), some (.int y2)]) (st' := [.int y2]) rfl ?_
  refine q_ic (v := 4) (mz_fe (e := (5, .iconst 4, 1, (0, 0, 0), [])) (by decide +kernel)) (by decide) ?_
  refine q_if (c := .ge) (off := 18) (t := 24) (x := y2) (y := 4) (st := []) (mz_fe (e := (6, .if_icmp .ge 18, 3, (0, 0, 0), [])) (by decide +kernel)) (fun _ => rfl) rfl rfl rfl (fun c1 => ?_) (fun c1 => ?_)
  · refine q_o (mz_fe (e := (24, .iload_n 1, 1, (0, 0, 0), [])) (by decide +kernel)) (pc2 := 25) rfl ?_
    exact q_retI (mz_fe (e := (25, .ireturn, 1, (0, 0, 0), [])) (by decide +kernel)) (by decide +kernel)
  · refine q_o (mz_fe (e := (9, .iload_n 1, 1, (0, 0, 0), [])) (by decide +kernel)) (pc2 := 10) rfl ?_
    refine q_o (mz_fe (e := (10, .aload_n 0, 1, (0, 0, 0), [])) (by decide +kernel)) (pc2 := 11) rfl ?_
    refine q_getR (b := (a0 + 2)) (mz_fe (e := (11, .getfield 15, 55, (6, 1, 2), [])) (by decide +kernel)) rfl (st_t ha0) (by rw [(st_l ha0)]; decide) (st_w ha0) ?_
    refine q_o (mz_fe (e := (14, .iload_n 2, 1, (0, 0, 0), [])) (by decide +kernel)) (pc2 := 15) rfl ?_
    refine q_ialdg rfl (mz_fe (e := (15, .iaload, 1, (0, 0, 0), [])) (by decide +kernel)) rfl (by omega) (st_wt ha0) (st_wl ha0) (fun g2 => ?_)
    refine q_o (mz_fe (e := (16, .iadd, 1, (0, 0, 0), [])) (by decide +kernel)) (pc2 := 17) rfl ?_
    refine q_s (mz_fe (e := (17, .istore_n 1, 1, (0, 0, 0), [])) (by decide +kernel)) (pc' := 18) (L' := [some (.ref a0), some (.int (y1 + (mz_rd m (a0 + 2) (y2 : Int32).toNatClampNeg))), some (.int y2)]) (st' := []) rfl ?_
    refine q_iinc (v := y2) (c := 1) (L3 := [some (.ref a0), some (.int (y1 + (mz_rd m (a0 + 2) (y2 : Int32).toNatClampNeg))), some (.int (y2 + 1))]) (mz_fe (e := (18, .iinc 2 1, 3, (0, 0, 0), [])) (by decide +kernel)) rfl rfl (by decide) rfl ?_
    refine q_o (mz_fe (e := (21, .goto (-17), 3, (0, 0, 0), [])) (by decide +kernel)) (pc2 := 4) rfl ?_
    exact congrArg mz_cI (mz_At_msk (L := [some (.ref a0), some (.int (y1 + (mz_rd m (a0 + 2) (y2 : Int32).toNatClampNeg))), some (.int (y2 + 1))]) (L2 := [some (.ref a0), some (.int (y1 + (mz_rd m (a0 + 2) (y2 : Int32).toNatClampNeg))), some (.int (y2 + 1))]) (mz_fe (e := (4, .iload_n 2, 1, (0, 0, 0), [true, true, true])) (by decide +kernel)) rfl rfl)
set_option maxRecDepth 10000 in
theorem R_X6_apart_eq (d : Nat) (s : Nat) (x0 : Int32) (x1 : Int32) (m : MzM) (hs : mz_isS s = true) : R_X6_apart d s x0 x1 m = H_X6_apart_5 d s x0 x1 0 0 m := by
  show mz_cI (mz_T d 76 0 (mz_en (mz_xl 76) [.ref s, .int x0, .int x1]) [] m) = _
  rw [show mz_en (mz_xl 76) [.ref s, .int x0, .int x1] = [some (.ref s), some (.int x0), some (.int x1), none, none] from by rw [show mz_xl 76 = 5 from by decide +kernel]; rfl]
  refine q_ic (v := 0) (mz_fe (e := (0, .iconst 0, 1, (0, 0, 0), [])) (by decide +kernel)) (by decide) ?_
  refine q_s (mz_fe (e := (1, .istore_n 3, 1, (0, 0, 0), [])) (by decide +kernel)) (pc' := 2) (L' := [some (.ref s), some (.int x0), some (.int x1), some (.int 0), none]) (st' := []) rfl ?_
  refine q_ic (v := 0) (mz_fe (e := (2, .iconst 0, 1, (0, 0, 0), [])) (by decide +kernel)) (by decide) ?_
  refine q_s (mz_fe (e := (3, .istore 4, 2, (0, 0, 0), [])) (by decide +kernel)) (pc' := 5) (L' := [some (.ref s), some (.int x0), some (.int x1), some (.int 0), some (.int 0)]) (st' := []) rfl ?_
  exact congrArg mz_cI (mz_At_msk (L := [some (.ref s), some (.int x0), some (.int x1), some (.int 0), some (.int 0)]) (L2 := [some (.ref s), some (.int x0), some (.int x1), some (.int 0), some (.int 0)]) (mz_fe (e := (5, .iload 4, 2, (0, 0, 0), [true, true, true, true, true])) (by decide +kernel)) rfl rfl)
set_option maxRecDepth 10000 in
theorem H_X6_apart_5_eq (d : Nat) (a0 : Nat) (y1 : Int32) (y2 : Int32) (y3 : Int32) (y4 : Int32) (m : MzM) (ha0 : mz_isS a0 = true) : H_X6_apart_5 d a0 y1 y2 y3 y4 m = if (4 : Int32) ≤ y4 then (some (y3, m)) else ((R_X6_amount d a0 y1 y4 m).bind (fun u4 => (R_X6_amount d a0 y2 y4 u4.2).bind (fun u7 => H_X6_apart_5 d a0 y1 y2 (y3 + (if (0 : Int32) ≤ (u4.1 - u7.1) then (u4.1 - u7.1) else 0 - (u4.1 - u7.1))) (y4 + 1) u7.2))) := by
  show mz_cI (mz_T d 76 5 [some (.ref a0), some (.int y1), some (.int y2), some (.int y3), some (.int y4)] [] m) = _
  refine q_s (mz_fe (e := (5, .iload 4, 2, (0, 0, 0), [true, true, true, true, true])) (by decide +kernel)) (pc' := 7) (L' := [some (.ref a0), some (.int y1), some (.int y2), some (.int y3), some (.int y4)]) (st' := [.int y4]) rfl ?_
  refine q_ic (v := 4) (mz_fe (e := (7, .iconst 4, 1, (0, 0, 0), [])) (by decide +kernel)) (by decide) ?_
  refine q_if (c := .ge) (off := 30) (t := 38) (x := y4) (y := 4) (st := []) (mz_fe (e := (8, .if_icmp .ge 30, 3, (0, 0, 0), [])) (by decide +kernel)) (fun _ => rfl) rfl rfl rfl (fun c1 => ?_) (fun c1 => ?_)
  · refine q_o (mz_fe (e := (38, .iload_n 3, 1, (0, 0, 0), [])) (by decide +kernel)) (pc2 := 39) rfl ?_
    exact q_retI (mz_fe (e := (39, .ireturn, 1, (0, 0, 0), [])) (by decide +kernel)) (by decide +kernel)
  · refine q_o (mz_fe (e := (11, .iload_n 3, 1, (0, 0, 0), [])) (by decide +kernel)) (pc2 := 12) rfl ?_
    refine q_o (mz_fe (e := (12, .aload_n 0, 1, (0, 0, 0), [])) (by decide +kernel)) (pc2 := 13) rfl ?_
    refine q_o (mz_fe (e := (13, .iload_n 1, 1, (0, 0, 0), [])) (by decide +kernel)) (pc2 := 14) rfl ?_
    refine q_o (mz_fe (e := (14, .iload 4, 2, (0, 0, 0), [])) (by decide +kernel)) (pc2 := 16) rfl ?_
    refine q_callI (N := 72) (vs := [.ref a0, .int y1, .int y4]) (rest := [.int y3]) (L' := [some (.ref a0), some (.int y1), some (.int y2), some (.int y3), some (.int y4)]) (f := fun v3 m2 => (R_X6_amount d a0 y2 y4 m2).bind (fun u7 => H_X6_apart_5 d a0 y1 y2 (y3 + (if (0 : Int32) ≤ (v3 - u7.1) then (v3 - u7.1) else 0 - (v3 - u7.1))) (y4 + 1) u7.2)) rfl (mz_fe (e := (16, .invokevirtual 56, 71, (72, 3, 12), [])) (by decide +kernel)) rfl (mz_inv_virt (N := 72) (k := 3) (t := 12) (st := [.int y4, .int y1, .ref a0, .int y3]) (rest := [.int y3]) (b := a0) (vs := [.int y1, .int y4]) (h := (mz_S0, m)) rfl rfl (Nat.le_of_ble_eq_true rfl) (Nat.le_of_ble_eq_true rfl) (st_t ha0) (by decide)) (mz_dc_lt (n := 3) rfl (by decide +kernel) (by decide +kernel)) (by decide +kernel) (Or.inl (by decide +kernel)) (fun v3 m2 => ?_)
    refine q_o (mz_fe (e := (19, .aload_n 0, 1, (0, 0, 0), [])) (by decide +kernel)) (pc2 := 20) rfl ?_
    refine q_o (mz_fe (e := (20, .iload_n 2, 1, (0, 0, 0), [])) (by decide +kernel)) (pc2 := 21) rfl ?_
    refine q_o (mz_fe (e := (21, .iload 4, 2, (0, 0, 0), [])) (by decide +kernel)) (pc2 := 23) rfl ?_
    refine q_callI (N := 72) (vs := [.ref a0, .int y2, .int y4]) (rest := [.int v3, .int y3]) (L' := [some (.ref a0), some (.int y1), some (.int y2), some (.int y3), some (.int y4)]) (f := fun v6 m5 => H_X6_apart_5 d a0 y1 y2 (y3 + (if (0 : Int32) ≤ (v3 - v6) then (v3 - v6) else 0 - (v3 - v6))) (y4 + 1) m5) rfl (mz_fe (e := (23, .invokevirtual 56, 71, (72, 3, 12), [])) (by decide +kernel)) rfl (mz_inv_virt (N := 72) (k := 3) (t := 12) (st := [.int y4, .int y2, .ref a0, .int v3, .int y3]) (rest := [.int v3, .int y3]) (b := a0) (vs := [.int y2, .int y4]) (h := (mz_S0, m2)) rfl rfl (Nat.le_of_ble_eq_true rfl) (Nat.le_of_ble_eq_true rfl) (st_t ha0) (by decide)) (mz_dc_lt (n := 3) rfl (by decide +kernel) (by decide +kernel)) (by decide +kernel) (Or.inl (by decide +kernel)) (fun v6 m5 => ?_)
    refine q_o (mz_fe (e := (26, .isub, 1, (0, 0, 0), [])) (by decide +kernel)) (pc2 := 27) rfl ?_
    refine q_abs (mz_fe (e := (27, .invokestatic 60, 16, (9995, 0, 0), [])) (by decide +kernel)) rfl (Nat.le_of_ble_eq_true rfl) ?_
    refine q_o (mz_fe (e := (30, .iadd, 1, (0, 0, 0), [])) (by decide +kernel)) (pc2 := 31) rfl ?_
    refine q_s (mz_fe (e := (31, .istore_n 3, 1, (0, 0, 0), [])) (by decide +kernel)) (pc' := 32) (L' := [some (.ref a0), some (.int y1), some (.int y2), some (.int (y3 + (if (0 : Int32) ≤ (v3 - v6) then (v3 - v6) else 0 - (v3 - v6)))), some (.int y4)]) (st' := []) rfl ?_
    refine q_iinc (v := y4) (c := 1) (L3 := [some (.ref a0), some (.int y1), some (.int y2), some (.int (y3 + (if (0 : Int32) ≤ (v3 - v6) then (v3 - v6) else 0 - (v3 - v6)))), some (.int (y4 + 1))]) (mz_fe (e := (32, .iinc 4 1, 3, (0, 0, 0), [])) (by decide +kernel)) rfl rfl (by decide) rfl ?_
    refine q_o (mz_fe (e := (35, .goto (-30), 3, (0, 0, 0), [])) (by decide +kernel)) (pc2 := 5) rfl ?_
    exact congrArg mz_cI (mz_At_msk (L := [some (.ref a0), some (.int y1), some (.int y2), some (.int (y3 + (if (0 : Int32) ≤ (v3 - v6) then (v3 - v6) else 0 - (v3 - v6)))), some (.int (y4 + 1))]) (L2 := [some (.ref a0), some (.int y1), some (.int y2), some (.int (y3 + (if (0 : Int32) ≤ (v3 - v6) then (v3 - v6) else 0 - (v3 - v6)))), some (.int (y4 + 1))]) (mz_fe (e := (5, .iload 4, 2, (0, 0, 0), [true, true, true, true, true])) (by decide +kernel)) rfl rfl)
set_option maxRecDepth 10000 in
theorem R_X7_hasRoomFor_eq (d : Nat) (x0 : Int32) (m : MzM)  : R_X7_hasRoomFor d x0 m = if (2000 : Int32) < ((mz_rd m 2 1) + x0) then (some (0, m)) else (some (1, m)) := by
  show mz_cI (mz_T d 78 0 (mz_en (mz_xl 78) [.ref 2, .int x0]) [] m) = _
  rw [show mz_en (mz_xl 78) [.ref 2, .int x0] = [some (.ref 2), some (.int x0)] from by rw [show mz_xl 78 = 2 from by decide +kernel]; rfl]
  refine q_o (mz_fe (e := (0, .aload_n 0, 1, (0, 0, 0), [])) (by decide +kernel)) (pc2 := 1) rfl ?_
  refine q_getI (mz_fe (e := (1, .getfield 15, 65, (7, 1, 0), [])) (by decide +kernel)) rfl (by decide) tg_2 (by rw [ln_2]; decide) ?_
  refine q_o (mz_fe (e := (4, .iload_n 1, 1, (0, 0, 0), [])) (by decide +kernel)) (pc2 := 5) rfl ?_
  refine q_o (mz_fe (e := (5, .iadd, 1, (0, 0, 0), [])) (by decide +kernel)) (pc2 := 6) rfl ?_
  refine q_o (mz_fe (e := (6, .aload_n 0, 1, (0, 0, 0), [])) (by decide +kernel)) (pc2 := 7) rfl ?_
  refine q_getR (b := 3) (mz_fe (e := (7, .getfield 9, 64, (7, 0, 2), [])) (by decide +kernel)) rfl tg_2 (by rw [ln_2]; decide) (mz_rfS (by decide +kernel)) ?_
  refine q_alen (v := 2000) (mz_fe (e := (10, .arraylength, 1, (0, 0, 0), [])) (by decide +kernel)) rfl (by decide) (by rw [tg_3]; decide) ln_3 (by decide) ?_
  refine q_if (c := .gt) (off := 7) (t := 18) (x := ((mz_rd m 2 1) + x0)) (y := 2000) (st := []) (mz_fe (e := (11, .if_icmp .gt 7, 3, (0, 0, 0), [])) (by decide +kernel)) (fun _ => rfl) rfl rfl rfl (fun c1 => ?_) (fun c1 => ?_)
  · refine q_ic (v := 0) (mz_fe (e := (18, .iconst 0, 1, (0, 0, 0), [])) (by decide +kernel)) (by decide) ?_
    exact q_retZ (mz_fe (e := (19, .ireturn, 1, (0, 0, 0), [])) (by decide +kernel)) (by decide +kernel) (by decide)
  · refine q_ic (v := 1) (mz_fe (e := (14, .iconst 1, 1, (0, 0, 0), [])) (by decide +kernel)) (by decide) ?_
    refine q_o (mz_fe (e := (15, .goto 4, 3, (0, 0, 0), [])) (by decide +kernel)) (pc2 := 19) rfl ?_
    exact q_retZ (mz_fe (e := (19, .ireturn, 1, (0, 0, 0), [])) (by decide +kernel)) (by decide +kernel) (by decide)
set_option maxRecDepth 10000 in
theorem R_X7_append_eq (d : Nat) (x0 : Int32) (m : MzM)  : R_X7_append d x0 m = H_X7_append_3 d x0 24 m := by
  show mz_cV (mz_T d 79 0 (mz_en (mz_xl 79) [.ref 2, .int x0]) [] m) = _
  rw [show mz_en (mz_xl 79) [.ref 2, .int x0] = [some (.ref 2), some (.int x0), none] from by rw [show mz_xl 79 = 3 from by decide +kernel]; rfl]
  refine q_bi (v := 24) (mz_fe (e := (0, .bipush 24, 2, (0, 0, 0), [])) (by decide +kernel)) (by decide) ?_
  refine q_s (mz_fe (e := (2, .istore_n 2, 1, (0, 0, 0), [])) (by decide +kernel)) (pc' := 3) (L' := [some (.ref 2), some (.int x0), some (.int 24)]) (st' := []) rfl ?_
  exact congrArg mz_cV (mz_At_msk (L := [some (.ref 2), some (.int x0), some (.int 24)]) (L2 := [some (.ref 2), some (.int x0), some (.int 24)]) (mz_fe (e := (3, .iload_n 2, 1, (0, 0, 0), [true, true, true])) (by decide +kernel)) rfl rfl)
set_option maxRecDepth 10000 in
theorem H_X7_append_3_eq (d : Nat) (y1 : Int32) (y2 : Int32) (m : MzM)  : H_X7_append_3 d y1 y2 m = if y2 < 0 then some m else ((R_X7_hasRoomFor d 1 m).bind (fun u4 => if u4.1 = 0 then some u4.2 else (mz_g (mz_ok (mz_rd u4.2 2 1) 2000) (H_X7_append_3 d y1 (y2 + (-8)) (mz_wr (mz_wr u4.2 3 ((mz_rd u4.2 2 1) : Int32).toNatClampNeg (vp_nar .byte ((((y1 : Int32).toUInt32 >>> ((y2 : Int32).toUInt32 &&& Int32.toUInt32 31)).toInt32) : Int32).toInt8.toInt32)) 2 1 ((mz_rd (mz_wr u4.2 3 ((mz_rd u4.2 2 1) : Int32).toNatClampNeg (vp_nar .byte ((((y1 : Int32).toUInt32 >>> ((y2 : Int32).toUInt32 &&& Int32.toUInt32 31)).toInt32) : Int32).toInt8.toInt32)) 2 1) + 1)))))) := by
  show mz_cV (mz_T d 79 3 [some (.ref 2), some (.int y1), some (.int y2)] [] m) = _
  refine q_s (mz_fe (e := (3, .iload_n 2, 1, (0, 0, 0), [true, true, true])) (by decide +kernel)) (pc' := 4) (L' := [some (.ref 2), some (.int y1), some (.int y2)]) (st' := [.int y2]) rfl ?_
  refine q_if (c := .lt) (off := 40) (t := 44) (x := y2) (y := 0) (st := []) (mz_fe (e := (4, .ifCond .lt 40, 3, (0, 0, 0), [])) (by decide +kernel)) (fun _ => rfl) rfl rfl rfl (fun c1 => ?_) (fun c1 => ?_)
  · exact q_retV (mz_fe (e := (44, .return_, 1, (0, 0, 0), [])) (by decide +kernel)) (by decide +kernel)
  · refine q_o (mz_fe (e := (7, .aload_n 0, 1, (0, 0, 0), [])) (by decide +kernel)) (pc2 := 8) rfl ?_
    refine q_ic (v := 1) (mz_fe (e := (8, .iconst 1, 1, (0, 0, 0), [])) (by decide +kernel)) (by decide) ?_
    refine q_callI (N := 78) (vs := [.ref 2, .int 1]) (rest := []) (L' := [some (.ref 2), some (.int y1), some (.int y2)]) (f := fun v3 m2 => if v3 = 0 then some m2 else (mz_g (mz_ok (mz_rd m2 2 1) 2000) (H_X7_append_3 d y1 (y2 + (-8)) (mz_wr (mz_wr m2 3 ((mz_rd m2 2 1) : Int32).toNatClampNeg (vp_nar .byte ((((y1 : Int32).toUInt32 >>> ((y2 : Int32).toUInt32 &&& Int32.toUInt32 31)).toInt32) : Int32).toInt8.toInt32)) 2 1 ((mz_rd (mz_wr m2 3 ((mz_rd m2 2 1) : Int32).toNatClampNeg (vp_nar .byte ((((y1 : Int32).toUInt32 >>> ((y2 : Int32).toUInt32 &&& Int32.toUInt32 31)).toInt32) : Int32).toInt8.toInt32)) 2 1) + 1))))) rfl (mz_fe (e := (9, .invokevirtual 19, 72, (78, 2, 13), [])) (by decide +kernel)) rfl (mz_inv_virt (N := 78) (k := 2) (t := 13) (st := [.int 1, .ref 2]) (rest := []) (b := 2) (vs := [.int 1]) (h := (mz_S0, m)) rfl rfl (Nat.le_of_ble_eq_true rfl) (Nat.le_of_ble_eq_true rfl) tg_2 (by decide)) (mz_dc_lt (n := 2) rfl (by decide +kernel) (by decide +kernel)) (by decide +kernel) (Or.inr (by decide +kernel)) (fun v3 m2 => ?_)
    refine q_if (c := .eq) (off := 32) (t := 44) (x := v3) (y := 0) (st := []) (mz_fe (e := (12, .ifCond .eq 32, 3, (0, 0, 0), [])) (by decide +kernel)) (fun _ => rfl) rfl rfl rfl (fun c5 => ?_) (fun c5 => ?_)
    · exact q_retV (mz_fe (e := (44, .return_, 1, (0, 0, 0), [])) (by decide +kernel)) (by decide +kernel)
    · refine q_o (mz_fe (e := (15, .aload_n 0, 1, (0, 0, 0), [])) (by decide +kernel)) (pc2 := 16) rfl ?_
      refine q_getR (b := 3) (mz_fe (e := (16, .getfield 9, 64, (7, 0, 2), [])) (by decide +kernel)) rfl tg_2 (by rw [ln_2]; decide) (mz_rfS (by decide +kernel)) ?_
      refine q_o (mz_fe (e := (19, .aload_n 0, 1, (0, 0, 0), [])) (by decide +kernel)) (pc2 := 20) rfl ?_
      refine q_getI (mz_fe (e := (20, .getfield 15, 65, (7, 1, 0), [])) (by decide +kernel)) rfl (by decide) tg_2 (by rw [ln_2]; decide) ?_
      refine q_o (mz_fe (e := (23, .iload_n 1, 1, (0, 0, 0), [])) (by decide +kernel)) (pc2 := 24) rfl ?_
      refine q_o (mz_fe (e := (24, .iload_n 2, 1, (0, 0, 0), [])) (by decide +kernel)) (pc2 := 25) rfl ?_
      refine q_o (mz_fe (e := (25, .iushr, 1, (0, 0, 0), [])) (by decide +kernel)) (pc2 := 26) rfl ?_
      refine q_o (mz_fe (e := (26, .i2b, 1, (0, 0, 0), [])) (by decide +kernel)) (pc2 := 27) rfl ?_
      refine q_stAg (f := (vp_nar .byte)) rfl (mz_fe (e := (27, .bastore, 1, (0, 0, 0), [])) (by decide +kernel)) (q_actB tg_3) rfl tg_3 ln_3 (fun g6 => ?_)
      refine q_o (mz_fe (e := (28, .aload_n 0, 1, (0, 0, 0), [])) (by decide +kernel)) (pc2 := 29) rfl ?_
      refine q_o (mz_fe (e := (29, .dup, 1, (0, 0, 0), [])) (by decide +kernel)) (pc2 := 30) rfl ?_
      refine q_getI (mz_fe (e := (30, .getfield 15, 65, (7, 1, 0), [])) (by decide +kernel)) rfl (by decide) tg_2 (by rw [ln_2]; decide) ?_
      refine q_ic (v := 1) (mz_fe (e := (33, .iconst 1, 1, (0, 0, 0), [])) (by decide +kernel)) (by decide) ?_
      refine q_o (mz_fe (e := (34, .iadd, 1, (0, 0, 0), [])) (by decide +kernel)) (pc2 := 35) rfl ?_
      refine q_putI (mz_fe (e := (35, .putfield 15, 65, (7, 1, 0), [])) (by decide +kernel)) rfl tg_2 (by rw [ln_2]; decide) ?_
      refine q_iinc (v := y2) (c := (-8)) (L3 := [some (.ref 2), some (.int y1), some (.int (y2 + (-8)))]) (mz_fe (e := (38, .iinc 2 (-8), 3, (0, 0, 0), [])) (by decide +kernel)) rfl rfl (by decide) rfl ?_
      refine q_o (mz_fe (e := (41, .goto (-38), 3, (0, 0, 0), [])) (by decide +kernel)) (pc2 := 3) rfl ?_
      exact congrArg mz_cV (mz_At_msk (L := [some (.ref 2), some (.int y1), some (.int (y2 + (-8)))]) (L2 := [some (.ref 2), some (.int y1), some (.int (y2 + (-8)))]) (mz_fe (e := (3, .iload_n 2, 1, (0, 0, 0), [true, true, true])) (by decide +kernel)) rfl rfl)
set_option maxRecDepth 10000 in
theorem R_X7_byteAt_eq (d : Nat) (x0 : Int32) (m : MzM)  : R_X7_byteAt d x0 m = if x0 < 0 then (some ((-1), m)) else (if (mz_rd m 2 1) ≤ x0 then (some ((-1), m)) else (mz_g (mz_ok x0 2000) (some (((mz_rd m 3 (x0 : Int32).toNatClampNeg) &&& 255), m)))) := by
  show mz_cI (mz_T d 80 0 (mz_en (mz_xl 80) [.ref 2, .int x0]) [] m) = _
  rw [show mz_en (mz_xl 80) [.ref 2, .int x0] = [some (.ref 2), some (.int x0)] from by rw [show mz_xl 80 = 2 from by decide +kernel]; rfl]
  refine q_o (mz_fe (e := (0, .iload_n 1, 1, (0, 0, 0), [])) (by decide +kernel)) (pc2 := 1) rfl ?_
  refine q_if (c := .lt) (off := 24) (t := 25) (x := x0) (y := 0) (st := []) (mz_fe (e := (1, .ifCond .lt 24, 3, (0, 0, 0), [])) (by decide +kernel)) (fun _ => rfl) rfl rfl rfl (fun c1 => ?_) (fun c1 => ?_)
  · refine q_ic (v := (-1)) (mz_fe (e := (25, .iconst (-1), 1, (0, 0, 0), [])) (by decide +kernel)) (by decide) ?_
    exact q_retI (mz_fe (e := (26, .ireturn, 1, (0, 0, 0), [])) (by decide +kernel)) (by decide +kernel)
  · refine q_o (mz_fe (e := (4, .iload_n 1, 1, (0, 0, 0), [])) (by decide +kernel)) (pc2 := 5) rfl ?_
    refine q_o (mz_fe (e := (5, .aload_n 0, 1, (0, 0, 0), [])) (by decide +kernel)) (pc2 := 6) rfl ?_
    refine q_getI (mz_fe (e := (6, .getfield 15, 65, (7, 1, 0), [])) (by decide +kernel)) rfl (by decide) tg_2 (by rw [ln_2]; decide) ?_
    refine q_if (c := .ge) (off := 16) (t := 25) (x := x0) (y := (mz_rd m 2 1)) (st := []) (mz_fe (e := (9, .if_icmp .ge 16, 3, (0, 0, 0), [])) (by decide +kernel)) (fun _ => rfl) rfl rfl rfl (fun c2 => ?_) (fun c2 => ?_)
    · refine q_ic (v := (-1)) (mz_fe (e := (25, .iconst (-1), 1, (0, 0, 0), [])) (by decide +kernel)) (by decide) ?_
      exact q_retI (mz_fe (e := (26, .ireturn, 1, (0, 0, 0), [])) (by decide +kernel)) (by decide +kernel)
    · refine q_o (mz_fe (e := (12, .aload_n 0, 1, (0, 0, 0), [])) (by decide +kernel)) (pc2 := 13) rfl ?_
      refine q_getR (b := 3) (mz_fe (e := (13, .getfield 9, 64, (7, 0, 2), [])) (by decide +kernel)) rfl tg_2 (by rw [ln_2]; decide) (mz_rfS (by decide +kernel)) ?_
      refine q_o (mz_fe (e := (16, .iload_n 1, 1, (0, 0, 0), [])) (by decide +kernel)) (pc2 := 17) rfl ?_
      refine q_baldg rfl (mz_fe (e := (17, .baload, 1, (0, 0, 0), [])) (by decide +kernel)) rfl (Or.inr tg_3) ln_3 (fun g3 => ?_)
      refine q_si (v := 255) (mz_fe (e := (18, .sipush 255, 3, (0, 0, 0), [])) (by decide +kernel)) (by decide) ?_
      refine q_o (mz_fe (e := (21, .iand, 1, (0, 0, 0), [])) (by decide +kernel)) (pc2 := 22) rfl ?_
      refine q_o (mz_fe (e := (22, .goto 4, 3, (0, 0, 0), [])) (by decide +kernel)) (pc2 := 26) rfl ?_
      exact q_retI (mz_fe (e := (26, .ireturn, 1, (0, 0, 0), [])) (by decide +kernel)) (by decide +kernel)
set_option maxRecDepth 10000 in
theorem R_X8_clear_eq (d : Nat) (t : Nat) (m : MzM) (ht : mz_isT t = true) : R_X8_clear d t m = (R_X2_clear d (t + 4) (mz_wr (mz_wr (mz_wr (mz_wr (mz_wr m t 4 0) t 5 0) t 6 1) t 7 0) t 8 0)).bind (fun m1 => some m1) := by
  show mz_cV (mz_T d 82 0 (mz_en (mz_xl 82) [.ref t]) [] m) = _
  rw [show mz_en (mz_xl 82) [.ref t] = [some (.ref t)] from by rw [show mz_xl 82 = 1 from by decide +kernel]; rfl]
  refine q_o (mz_fe (e := (0, .aload_n 0, 1, (0, 0, 0), [])) (by decide +kernel)) (pc2 := 1) rfl ?_
  refine q_ic (v := 0) (mz_fe (e := (1, .iconst 0, 1, (0, 0, 0), [])) (by decide +kernel)) (by decide) ?_
  refine q_putI (mz_fe (e := (2, .putfield 32, 70, (8, 4, 0), [])) (by decide +kernel)) rfl (tx_t ht) (by rw [(tx_l ht)]; decide) ?_
  refine q_o (mz_fe (e := (5, .aload_n 0, 1, (0, 0, 0), [])) (by decide +kernel)) (pc2 := 6) rfl ?_
  refine q_ic (v := 0) (mz_fe (e := (6, .iconst 0, 1, (0, 0, 0), [])) (by decide +kernel)) (by decide) ?_
  refine q_putI (mz_fe (e := (7, .putfield 36, 71, (8, 5, 0), [])) (by decide +kernel)) rfl (tx_t ht) (by rw [(tx_l ht)]; decide) ?_
  refine q_o (mz_fe (e := (10, .aload_n 0, 1, (0, 0, 0), [])) (by decide +kernel)) (pc2 := 11) rfl ?_
  refine q_ic (v := 1) (mz_fe (e := (11, .iconst 1, 1, (0, 0, 0), [])) (by decide +kernel)) (by decide) ?_
  refine q_putI (mz_fe (e := (12, .putfield 39, 72, (8, 6, 0), [])) (by decide +kernel)) rfl (tx_t ht) (by rw [(tx_l ht)]; decide) ?_
  refine q_o (mz_fe (e := (15, .aload_n 0, 1, (0, 0, 0), [])) (by decide +kernel)) (pc2 := 16) rfl ?_
  refine q_ic (v := 0) (mz_fe (e := (16, .iconst 0, 1, (0, 0, 0), [])) (by decide +kernel)) (by decide) ?_
  refine q_putI (mz_fe (e := (17, .putfield 42, 73, (8, 7, 0), [])) (by decide +kernel)) rfl (tx_t ht) (by rw [(tx_l ht)]; decide) ?_
  refine q_o (mz_fe (e := (20, .aload_n 0, 1, (0, 0, 0), [])) (by decide +kernel)) (pc2 := 21) rfl ?_
  refine q_ic (v := 0) (mz_fe (e := (21, .iconst 0, 1, (0, 0, 0), [])) (by decide +kernel)) (by decide) ?_
  refine q_putI (mz_fe (e := (22, .putfield 45, 74, (8, 8, 0), [])) (by decide +kernel)) rfl (tx_t ht) (by rw [(tx_l ht)]; decide) ?_
  refine q_o (mz_fe (e := (25, .aload_n 0, 1, (0, 0, 0), [])) (by decide +kernel)) (pc2 := 26) rfl ?_
  refine q_getR (b := (t + 4)) (mz_fe (e := (26, .getfield 25, 69, (8, 3, 2), [])) (by decide +kernel)) rfl (tx_t ht) (by rw [(tx_l ht)]; decide) (tx_r3 ht) ?_
  refine q_callV (N := 15) (vs := [.ref (t + 4)]) (rest := []) (L' := [some (.ref t)]) rfl (mz_fe (e := (29, .invokevirtual 48, 75, (15, 1, 8), [])) (by decide +kernel)) rfl (mz_inv_virt (N := 15) (k := 1) (t := 8) (st := [.ref (t + 4)]) (rest := []) (b := (t + 4)) (vs := []) (h := (mz_S0, (mz_wr (mz_wr (mz_wr (mz_wr (mz_wr m t 4 0) t 5 0) t 6 1) t 7 0) t 8 0))) rfl rfl (Nat.le_of_ble_eq_true rfl) (Nat.le_of_ble_eq_true rfl) (ls_t (mz_isW_T ht)) (by decide)) (mz_dc_lt (n := 1) rfl (by decide +kernel) (by decide +kernel)) (by decide +kernel) (by decide +kernel) (fun m1 => ?_)
  exact q_retV (mz_fe (e := (32, .return_, 1, (0, 0, 0), [])) (by decide +kernel)) (by decide +kernel)
set_option maxRecDepth 10000 in
theorem R_X8_copyFrom_eq (d : Nat) (t : Nat) (t2 : Nat) (m : MzM) (ht : mz_isT t = true) (ht2 : mz_isT t2 = true) : R_X8_copyFrom d t t2 m = (R_X2_copyFrom d (t + 4) (t2 + 4) (mz_cp (mz_cp m (t2 + 2) 0 (t + 2) 0 24) (t2 + 3) 0 (t + 3) 0 32)).bind (fun m1 => some (mz_wr (mz_wr (mz_wr (mz_wr (mz_wr m1 t 4 (mz_rd m1 t2 4)) t 5 (mz_rd (mz_wr m1 t 4 (mz_rd m1 t2 4)) t2 5)) t 6 (mz_rd (mz_wr (mz_wr m1 t 4 (mz_rd m1 t2 4)) t 5 (mz_rd (mz_wr m1 t 4 (mz_rd m1 t2 4)) t2 5)) t2 6)) t 7 (mz_rd (mz_wr (mz_wr (mz_wr m1 t 4 (mz_rd m1 t2 4)) t 5 (mz_rd (mz_wr m1 t 4 (mz_rd m1 t2 4)) t2 5)) t 6 (mz_rd (mz_wr (mz_wr m1 t 4 (mz_rd m1 t2 4)) t 5 (mz_rd (mz_wr m1 t 4 (mz_rd m1 t2 4)) t2 5)) t2 6)) t2 7)) t 8 (mz_rd (mz_wr (mz_wr (mz_wr (mz_wr m1 t 4 (mz_rd m1 t2 4)) t 5 (mz_rd (mz_wr m1 t 4 (mz_rd m1 t2 4)) t2 5)) t 6 (mz_rd (mz_wr (mz_wr m1 t 4 (mz_rd m1 t2 4)) t 5 (mz_rd (mz_wr m1 t 4 (mz_rd m1 t2 4)) t2 5)) t2 6)) t 7 (mz_rd (mz_wr (mz_wr (mz_wr m1 t 4 (mz_rd m1 t2 4)) t 5 (mz_rd (mz_wr m1 t 4 (mz_rd m1 t2 4)) t2 5)) t 6 (mz_rd (mz_wr (mz_wr m1 t 4 (mz_rd m1 t2 4)) t 5 (mz_rd (mz_wr m1 t 4 (mz_rd m1 t2 4)) t2 5)) t2 6)) t2 7)) t2 8))) := by
  show mz_cV (mz_T d 83 0 (mz_en (mz_xl 83) [.ref t, .ref t2]) [] m) = _
  rw [show mz_en (mz_xl 83) [.ref t, .ref t2] = [some (.ref t), some (.ref t2)] from by rw [show mz_xl 83 = 2 from by decide +kernel]; rfl]
  refine q_o (mz_fe (e := (0, .aload_n 1, 1, (0, 0, 0), [])) (by decide +kernel)) (pc2 := 1) rfl ?_
  refine q_getR (b := (t2 + 2)) (mz_fe (e := (1, .getfield 15, 67, (8, 1, 2), [])) (by decide +kernel)) rfl (tx_t ht2) (by rw [(tx_l ht2)]; decide) (tx_r1 ht2) ?_
  refine q_ic (v := 0) (mz_fe (e := (4, .iconst 0, 1, (0, 0, 0), [])) (by decide +kernel)) (by decide) ?_
  refine q_o (mz_fe (e := (5, .aload_n 0, 1, (0, 0, 0), [])) (by decide +kernel)) (pc2 := 6) rfl ?_
  refine q_getR (b := (t + 2)) (mz_fe (e := (6, .getfield 15, 67, (8, 1, 2), [])) (by decide +kernel)) rfl (tx_t ht) (by rw [(tx_l ht)]; decide) (tx_r1 ht) ?_
  refine q_ic (v := 0) (mz_fe (e := (9, .iconst 0, 1, (0, 0, 0), [])) (by decide +kernel)) (by decide) ?_
  refine q_o (mz_fe (e := (10, .aload_n 0, 1, (0, 0, 0), [])) (by decide +kernel)) (pc2 := 11) rfl ?_
  refine q_getR (b := (t + 2)) (mz_fe (e := (11, .getfield 15, 67, (8, 1, 2), [])) (by decide +kernel)) rfl (tx_t ht) (by rw [(tx_l ht)]; decide) (tx_r1 ht) ?_
  refine q_alen (v := 24) (mz_fe (e := (14, .arraylength, 1, (0, 0, 0), [])) (by decide +kernel)) rfl (by omega) (by rw [(tx_ct ht)]; decide) (tx_cl ht) (by decide) ?_
  refine q_cpy (mz_fe (e := (15, .invokestatic 49, 19, (9998, 0, 0), [])) (by decide +kernel)) rfl (tx_ct ht2) (tx_ct ht) (tx_cl ht2) (tx_cl ht) (by decide) (sj := 0) (by decide) (dj := 0) (by decide) (nj := 24) (by decide) (by decide) (Nat.le_of_ble_eq_true rfl) ?_
  refine q_o (mz_fe (e := (18, .aload_n 1, 1, (0, 0, 0), [])) (by decide +kernel)) (pc2 := 19) rfl ?_
  refine q_getR (b := (t2 + 3)) (mz_fe (e := (19, .getfield 19, 68, (8, 2, 2), [])) (by decide +kernel)) rfl (tx_t ht2) (by rw [(tx_l ht2)]; decide) (tx_r2 ht2) ?_
  refine q_ic (v := 0) (mz_fe (e := (22, .iconst 0, 1, (0, 0, 0), [])) (by decide +kernel)) (by decide) ?_
  refine q_o (mz_fe (e := (23, .aload_n 0, 1, (0, 0, 0), [])) (by decide +kernel)) (pc2 := 24) rfl ?_
  refine q_getR (b := (t + 3)) (mz_fe (e := (24, .getfield 19, 68, (8, 2, 2), [])) (by decide +kernel)) rfl (tx_t ht) (by rw [(tx_l ht)]; decide) (tx_r2 ht) ?_
  refine q_ic (v := 0) (mz_fe (e := (27, .iconst 0, 1, (0, 0, 0), [])) (by decide +kernel)) (by decide) ?_
  refine q_o (mz_fe (e := (28, .aload_n 0, 1, (0, 0, 0), [])) (by decide +kernel)) (pc2 := 29) rfl ?_
  refine q_getR (b := (t + 3)) (mz_fe (e := (29, .getfield 19, 68, (8, 2, 2), [])) (by decide +kernel)) rfl (tx_t ht) (by rw [(tx_l ht)]; decide) (tx_r2 ht) ?_
  refine q_alen (v := 32) (mz_fe (e := (32, .arraylength, 1, (0, 0, 0), [])) (by decide +kernel)) rfl (by omega) (by rw [(tx_st ht)]; decide) (tx_sl ht) (by decide) ?_
  refine q_cpy (mz_fe (e := (33, .invokestatic 49, 19, (9998, 0, 0), [])) (by decide +kernel)) rfl (tx_st ht2) (tx_st ht) (tx_sl ht2) (tx_sl ht) (by decide) (sj := 0) (by decide) (dj := 0) (by decide) (nj := 32) (by decide) (by decide) (Nat.le_of_ble_eq_true rfl) ?_
  refine q_o (mz_fe (e := (36, .aload_n 0, 1, (0, 0, 0), [])) (by decide +kernel)) (pc2 := 37) rfl ?_
  refine q_getR (b := (t + 4)) (mz_fe (e := (37, .getfield 25, 69, (8, 3, 2), [])) (by decide +kernel)) rfl (tx_t ht) (by rw [(tx_l ht)]; decide) (tx_r3 ht) ?_
  refine q_o (mz_fe (e := (40, .aload_n 1, 1, (0, 0, 0), [])) (by decide +kernel)) (pc2 := 41) rfl ?_
  refine q_getR (b := (t2 + 4)) (mz_fe (e := (41, .getfield 25, 69, (8, 3, 2), [])) (by decide +kernel)) rfl (tx_t ht2) (by rw [(tx_l ht2)]; decide) (tx_r3 ht2) ?_
  refine q_callV (N := 16) (vs := [.ref (t + 4), .ref (t2 + 4)]) (rest := []) (L' := [some (.ref t), some (.ref t2)]) rfl (mz_fe (e := (44, .invokevirtual 55, 76, (16, 2, 8), [])) (by decide +kernel)) rfl (mz_inv_virt (N := 16) (k := 2) (t := 8) (st := [.ref (t2 + 4), .ref (t + 4)]) (rest := []) (b := (t + 4)) (vs := [.ref (t2 + 4)]) (h := (mz_S0, (mz_cp (mz_cp m (t2 + 2) 0 (t + 2) 0 24) (t2 + 3) 0 (t + 3) 0 32))) rfl rfl (Nat.le_of_ble_eq_true rfl) (Nat.le_of_ble_eq_true rfl) (ls_t (mz_isW_T ht)) (by decide)) (mz_dc_lt (n := 2) rfl (by decide +kernel) (by decide +kernel)) (by decide +kernel) (by decide +kernel) (fun m1 => ?_)
  refine q_o (mz_fe (e := (47, .aload_n 0, 1, (0, 0, 0), [])) (by decide +kernel)) (pc2 := 48) rfl ?_
  refine q_o (mz_fe (e := (48, .aload_n 1, 1, (0, 0, 0), [])) (by decide +kernel)) (pc2 := 49) rfl ?_
  refine q_getI (mz_fe (e := (49, .getfield 32, 70, (8, 4, 0), [])) (by decide +kernel)) rfl (by decide) (tx_t ht2) (by rw [(tx_l ht2)]; decide) ?_
  refine q_putI (mz_fe (e := (52, .putfield 32, 70, (8, 4, 0), [])) (by decide +kernel)) rfl (tx_t ht) (by rw [(tx_l ht)]; decide) ?_
  refine q_o (mz_fe (e := (55, .aload_n 0, 1, (0, 0, 0), [])) (by decide +kernel)) (pc2 := 56) rfl ?_
  refine q_o (mz_fe (e := (56, .aload_n 1, 1, (0, 0, 0), [])) (by decide +kernel)) (pc2 := 57) rfl ?_
  refine q_getI (mz_fe (e := (57, .getfield 36, 71, (8, 5, 0), [])) (by decide +kernel)) rfl (by decide) (tx_t ht2) (by rw [(tx_l ht2)]; decide) ?_
  refine q_putI (mz_fe (e := (60, .putfield 36, 71, (8, 5, 0), [])) (by decide +kernel)) rfl (tx_t ht) (by rw [(tx_l ht)]; decide) ?_
  refine q_o (mz_fe (e := (63, .aload_n 0, 1, (0, 0, 0), [])) (by decide +kernel)) (pc2 := 64) rfl ?_
  refine q_o (mz_fe (e := (64, .aload_n 1, 1, (0, 0, 0), [])) (by decide +kernel)) (pc2 := 65) rfl ?_
  refine q_getI (mz_fe (e := (65, .getfield 39, 72, (8, 6, 0), [])) (by decide +kernel)) rfl (by decide) (tx_t ht2) (by rw [(tx_l ht2)]; decide) ?_
  refine q_putI (mz_fe (e := (68, .putfield 39, 72, (8, 6, 0), [])) (by decide +kernel)) rfl (tx_t ht) (by rw [(tx_l ht)]; decide) ?_
  refine q_o (mz_fe (e := (71, .aload_n 0, 1, (0, 0, 0), [])) (by decide +kernel)) (pc2 := 72) rfl ?_
  refine q_o (mz_fe (e := (72, .aload_n 1, 1, (0, 0, 0), [])) (by decide +kernel)) (pc2 := 73) rfl ?_
  refine q_getI (mz_fe (e := (73, .getfield 42, 73, (8, 7, 0), [])) (by decide +kernel)) rfl (by decide) (tx_t ht2) (by rw [(tx_l ht2)]; decide) ?_
  refine q_putI (mz_fe (e := (76, .putfield 42, 73, (8, 7, 0), [])) (by decide +kernel)) rfl (tx_t ht) (by rw [(tx_l ht)]; decide) ?_
  refine q_o (mz_fe (e := (79, .aload_n 0, 1, (0, 0, 0), [])) (by decide +kernel)) (pc2 := 80) rfl ?_
  refine q_o (mz_fe (e := (80, .aload_n 1, 1, (0, 0, 0), [])) (by decide +kernel)) (pc2 := 81) rfl ?_
  refine q_getI (mz_fe (e := (81, .getfield 45, 74, (8, 8, 0), [])) (by decide +kernel)) rfl (by decide) (tx_t ht2) (by rw [(tx_l ht2)]; decide) ?_
  refine q_putI (mz_fe (e := (84, .putfield 45, 74, (8, 8, 0), [])) (by decide +kernel)) rfl (tx_t ht) (by rw [(tx_l ht)]; decide) ?_
  exact q_retV (mz_fe (e := (87, .return_, 1, (0, 0, 0), [])) (by decide +kernel)) (by decide +kernel)
set_option maxRecDepth 10000 in
theorem R_X8_personNamed_eq (d : Nat) (t : Nat) (x0 : Int64) (m : MzM) (ht : mz_isT t = true) : R_X8_personNamed d t x0 m = H_X8_personNamed_2 d t x0 0 m := by
  show mz_cI (mz_T d 84 0 (mz_en (mz_xl 84) [.ref t, .long x0]) [] m) = _
  rw [show mz_en (mz_xl 84) [.ref t, .long x0] = [some (.ref t), some (.long x0), none, none] from by rw [show mz_xl 84 = 4 from by decide +kernel]; rfl]
  refine q_ic (v := 0) (mz_fe (e := (0, .iconst 0, 1, (0, 0, 0), [])) (by decide +kernel)) (by decide) ?_
  refine q_s (mz_fe (e := (1, .istore_n 3, 1, (0, 0, 0), [])) (by decide +kernel)) (pc' := 2) (L' := [some (.ref t), some (.long x0), none, some (.int 0)]) (st' := []) rfl ?_
  exact congrArg mz_cI (mz_At_msk (L := [some (.ref t), some (.long x0), none, some (.int 0)]) (L2 := [some (.ref t), some (.long x0), none, some (.int 0)]) (mz_fe (e := (2, .iload_n 3, 1, (0, 0, 0), [true, true, false, true])) (by decide +kernel)) rfl rfl)
set_option maxRecDepth 10000 in
theorem H_X8_personNamed_2_eq (d : Nat) (a0 : Nat) (y1 : Int64) (y3 : Int32) (m : MzM) (ha0 : mz_isT a0 = true) : H_X8_personNamed_2 d a0 y1 y3 m = if (mz_rd m a0 4) ≤ y3 then (some ((-1), m)) else (mz_g (mz_ok y3 6) (if ¬ (lg_cmp (mz_rl m (a0 + 1) (y3 : Int32).toNatClampNeg) y1) = 0 then (H_X8_personNamed_2 d a0 y1 (y3 + 1) m) else (some (y3, m)))) := by
  show mz_cI (mz_T d 84 2 [some (.ref a0), some (.long y1), none, some (.int y3)] [] m) = _
  refine q_s (mz_fe (e := (2, .iload_n 3, 1, (0, 0, 0), [true, true, false, true])) (by decide +kernel)) (pc' := 3) (L' := [some (.ref a0), some (.long y1), none, some (.int y3)]) (st' := [.int y3]) rfl ?_
  refine q_o (mz_fe (e := (3, .aload_n 0, 1, (0, 0, 0), [])) (by decide +kernel)) (pc2 := 4) rfl ?_
  refine q_getI (mz_fe (e := (4, .getfield 32, 70, (8, 4, 0), [])) (by decide +kernel)) rfl (by decide) (tx_t ha0) (by rw [(tx_l ha0)]; decide) ?_
  refine q_if (c := .ge) (off := 22) (t := 29) (x := y3) (y := (mz_rd m a0 4)) (st := []) (mz_fe (e := (7, .if_icmp .ge 22, 3, (0, 0, 0), [])) (by decide +kernel)) (fun _ => rfl) rfl rfl rfl (fun c1 => ?_) (fun c1 => ?_)
  · refine q_ic (v := (-1)) (mz_fe (e := (29, .iconst (-1), 1, (0, 0, 0), [])) (by decide +kernel)) (by decide) ?_
    exact q_retI (mz_fe (e := (30, .ireturn, 1, (0, 0, 0), [])) (by decide +kernel)) (by decide +kernel)
  · refine q_o (mz_fe (e := (10, .aload_n 0, 1, (0, 0, 0), [])) (by decide +kernel)) (pc2 := 11) rfl ?_
    refine q_getR (b := (a0 + 1)) (mz_fe (e := (11, .getfield 9, 66, (8, 0, 2), [])) (by decide +kernel)) rfl (tx_t ha0) (by rw [(tx_l ha0)]; decide) (tx_r0 ha0) ?_
    refine q_o (mz_fe (e := (14, .iload_n 3, 1, (0, 0, 0), [])) (by decide +kernel)) (pc2 := 15) rfl ?_
    refine q_laldg rfl (mz_fe (e := (15, .laload, 1, (0, 0, 0), [])) (by decide +kernel)) rfl (tx_nt ha0) (tx_nl ha0) (fun g2 => ?_)
    refine q_o (mz_fe (e := (16, .lload_n 1, 1, (0, 0, 0), [])) (by decide +kernel)) (pc2 := 17) rfl ?_
    refine q_o (mz_fe (e := (17, .lcmp, 1, (0, 0, 0), [])) (by decide +kernel)) (pc2 := 18) rfl ?_
    refine q_if (c := .ne) (off := 5) (t := 23) (x := (lg_cmp (mz_rl m (a0 + 1) (y3 : Int32).toNatClampNeg) y1)) (y := 0) (st := []) (mz_fe (e := (18, .ifCond .ne 5, 3, (0, 0, 0), [])) (by decide +kernel)) (fun _ => rfl) rfl rfl rfl (fun c3 => ?_) (fun c3 => ?_)
    · refine q_iinc (v := y3) (c := 1) (L3 := [some (.ref a0), some (.long y1), none, some (.int (y3 + 1))]) (mz_fe (e := (23, .iinc 3 1, 3, (0, 0, 0), [])) (by decide +kernel)) rfl rfl (by decide) rfl ?_
      refine q_o (mz_fe (e := (26, .goto (-24), 3, (0, 0, 0), [])) (by decide +kernel)) (pc2 := 2) rfl ?_
      exact congrArg mz_cI (mz_At_msk (L := [some (.ref a0), some (.long y1), none, some (.int (y3 + 1))]) (L2 := [some (.ref a0), some (.long y1), none, some (.int (y3 + 1))]) (mz_fe (e := (2, .iload_n 3, 1, (0, 0, 0), [true, true, false, true])) (by decide +kernel)) rfl rfl)
    · refine q_o (mz_fe (e := (21, .iload_n 3, 1, (0, 0, 0), [])) (by decide +kernel)) (pc2 := 22) rfl ?_
      exact q_retI (mz_fe (e := (22, .ireturn, 1, (0, 0, 0), [])) (by decide +kernel)) (by decide +kernel)
set_option maxRecDepth 10000 in
theorem R_X8_setSuit_eq (d : Nat) (t : Nat) (x0 : Int32) (x1 : Int32) (x2 : Int32) (x3 : Int32) (x4 : Int32) (m : MzM) (ht : mz_isT t = true) : R_X8_setSuit d t x0 x1 x2 x3 x4 m = mz_g (mz_ok ((x0 * 4) + 0) 32) (mz_g (mz_ok ((x0 * 4) + 1) 32) (mz_g (mz_ok ((x0 * 4) + 2) 32) (mz_g (mz_ok ((x0 * 4) + 3) 32) (some (mz_wr (mz_wr (mz_wr (mz_wr m (t + 3) (((x0 * 4) + 0) : Int32).toNatClampNeg x1) (t + 3) (((x0 * 4) + 1) : Int32).toNatClampNeg x2) (t + 3) (((x0 * 4) + 2) : Int32).toNatClampNeg x3) (t + 3) (((x0 * 4) + 3) : Int32).toNatClampNeg x4))))) := by
  show mz_cV (mz_T d 85 0 (mz_en (mz_xl 85) [.ref t, .int x0, .int x1, .int x2, .int x3, .int x4]) [] m) = _
  rw [show mz_en (mz_xl 85) [.ref t, .int x0, .int x1, .int x2, .int x3, .int x4] = [some (.ref t), some (.int x0), some (.int x1), some (.int x2), some (.int x3), some (.int x4)] from by rw [show mz_xl 85 = 6 from by decide +kernel]; rfl]
  refine q_o (mz_fe (e := (0, .aload_n 0, 1, (0, 0, 0), [])) (by decide +kernel)) (pc2 := 1) rfl ?_
  refine q_getR (b := (t + 3)) (mz_fe (e := (1, .getfield 19, 68, (8, 2, 2), [])) (by decide +kernel)) rfl (tx_t ht) (by rw [(tx_l ht)]; decide) (tx_r2 ht) ?_
  refine q_o (mz_fe (e := (4, .iload_n 1, 1, (0, 0, 0), [])) (by decide +kernel)) (pc2 := 5) rfl ?_
  refine q_ic (v := 4) (mz_fe (e := (5, .iconst 4, 1, (0, 0, 0), [])) (by decide +kernel)) (by decide) ?_
  refine q_o (mz_fe (e := (6, .imul, 1, (0, 0, 0), [])) (by decide +kernel)) (pc2 := 7) rfl ?_
  refine q_ic (v := 0) (mz_fe (e := (7, .iconst 0, 1, (0, 0, 0), [])) (by decide +kernel)) (by decide) ?_
  refine q_o (mz_fe (e := (8, .iadd, 1, (0, 0, 0), [])) (by decide +kernel)) (pc2 := 9) rfl ?_
  refine q_o (mz_fe (e := (9, .iload_n 2, 1, (0, 0, 0), [])) (by decide +kernel)) (pc2 := 10) rfl ?_
  refine q_stAg (f := (fun x => x)) rfl (mz_fe (e := (10, .iastore, 1, (0, 0, 0), [])) (by decide +kernel)) (fun _ => rfl) rfl (tx_st ht) (tx_sl ht) (fun g1 => ?_)
  refine q_o (mz_fe (e := (11, .aload_n 0, 1, (0, 0, 0), [])) (by decide +kernel)) (pc2 := 12) rfl ?_
  refine q_getR (b := (t + 3)) (mz_fe (e := (12, .getfield 19, 68, (8, 2, 2), [])) (by decide +kernel)) rfl (tx_t ht) (by rw [(tx_l ht)]; decide) (tx_r2 ht) ?_
  refine q_o (mz_fe (e := (15, .iload_n 1, 1, (0, 0, 0), [])) (by decide +kernel)) (pc2 := 16) rfl ?_
  refine q_ic (v := 4) (mz_fe (e := (16, .iconst 4, 1, (0, 0, 0), [])) (by decide +kernel)) (by decide) ?_
  refine q_o (mz_fe (e := (17, .imul, 1, (0, 0, 0), [])) (by decide +kernel)) (pc2 := 18) rfl ?_
  refine q_ic (v := 1) (mz_fe (e := (18, .iconst 1, 1, (0, 0, 0), [])) (by decide +kernel)) (by decide) ?_
  refine q_o (mz_fe (e := (19, .iadd, 1, (0, 0, 0), [])) (by decide +kernel)) (pc2 := 20) rfl ?_
  refine q_o (mz_fe (e := (20, .iload_n 3, 1, (0, 0, 0), [])) (by decide +kernel)) (pc2 := 21) rfl ?_
  refine q_stAg (f := (fun x => x)) rfl (mz_fe (e := (21, .iastore, 1, (0, 0, 0), [])) (by decide +kernel)) (fun _ => rfl) rfl (tx_st ht) (tx_sl ht) (fun g2 => ?_)
  refine q_o (mz_fe (e := (22, .aload_n 0, 1, (0, 0, 0), [])) (by decide +kernel)) (pc2 := 23) rfl ?_
  refine q_getR (b := (t + 3)) (mz_fe (e := (23, .getfield 19, 68, (8, 2, 2), [])) (by decide +kernel)) rfl (tx_t ht) (by rw [(tx_l ht)]; decide) (tx_r2 ht) ?_
  refine q_o (mz_fe (e := (26, .iload_n 1, 1, (0, 0, 0), [])) (by decide +kernel)) (pc2 := 27) rfl ?_
  refine q_ic (v := 4) (mz_fe (e := (27, .iconst 4, 1, (0, 0, 0), [])) (by decide +kernel)) (by decide) ?_
  refine q_o (mz_fe (e := (28, .imul, 1, (0, 0, 0), [])) (by decide +kernel)) (pc2 := 29) rfl ?_
  refine q_ic (v := 2) (mz_fe (e := (29, .iconst 2, 1, (0, 0, 0), [])) (by decide +kernel)) (by decide) ?_
  refine q_o (mz_fe (e := (30, .iadd, 1, (0, 0, 0), [])) (by decide +kernel)) (pc2 := 31) rfl ?_
  refine q_o (mz_fe (e := (31, .iload 4, 2, (0, 0, 0), [])) (by decide +kernel)) (pc2 := 33) rfl ?_
  refine q_stAg (f := (fun x => x)) rfl (mz_fe (e := (33, .iastore, 1, (0, 0, 0), [])) (by decide +kernel)) (fun _ => rfl) rfl (tx_st ht) (tx_sl ht) (fun g3 => ?_)
  refine q_o (mz_fe (e := (34, .aload_n 0, 1, (0, 0, 0), [])) (by decide +kernel)) (pc2 := 35) rfl ?_
  refine q_getR (b := (t + 3)) (mz_fe (e := (35, .getfield 19, 68, (8, 2, 2), [])) (by decide +kernel)) rfl (tx_t ht) (by rw [(tx_l ht)]; decide) (tx_r2 ht) ?_
  refine q_o (mz_fe (e := (38, .iload_n 1, 1, (0, 0, 0), [])) (by decide +kernel)) (pc2 := 39) rfl ?_
  refine q_ic (v := 4) (mz_fe (e := (39, .iconst 4, 1, (0, 0, 0), [])) (by decide +kernel)) (by decide) ?_
  refine q_o (mz_fe (e := (40, .imul, 1, (0, 0, 0), [])) (by decide +kernel)) (pc2 := 41) rfl ?_
  refine q_ic (v := 3) (mz_fe (e := (41, .iconst 3, 1, (0, 0, 0), [])) (by decide +kernel)) (by decide) ?_
  refine q_o (mz_fe (e := (42, .iadd, 1, (0, 0, 0), [])) (by decide +kernel)) (pc2 := 43) rfl ?_
  refine q_o (mz_fe (e := (43, .iload 5, 2, (0, 0, 0), [])) (by decide +kernel)) (pc2 := 45) rfl ?_
  refine q_stAg (f := (fun x => x)) rfl (mz_fe (e := (45, .iastore, 1, (0, 0, 0), [])) (by decide +kernel)) (fun _ => rfl) rfl (tx_st ht) (tx_sl ht) (fun g4 => ?_)
  exact q_retV (mz_fe (e := (46, .return_, 1, (0, 0, 0), [])) (by decide +kernel)) (by decide +kernel)
set_option maxRecDepth 10000 in
theorem R_X8_suitPart_eq (d : Nat) (t : Nat) (x0 : Int32) (x1 : Int32) (m : MzM) (ht : mz_isT t = true) : R_X8_suitPart d t x0 x1 m = mz_g (mz_ok ((x0 * 4) + x1) 32) (some ((mz_rd m (t + 3) (((x0 * 4) + x1) : Int32).toNatClampNeg), m)) := by
  show mz_cI (mz_T d 86 0 (mz_en (mz_xl 86) [.ref t, .int x0, .int x1]) [] m) = _
  rw [show mz_en (mz_xl 86) [.ref t, .int x0, .int x1] = [some (.ref t), some (.int x0), some (.int x1)] from by rw [show mz_xl 86 = 3 from by decide +kernel]; rfl]
  refine q_o (mz_fe (e := (0, .aload_n 0, 1, (0, 0, 0), [])) (by decide +kernel)) (pc2 := 1) rfl ?_
  refine q_getR (b := (t + 3)) (mz_fe (e := (1, .getfield 19, 68, (8, 2, 2), [])) (by decide +kernel)) rfl (tx_t ht) (by rw [(tx_l ht)]; decide) (tx_r2 ht) ?_
  refine q_o (mz_fe (e := (4, .iload_n 1, 1, (0, 0, 0), [])) (by decide +kernel)) (pc2 := 5) rfl ?_
  refine q_ic (v := 4) (mz_fe (e := (5, .iconst 4, 1, (0, 0, 0), [])) (by decide +kernel)) (by decide) ?_
  refine q_o (mz_fe (e := (6, .imul, 1, (0, 0, 0), [])) (by decide +kernel)) (pc2 := 7) rfl ?_
  refine q_o (mz_fe (e := (7, .iload_n 2, 1, (0, 0, 0), [])) (by decide +kernel)) (pc2 := 8) rfl ?_
  refine q_o (mz_fe (e := (8, .iadd, 1, (0, 0, 0), [])) (by decide +kernel)) (pc2 := 9) rfl ?_
  refine q_ialdg rfl (mz_fe (e := (9, .iaload, 1, (0, 0, 0), [])) (by decide +kernel)) rfl (by omega) (tx_st ht) (tx_sl ht) (fun g1 => ?_)
  exact q_retI (mz_fe (e := (10, .ireturn, 1, (0, 0, 0), [])) (by decide +kernel)) (by decide +kernel)
set_option maxRecDepth 10000 in
theorem R_X8_isDue_eq (d : Nat) (t : Nat) (x0 : Int32) (x1 : Int32) (m : MzM) (ht : mz_isT t = true) : R_X8_isDue d t x0 x1 m = (R_X8_suitPart d t x0 3 m).bind (fun u3 => (R_X8_suitPart d t x0 2 u3.2).bind (fun u6 => if (x1 - u3.1) < 0 then (some (0, u6.2)) else (if u6.1 ≤ 0 then (some (0, u6.2)) else (mz_g (decide (u6.1 ≠ 0)) (if ¬ ((x1 - u3.1) - (x1 - u3.1) / u6.1 * u6.1) = 0 then (some (0, u6.2)) else (some (1, u6.2))))))) := by
  show mz_cI (mz_T d 87 0 (mz_en (mz_xl 87) [.ref t, .int x0, .int x1]) [] m) = _
  rw [show mz_en (mz_xl 87) [.ref t, .int x0, .int x1] = [some (.ref t), some (.int x0), some (.int x1), none, none] from by rw [show mz_xl 87 = 5 from by decide +kernel]; rfl]
  refine q_o (mz_fe (e := (0, .iload_n 2, 1, (0, 0, 0), [])) (by decide +kernel)) (pc2 := 1) rfl ?_
  refine q_o (mz_fe (e := (1, .aload_n 0, 1, (0, 0, 0), [])) (by decide +kernel)) (pc2 := 2) rfl ?_
  refine q_o (mz_fe (e := (2, .iload_n 1, 1, (0, 0, 0), [])) (by decide +kernel)) (pc2 := 3) rfl ?_
  refine q_ic (v := 3) (mz_fe (e := (3, .iconst 3, 1, (0, 0, 0), [])) (by decide +kernel)) (by decide) ?_
  refine q_callI (N := 86) (vs := [.ref t, .int x0, .int 3]) (rest := [.int x1]) (L' := [some (.ref t), some (.int x0), some (.int x1), none, none]) (f := fun v2 m1 => (R_X8_suitPart d t x0 2 m1).bind (fun u6 => if (x1 - v2) < 0 then (some (0, u6.2)) else (if u6.1 ≤ 0 then (some (0, u6.2)) else (mz_g (decide (u6.1 ≠ 0)) (if ¬ ((x1 - v2) - (x1 - v2) / u6.1 * u6.1) = 0 then (some (0, u6.2)) else (some (1, u6.2))))))) rfl (mz_fe (e := (4, .invokevirtual 59, 77, (86, 3, 14), [])) (by decide +kernel)) rfl (mz_inv_virt (N := 86) (k := 3) (t := 14) (st := [.int 3, .int x0, .ref t, .int x1]) (rest := [.int x1]) (b := t) (vs := [.int x0, .int 3]) (h := (mz_S0, m)) rfl rfl (Nat.le_of_ble_eq_true rfl) (Nat.le_of_ble_eq_true rfl) (tx_t ht) (by decide)) (mz_dc_lt (n := 3) rfl (by decide +kernel) (by decide +kernel)) (by decide +kernel) (Or.inl (by decide +kernel)) (fun v2 m1 => ?_)
  refine q_o (mz_fe (e := (7, .isub, 1, (0, 0, 0), [])) (by decide +kernel)) (pc2 := 8) rfl ?_
  refine q_s (mz_fe (e := (8, .istore_n 3, 1, (0, 0, 0), [])) (by decide +kernel)) (pc' := 9) (L' := [some (.ref t), some (.int x0), some (.int x1), some (.int (x1 - v2)), none]) (st' := []) rfl ?_
  refine q_o (mz_fe (e := (9, .aload_n 0, 1, (0, 0, 0), [])) (by decide +kernel)) (pc2 := 10) rfl ?_
  refine q_o (mz_fe (e := (10, .iload_n 1, 1, (0, 0, 0), [])) (by decide +kernel)) (pc2 := 11) rfl ?_
  refine q_ic (v := 2) (mz_fe (e := (11, .iconst 2, 1, (0, 0, 0), [])) (by decide +kernel)) (by decide) ?_
  refine q_callI (N := 86) (vs := [.ref t, .int x0, .int 2]) (rest := []) (L' := [some (.ref t), some (.int x0), some (.int x1), some (.int (x1 - v2)), none]) (f := fun v5 m4 => if (x1 - v2) < 0 then (some (0, m4)) else (if v5 ≤ 0 then (some (0, m4)) else (mz_g (decide (v5 ≠ 0)) (if ¬ ((x1 - v2) - (x1 - v2) / v5 * v5) = 0 then (some (0, m4)) else (some (1, m4)))))) rfl (mz_fe (e := (12, .invokevirtual 59, 77, (86, 3, 14), [])) (by decide +kernel)) rfl (mz_inv_virt (N := 86) (k := 3) (t := 14) (st := [.int 2, .int x0, .ref t]) (rest := []) (b := t) (vs := [.int x0, .int 2]) (h := (mz_S0, m1)) rfl rfl (Nat.le_of_ble_eq_true rfl) (Nat.le_of_ble_eq_true rfl) (tx_t ht) (by decide)) (mz_dc_lt (n := 3) rfl (by decide +kernel) (by decide +kernel)) (by decide +kernel) (Or.inl (by decide +kernel)) (fun v5 m4 => ?_)
  refine q_s (mz_fe (e := (15, .istore 4, 2, (0, 0, 0), [])) (by decide +kernel)) (pc' := 17) (L' := [some (.ref t), some (.int x0), some (.int x1), some (.int (x1 - v2)), some (.int v5)]) (st' := []) rfl ?_
  refine q_o (mz_fe (e := (17, .iload_n 3, 1, (0, 0, 0), [])) (by decide +kernel)) (pc2 := 18) rfl ?_
  refine q_if (c := .lt) (off := 19) (t := 37) (x := (x1 - v2)) (y := 0) (st := []) (mz_fe (e := (18, .ifCond .lt 19, 3, (0, 0, 0), [])) (by decide +kernel)) (fun _ => rfl) rfl rfl rfl (fun c7 => ?_) (fun c7 => ?_)
  · refine q_ic (v := 0) (mz_fe (e := (37, .iconst 0, 1, (0, 0, 0), [])) (by decide +kernel)) (by decide) ?_
    exact q_retZ (mz_fe (e := (38, .ireturn, 1, (0, 0, 0), [])) (by decide +kernel)) (by decide +kernel) (by decide)
  · refine q_o (mz_fe (e := (21, .iload 4, 2, (0, 0, 0), [])) (by decide +kernel)) (pc2 := 23) rfl ?_
    refine q_if (c := .le) (off := 14) (t := 37) (x := v5) (y := 0) (st := []) (mz_fe (e := (23, .ifCond .le 14, 3, (0, 0, 0), [])) (by decide +kernel)) (fun _ => rfl) rfl rfl rfl (fun c8 => ?_) (fun c8 => ?_)
    · refine q_ic (v := 0) (mz_fe (e := (37, .iconst 0, 1, (0, 0, 0), [])) (by decide +kernel)) (by decide) ?_
      exact q_retZ (mz_fe (e := (38, .ireturn, 1, (0, 0, 0), [])) (by decide +kernel)) (by decide +kernel) (by decide)
    · refine q_o (mz_fe (e := (26, .iload_n 3, 1, (0, 0, 0), [])) (by decide +kernel)) (pc2 := 27) rfl ?_
      refine q_o (mz_fe (e := (27, .iload 4, 2, (0, 0, 0), [])) (by decide +kernel)) (pc2 := 29) rfl ?_
      refine q_div (z := fun x y => x - x / y * y) rfl (mz_fe (e := (29, .irem, 1, (0, 0, 0), [])) (by decide +kernel)) (fun _ => rfl) rfl (fun g9 => ?_)
      refine q_if (c := .ne) (off := 7) (t := 37) (x := ((x1 - v2) - (x1 - v2) / v5 * v5)) (y := 0) (st := []) (mz_fe (e := (30, .ifCond .ne 7, 3, (0, 0, 0), [])) (by decide +kernel)) (fun _ => rfl) rfl rfl rfl (fun c10 => ?_) (fun c10 => ?_)
      · refine q_ic (v := 0) (mz_fe (e := (37, .iconst 0, 1, (0, 0, 0), [])) (by decide +kernel)) (by decide) ?_
        exact q_retZ (mz_fe (e := (38, .ireturn, 1, (0, 0, 0), [])) (by decide +kernel)) (by decide +kernel) (by decide)
      · refine q_ic (v := 1) (mz_fe (e := (33, .iconst 1, 1, (0, 0, 0), [])) (by decide +kernel)) (by decide) ?_
        refine q_o (mz_fe (e := (34, .goto 4, 3, (0, 0, 0), [])) (by decide +kernel)) (pc2 := 38) rfl ?_
        exact q_retZ (mz_fe (e := (38, .ireturn, 1, (0, 0, 0), [])) (by decide +kernel)) (by decide +kernel) (by decide)
set_option maxRecDepth 10000 in
theorem R_X8_isThumb_eq (d : Nat) (t : Nat) (x0 : Int32) (x1 : Int32) (m : MzM) (ht : mz_isT t = true) : R_X8_isThumb d t x0 x1 m = (R_X8_lot d 100 x0 ((4 : Int32) * x1) m).bind (fun u3 => if (mz_rd u3.2 t 7) ≤ u3.1 then (some (0, u3.2)) else (some (1, u3.2))) := by
  show mz_cI (mz_T d 88 0 (mz_en (mz_xl 88) [.ref t, .int x0, .int x1]) [] m) = _
  rw [show mz_en (mz_xl 88) [.ref t, .int x0, .int x1] = [some (.ref t), some (.int x0), some (.int x1)] from by rw [show mz_xl 88 = 3 from by decide +kernel]; rfl]
  refine q_bi (v := 100) (mz_fe (e := (0, .bipush 100, 2, (0, 0, 0), [])) (by decide +kernel)) (by decide) ?_
  refine q_o (mz_fe (e := (2, .iload_n 1, 1, (0, 0, 0), [])) (by decide +kernel)) (pc2 := 3) rfl ?_
  refine q_ic (v := 4) (mz_fe (e := (3, .iconst 4, 1, (0, 0, 0), [])) (by decide +kernel)) (by decide) ?_
  refine q_o (mz_fe (e := (4, .iload_n 2, 1, (0, 0, 0), [])) (by decide +kernel)) (pc2 := 5) rfl ?_
  refine q_o (mz_fe (e := (5, .imul, 1, (0, 0, 0), [])) (by decide +kernel)) (pc2 := 6) rfl ?_
  refine q_callI (N := 90) (vs := [.int 100, .int x0, .int ((4 : Int32) * x1)]) (rest := []) (L' := [some (.ref t), some (.int x0), some (.int x1)]) (f := fun v2 m1 => if (mz_rd m1 t 7) ≤ v2 then (some (0, m1)) else (some (1, m1))) rfl (mz_fe (e := (6, .invokestatic 63, 78, (90, 3, 1000), [])) (by decide +kernel)) rfl (mz_inv_stat (N := 90) (k := 3) (st := [.int ((4 : Int32) * x1), .int x0, .int 100]) (rest := []) (vs := [.int 100, .int x0, .int ((4 : Int32) * x1)]) (h := (mz_S0, m)) rfl rfl (Nat.le_of_ble_eq_true rfl) (Nat.le_of_ble_eq_true rfl)) (mz_dc_lt (n := 3) rfl (by decide +kernel) (by decide +kernel)) (by decide +kernel) (Or.inl (by decide +kernel)) (fun v2 m1 => ?_)
  refine q_o (mz_fe (e := (9, .aload_n 0, 1, (0, 0, 0), [])) (by decide +kernel)) (pc2 := 10) rfl ?_
  refine q_getI (mz_fe (e := (10, .getfield 42, 73, (8, 7, 0), [])) (by decide +kernel)) rfl (by decide) (tx_t ht) (by rw [(tx_l ht)]; decide) ?_
  refine q_if (c := .ge) (off := 7) (t := 20) (x := v2) (y := (mz_rd m1 t 7)) (st := []) (mz_fe (e := (13, .if_icmp .ge 7, 3, (0, 0, 0), [])) (by decide +kernel)) (fun _ => rfl) rfl rfl rfl (fun c4 => ?_) (fun c4 => ?_)
  · refine q_ic (v := 0) (mz_fe (e := (20, .iconst 0, 1, (0, 0, 0), [])) (by decide +kernel)) (by decide) ?_
    exact q_retZ (mz_fe (e := (21, .ireturn, 1, (0, 0, 0), [])) (by decide +kernel)) (by decide +kernel) (by decide)
  · refine q_ic (v := 1) (mz_fe (e := (16, .iconst 1, 1, (0, 0, 0), [])) (by decide +kernel)) (by decide) ?_
    refine q_o (mz_fe (e := (17, .goto 4, 3, (0, 0, 0), [])) (by decide +kernel)) (pc2 := 21) rfl ?_
    exact q_retZ (mz_fe (e := (21, .ireturn, 1, (0, 0, 0), [])) (by decide +kernel)) (by decide +kernel) (by decide)
set_option maxRecDepth 10000 in
theorem R_X8_thumbStuff_eq (d : Nat) (x0 : Int32) (x1 : Int32) (m : MzM)  : R_X8_thumbStuff d x0 x1 m = (R_X8_lot d 4 x0 (((4 : Int32) * x1) + 1) m).bind (fun u3 => some (u3.1, u3.2)) := by
  show mz_cI (mz_T d 89 0 (mz_en (mz_xl 89) [.int x0, .int x1]) [] m) = _
  rw [show mz_en (mz_xl 89) [.int x0, .int x1] = [some (.int x0), some (.int x1)] from by rw [show mz_xl 89 = 2 from by decide +kernel]; rfl]
  refine q_ic (v := 4) (mz_fe (e := (0, .iconst 4, 1, (0, 0, 0), [])) (by decide +kernel)) (by decide) ?_
  refine q_o (mz_fe (e := (1, .iload_n 0, 1, (0, 0, 0), [])) (by decide +kernel)) (pc2 := 2) rfl ?_
  refine q_ic (v := 4) (mz_fe (e := (2, .iconst 4, 1, (0, 0, 0), [])) (by decide +kernel)) (by decide) ?_
  refine q_o (mz_fe (e := (3, .iload_n 1, 1, (0, 0, 0), [])) (by decide +kernel)) (pc2 := 4) rfl ?_
  refine q_o (mz_fe (e := (4, .imul, 1, (0, 0, 0), [])) (by decide +kernel)) (pc2 := 5) rfl ?_
  refine q_ic (v := 1) (mz_fe (e := (5, .iconst 1, 1, (0, 0, 0), [])) (by decide +kernel)) (by decide) ?_
  refine q_o (mz_fe (e := (6, .iadd, 1, (0, 0, 0), [])) (by decide +kernel)) (pc2 := 7) rfl ?_
  refine q_callI (N := 90) (vs := [.int 4, .int x0, .int (((4 : Int32) * x1) + 1)]) (rest := []) (L' := [some (.int x0), some (.int x1)]) (f := fun v2 m1 => some (v2, m1)) rfl (mz_fe (e := (7, .invokestatic 63, 78, (90, 3, 1000), [])) (by decide +kernel)) rfl (mz_inv_stat (N := 90) (k := 3) (st := [.int (((4 : Int32) * x1) + 1), .int x0, .int 4]) (rest := []) (vs := [.int 4, .int x0, .int (((4 : Int32) * x1) + 1)]) (h := (mz_S0, m)) rfl rfl (Nat.le_of_ble_eq_true rfl) (Nat.le_of_ble_eq_true rfl)) (mz_dc_lt (n := 3) rfl (by decide +kernel) (by decide +kernel)) (by decide +kernel) (Or.inl (by decide +kernel)) (fun v2 m1 => ?_)
  exact q_retI (mz_fe (e := (10, .ireturn, 1, (0, 0, 0), [])) (by decide +kernel)) (by decide +kernel)
set_option maxRecDepth 10000 in
theorem R_X8_lot_eq (d : Nat) (x0 : Int32) (x1 : Int32) (x2 : Int32) (m : MzM)  : R_X8_lot d x0 x1 x2 m = (R_X8_stirred d x1 161 m).bind (fun u3 => (R_X8_stirred d u3.1 x2 u3.2).bind (fun u6 => if x0 ≤ 0 then (some (0, u6.2)) else (mz_g (decide (x0 ≠ 0)) (some (((((u6.1 : Int32).toUInt32 >>> ((1 : Int32).toUInt32 &&& Int32.toUInt32 31)).toInt32) - (((u6.1 : Int32).toUInt32 >>> ((1 : Int32).toUInt32 &&& Int32.toUInt32 31)).toInt32) / x0 * x0), u6.2))))) := by
  show mz_cI (mz_T d 90 0 (mz_en (mz_xl 90) [.int x0, .int x1, .int x2]) [] m) = _
  rw [show mz_en (mz_xl 90) [.int x0, .int x1, .int x2] = [some (.int x0), some (.int x1), some (.int x2), none] from by rw [show mz_xl 90 = 4 from by decide +kernel]; rfl]
  refine q_o (mz_fe (e := (0, .iload_n 1, 1, (0, 0, 0), [])) (by decide +kernel)) (pc2 := 1) rfl ?_
  refine q_si (v := 161) (mz_fe (e := (1, .sipush 161, 3, (0, 0, 0), [])) (by decide +kernel)) (by decide) ?_
  refine q_callI (N := 91) (vs := [.int x1, .int 161]) (rest := []) (L' := [some (.int x0), some (.int x1), some (.int x2), none]) (f := fun v2 m1 => (R_X8_stirred d v2 x2 m1).bind (fun u6 => if x0 ≤ 0 then (some (0, u6.2)) else (mz_g (decide (x0 ≠ 0)) (some (((((u6.1 : Int32).toUInt32 >>> ((1 : Int32).toUInt32 &&& Int32.toUInt32 31)).toInt32) - (((u6.1 : Int32).toUInt32 >>> ((1 : Int32).toUInt32 &&& Int32.toUInt32 31)).toInt32) / x0 * x0), u6.2))))) rfl (mz_fe (e := (4, .invokestatic 67, 79, (91, 2, 1000), [])) (by decide +kernel)) rfl (mz_inv_stat (N := 91) (k := 2) (st := [.int 161, .int x1]) (rest := []) (vs := [.int x1, .int 161]) (h := (mz_S0, m)) rfl rfl (Nat.le_of_ble_eq_true rfl) (Nat.le_of_ble_eq_true rfl)) (mz_dc_lt (n := 2) rfl (by decide +kernel) (by decide +kernel)) (by decide +kernel) (Or.inl (by decide +kernel)) (fun v2 m1 => ?_)
  refine q_o (mz_fe (e := (7, .iload_n 2, 1, (0, 0, 0), [])) (by decide +kernel)) (pc2 := 8) rfl ?_
  refine q_callI (N := 91) (vs := [.int v2, .int x2]) (rest := []) (L' := [some (.int x0), some (.int x1), some (.int x2), none]) (f := fun v5 m4 => if x0 ≤ 0 then (some (0, m4)) else (mz_g (decide (x0 ≠ 0)) (some (((((v5 : Int32).toUInt32 >>> ((1 : Int32).toUInt32 &&& Int32.toUInt32 31)).toInt32) - (((v5 : Int32).toUInt32 >>> ((1 : Int32).toUInt32 &&& Int32.toUInt32 31)).toInt32) / x0 * x0), m4)))) rfl (mz_fe (e := (8, .invokestatic 67, 79, (91, 2, 1000), [])) (by decide +kernel)) rfl (mz_inv_stat (N := 91) (k := 2) (st := [.int x2, .int v2]) (rest := []) (vs := [.int v2, .int x2]) (h := (mz_S0, m1)) rfl rfl (Nat.le_of_ble_eq_true rfl) (Nat.le_of_ble_eq_true rfl)) (mz_dc_lt (n := 2) rfl (by decide +kernel) (by decide +kernel)) (by decide +kernel) (Or.inl (by decide +kernel)) (fun v5 m4 => ?_)
  refine q_s (mz_fe (e := (11, .istore_n 3, 1, (0, 0, 0), [])) (by decide +kernel)) (pc' := 12) (L' := [some (.int x0), some (.int x1), some (.int x2), some (.int v5)]) (st' := []) rfl ?_
  refine q_o (mz_fe (e := (12, .iload_n 0, 1, (0, 0, 0), [])) (by decide +kernel)) (pc2 := 13) rfl ?_
  refine q_if (c := .le) (off := 11) (t := 24) (x := x0) (y := 0) (st := []) (mz_fe (e := (13, .ifCond .le 11, 3, (0, 0, 0), [])) (by decide +kernel)) (fun _ => rfl) rfl rfl rfl (fun c7 => ?_) (fun c7 => ?_)
  · refine q_ic (v := 0) (mz_fe (e := (24, .iconst 0, 1, (0, 0, 0), [])) (by decide +kernel)) (by decide) ?_
    exact q_retI (mz_fe (e := (25, .ireturn, 1, (0, 0, 0), [])) (by decide +kernel)) (by decide +kernel)
  · refine q_o (mz_fe (e := (16, .iload_n 3, 1, (0, 0, 0), [])) (by decide +kernel)) (pc2 := 17) rfl ?_
    refine q_ic (v := 1) (mz_fe (e := (17, .iconst 1, 1, (0, 0, 0), [])) (by decide +kernel)) (by decide) ?_
    refine q_o (mz_fe (e := (18, .iushr, 1, (0, 0, 0), [])) (by decide +kernel)) (pc2 := 19) rfl ?_
    refine q_o (mz_fe (e := (19, .iload_n 0, 1, (0, 0, 0), [])) (by decide +kernel)) (pc2 := 20) rfl ?_
    refine q_div (z := fun x y => x - x / y * y) rfl (mz_fe (e := (20, .irem, 1, (0, 0, 0), [])) (by decide +kernel)) (fun _ => rfl) rfl (fun g8 => ?_)
    refine q_o (mz_fe (e := (21, .goto 4, 3, (0, 0, 0), [])) (by decide +kernel)) (pc2 := 25) rfl ?_
    exact q_retI (mz_fe (e := (25, .ireturn, 1, (0, 0, 0), [])) (by decide +kernel)) (by decide +kernel)
set_option maxRecDepth 10000 in
theorem R_X8_stirred_eq (d : Nat) (x0 : Int32) (x1 : Int32) (m : MzM)  : R_X8_stirred d x0 x1 m = some (((((x0 ^^^ x1) * 1103515245) + 12345) ^^^ ((((((x0 ^^^ x1) * 1103515245) + 12345) : Int32).toUInt32 >>> ((15 : Int32).toUInt32 &&& Int32.toUInt32 31)).toInt32)), m) := by
  show mz_cI (mz_T d 91 0 (mz_en (mz_xl 91) [.int x0, .int x1]) [] m) = _
  rw [show mz_en (mz_xl 91) [.int x0, .int x1] = [some (.int x0), some (.int x1), none] from by rw [show mz_xl 91 = 3 from by decide +kernel]; rfl]
  refine q_o (mz_fe (e := (0, .iload_n 0, 1, (0, 0, 0), [])) (by decide +kernel)) (pc2 := 1) rfl ?_
  refine q_o (mz_fe (e := (1, .iload_n 1, 1, (0, 0, 0), [])) (by decide +kernel)) (pc2 := 2) rfl ?_
  refine q_o (mz_fe (e := (2, .ixor, 1, (0, 0, 0), [])) (by decide +kernel)) (pc2 := 3) rfl ?_
  refine q_ld (v := 1103515245) (mz_fe (e := (3, .ldc 70, 0, (1103515245, 0, 0), [])) (by decide +kernel)) (by decide) ?_
  refine q_o (mz_fe (e := (5, .imul, 1, (0, 0, 0), [])) (by decide +kernel)) (pc2 := 6) rfl ?_
  refine q_si (v := 12345) (mz_fe (e := (6, .sipush 12345, 3, (0, 0, 0), [])) (by decide +kernel)) (by decide) ?_
  refine q_o (mz_fe (e := (9, .iadd, 1, (0, 0, 0), [])) (by decide +kernel)) (pc2 := 10) rfl ?_
  refine q_s (mz_fe (e := (10, .istore_n 2, 1, (0, 0, 0), [])) (by decide +kernel)) (pc' := 11) (L' := [some (.int x0), some (.int x1), some (.int (((x0 ^^^ x1) * 1103515245) + 12345))]) (st' := []) rfl ?_
  refine q_o (mz_fe (e := (11, .iload_n 2, 1, (0, 0, 0), [])) (by decide +kernel)) (pc2 := 12) rfl ?_
  refine q_o (mz_fe (e := (12, .iload_n 2, 1, (0, 0, 0), [])) (by decide +kernel)) (pc2 := 13) rfl ?_
  refine q_bi (v := 15) (mz_fe (e := (13, .bipush 15, 2, (0, 0, 0), [])) (by decide +kernel)) (by decide) ?_
  refine q_o (mz_fe (e := (15, .iushr, 1, (0, 0, 0), [])) (by decide +kernel)) (pc2 := 16) rfl ?_
  refine q_o (mz_fe (e := (16, .ixor, 1, (0, 0, 0), [])) (by decide +kernel)) (pc2 := 17) rfl ?_
  exact q_retI (mz_fe (e := (17, .ireturn, 1, (0, 0, 0), [])) (by decide +kernel)) (by decide +kernel)
set_option maxRecDepth 10000 in
theorem R_J6_bitCount_0f7a4_eq (d : Nat) (x0 : Int32) (m : MzM)  : R_J6_bitCount_0f7a4 d x0 m = some (((((((((x0 - ((((x0 : Int32).toUInt32 >>> ((1 : Int32).toUInt32 &&& Int32.toUInt32 31)).toInt32) &&& 1431655765)) &&& 858993459) + (((((x0 - ((((x0 : Int32).toUInt32 >>> ((1 : Int32).toUInt32 &&& Int32.toUInt32 31)).toInt32) &&& 1431655765)) : Int32).toUInt32 >>> ((2 : Int32).toUInt32 &&& Int32.toUInt32 31)).toInt32) &&& 858993459)) + ((((((x0 - ((((x0 : Int32).toUInt32 >>> ((1 : Int32).toUInt32 &&& Int32.toUInt32 31)).toInt32) &&& 1431655765)) &&& 858993459) + (((((x0 - ((((x0 : Int32).toUInt32 >>> ((1 : Int32).toUInt32 &&& Int32.toUInt32 31)).toInt32) &&& 1431655765)) : Int32).toUInt32 >>> ((2 : Int32).toUInt32 &&& Int32.toUInt32 31)).toInt32) &&& 858993459)) : Int32).toUInt32 >>> ((4 : Int32).toUInt32 &&& Int32.toUInt32 31)).toInt32)) &&& 252645135) + ((((((((x0 - ((((x0 : Int32).toUInt32 >>> ((1 : Int32).toUInt32 &&& Int32.toUInt32 31)).toInt32) &&& 1431655765)) &&& 858993459) + (((((x0 - ((((x0 : Int32).toUInt32 >>> ((1 : Int32).toUInt32 &&& Int32.toUInt32 31)).toInt32) &&& 1431655765)) : Int32).toUInt32 >>> ((2 : Int32).toUInt32 &&& Int32.toUInt32 31)).toInt32) &&& 858993459)) + ((((((x0 - ((((x0 : Int32).toUInt32 >>> ((1 : Int32).toUInt32 &&& Int32.toUInt32 31)).toInt32) &&& 1431655765)) &&& 858993459) + (((((x0 - ((((x0 : Int32).toUInt32 >>> ((1 : Int32).toUInt32 &&& Int32.toUInt32 31)).toInt32) &&& 1431655765)) : Int32).toUInt32 >>> ((2 : Int32).toUInt32 &&& Int32.toUInt32 31)).toInt32) &&& 858993459)) : Int32).toUInt32 >>> ((4 : Int32).toUInt32 &&& Int32.toUInt32 31)).toInt32)) &&& 252645135) : Int32).toUInt32 >>> ((8 : Int32).toUInt32 &&& Int32.toUInt32 31)).toInt32)) + (((((((((x0 - ((((x0 : Int32).toUInt32 >>> ((1 : Int32).toUInt32 &&& Int32.toUInt32 31)).toInt32) &&& 1431655765)) &&& 858993459) + (((((x0 - ((((x0 : Int32).toUInt32 >>> ((1 : Int32).toUInt32 &&& Int32.toUInt32 31)).toInt32) &&& 1431655765)) : Int32).toUInt32 >>> ((2 : Int32).toUInt32 &&& Int32.toUInt32 31)).toInt32) &&& 858993459)) + ((((((x0 - ((((x0 : Int32).toUInt32 >>> ((1 : Int32).toUInt32 &&& Int32.toUInt32 31)).toInt32) &&& 1431655765)) &&& 858993459) + (((((x0 - ((((x0 : Int32).toUInt32 >>> ((1 : Int32).toUInt32 &&& Int32.toUInt32 31)).toInt32) &&& 1431655765)) : Int32).toUInt32 >>> ((2 : Int32).toUInt32 &&& Int32.toUInt32 31)).toInt32) &&& 858993459)) : Int32).toUInt32 >>> ((4 : Int32).toUInt32 &&& Int32.toUInt32 31)).toInt32)) &&& 252645135) + ((((((((x0 - ((((x0 : Int32).toUInt32 >>> ((1 : Int32).toUInt32 &&& Int32.toUInt32 31)).toInt32) &&& 1431655765)) &&& 858993459) + (((((x0 - ((((x0 : Int32).toUInt32 >>> ((1 : Int32).toUInt32 &&& Int32.toUInt32 31)).toInt32) &&& 1431655765)) : Int32).toUInt32 >>> ((2 : Int32).toUInt32 &&& Int32.toUInt32 31)).toInt32) &&& 858993459)) + ((((((x0 - ((((x0 : Int32).toUInt32 >>> ((1 : Int32).toUInt32 &&& Int32.toUInt32 31)).toInt32) &&& 1431655765)) &&& 858993459) + (((((x0 - ((((x0 : Int32).toUInt32 >>> ((1 : Int32).toUInt32 &&& Int32.toUInt32 31)).toInt32) &&& 1431655765)) : Int32).toUInt32 >>> ((2 : Int32).toUInt32 &&& Int32.toUInt32 31)).toInt32) &&& 858993459)) : Int32).toUInt32 >>> ((4 : Int32).toUInt32 &&& Int32.toUInt32 31)).toInt32)) &&& 252645135) : Int32).toUInt32 >>> ((8 : Int32).toUInt32 &&& Int32.toUInt32 31)).toInt32)) : Int32).toUInt32 >>> ((16 : Int32).toUInt32 &&& Int32.toUInt32 31)).toInt32)) &&& 63), m) := by
  show mz_cI (mz_T d 290 0 (mz_en (mz_xl 290) [.int x0]) [] m) = _
  rw [show mz_en (mz_xl 290) [.int x0] = [some (.int x0)] from by rw [show mz_xl 290 = 1 from by decide +kernel]; rfl]
  refine q_o (mz_fe (e := (0, .iload_n 0, 1, (0, 0, 0), [])) (by decide +kernel)) (pc2 := 1) rfl ?_
  refine q_o (mz_fe (e := (1, .iload_n 0, 1, (0, 0, 0), [])) (by decide +kernel)) (pc2 := 2) rfl ?_
  refine q_ic (v := 1) (mz_fe (e := (2, .iconst 1, 1, (0, 0, 0), [])) (by decide +kernel)) (by decide) ?_
  refine q_o (mz_fe (e := (3, .iushr, 1, (0, 0, 0), [])) (by decide +kernel)) (pc2 := 4) rfl ?_
  refine q_ldw (v := 1431655765) (mz_fe (e := (4, .ldc_w 265, 6, (1431655765, 0, 0), [])) (by decide +kernel)) (by decide) ?_
  refine q_o (mz_fe (e := (7, .iand, 1, (0, 0, 0), [])) (by decide +kernel)) (pc2 := 8) rfl ?_
  refine q_o (mz_fe (e := (8, .isub, 1, (0, 0, 0), [])) (by decide +kernel)) (pc2 := 9) rfl ?_
  refine q_s (mz_fe (e := (9, .istore_n 0, 1, (0, 0, 0), [])) (by decide +kernel)) (pc' := 10) (L' := [some (.int (x0 - ((((x0 : Int32).toUInt32 >>> ((1 : Int32).toUInt32 &&& Int32.toUInt32 31)).toInt32) &&& 1431655765)))]) (st' := []) rfl ?_
  refine q_o (mz_fe (e := (10, .iload_n 0, 1, (0, 0, 0), [])) (by decide +kernel)) (pc2 := 11) rfl ?_
  refine q_ldw (v := 858993459) (mz_fe (e := (11, .ldc_w 266, 7, (858993459, 0, 0), [])) (by decide +kernel)) (by decide) ?_
  refine q_o (mz_fe (e := (14, .iand, 1, (0, 0, 0), [])) (by decide +kernel)) (pc2 := 15) rfl ?_
  refine q_o (mz_fe (e := (15, .iload_n 0, 1, (0, 0, 0), [])) (by decide +kernel)) (pc2 := 16) rfl ?_
  refine q_ic (v := 2) (mz_fe (e := (16, .iconst 2, 1, (0, 0, 0), [])) (by decide +kernel)) (by decide) ?_
  refine q_o (mz_fe (e := (17, .iushr, 1, (0, 0, 0), [])) (by decide +kernel)) (pc2 := 18) rfl ?_
  refine q_ldw (v := 858993459) (mz_fe (e := (18, .ldc_w 266, 7, (858993459, 0, 0), [])) (by decide +kernel)) (by decide) ?_
  refine q_o (mz_fe (e := (21, .iand, 1, (0, 0, 0), [])) (by decide +kernel)) (pc2 := 22) rfl ?_
  refine q_o (mz_fe (e := (22, .iadd, 1, (0, 0, 0), [])) (by decide +kernel)) (pc2 := 23) rfl ?_
  refine q_s (mz_fe (e := (23, .istore_n 0, 1, (0, 0, 0), [])) (by decide +kernel)) (pc' := 24) (L' := [some (.int (((x0 - ((((x0 : Int32).toUInt32 >>> ((1 : Int32).toUInt32 &&& Int32.toUInt32 31)).toInt32) &&& 1431655765)) &&& 858993459) + (((((x0 - ((((x0 : Int32).toUInt32 >>> ((1 : Int32).toUInt32 &&& Int32.toUInt32 31)).toInt32) &&& 1431655765)) : Int32).toUInt32 >>> ((2 : Int32).toUInt32 &&& Int32.toUInt32 31)).toInt32) &&& 858993459)))]) (st' := []) rfl ?_
  refine q_o (mz_fe (e := (24, .iload_n 0, 1, (0, 0, 0), [])) (by decide +kernel)) (pc2 := 25) rfl ?_
  refine q_o (mz_fe (e := (25, .iload_n 0, 1, (0, 0, 0), [])) (by decide +kernel)) (pc2 := 26) rfl ?_
  refine q_ic (v := 4) (mz_fe (e := (26, .iconst 4, 1, (0, 0, 0), [])) (by decide +kernel)) (by decide) ?_
  refine q_o (mz_fe (e := (27, .iushr, 1, (0, 0, 0), [])) (by decide +kernel)) (pc2 := 28) rfl ?_
  refine q_o (mz_fe (e := (28, .iadd, 1, (0, 0, 0), [])) (by decide +kernel)) (pc2 := 29) rfl ?_
  refine q_ldw (v := 252645135) (mz_fe (e := (29, .ldc_w 267, 8, (252645135, 0, 0), [])) (by decide +kernel)) (by decide) ?_
  refine q_o (mz_fe (e := (32, .iand, 1, (0, 0, 0), [])) (by decide +kernel)) (pc2 := 33) rfl ?_
  refine q_s (mz_fe (e := (33, .istore_n 0, 1, (0, 0, 0), [])) (by decide +kernel)) (pc' := 34) (L' := [some (.int (((((x0 - ((((x0 : Int32).toUInt32 >>> ((1 : Int32).toUInt32 &&& Int32.toUInt32 31)).toInt32) &&& 1431655765)) &&& 858993459) + (((((x0 - ((((x0 : Int32).toUInt32 >>> ((1 : Int32).toUInt32 &&& Int32.toUInt32 31)).toInt32) &&& 1431655765)) : Int32).toUInt32 >>> ((2 : Int32).toUInt32 &&& Int32.toUInt32 31)).toInt32) &&& 858993459)) + ((((((x0 - ((((x0 : Int32).toUInt32 >>> ((1 : Int32).toUInt32 &&& Int32.toUInt32 31)).toInt32) &&& 1431655765)) &&& 858993459) + (((((x0 - ((((x0 : Int32).toUInt32 >>> ((1 : Int32).toUInt32 &&& Int32.toUInt32 31)).toInt32) &&& 1431655765)) : Int32).toUInt32 >>> ((2 : Int32).toUInt32 &&& Int32.toUInt32 31)).toInt32) &&& 858993459)) : Int32).toUInt32 >>> ((4 : Int32).toUInt32 &&& Int32.toUInt32 31)).toInt32)) &&& 252645135))]) (st' := []) rfl ?_
  refine q_o (mz_fe (e := (34, .iload_n 0, 1, (0, 0, 0), [])) (by decide +kernel)) (pc2 := 35) rfl ?_
  refine q_o (mz_fe (e := (35, .iload_n 0, 1, (0, 0, 0), [])) (by decide +kernel)) (pc2 := 36) rfl ?_
  refine q_bi (v := 8) (mz_fe (e := (36, .bipush 8, 2, (0, 0, 0), [])) (by decide +kernel)) (by decide) ?_
  refine q_o (mz_fe (e := (38, .iushr, 1, (0, 0, 0), [])) (by decide +kernel)) (pc2 := 39) rfl ?_
  refine q_o (mz_fe (e := (39, .iadd, 1, (0, 0, 0), [])) (by decide +kernel)) (pc2 := 40) rfl ?_
  refine q_s (mz_fe (e := (40, .istore_n 0, 1, (0, 0, 0), [])) (by decide +kernel)) (pc' := 41) (L' := [some (.int ((((((x0 - ((((x0 : Int32).toUInt32 >>> ((1 : Int32).toUInt32 &&& Int32.toUInt32 31)).toInt32) &&& 1431655765)) &&& 858993459) + (((((x0 - ((((x0 : Int32).toUInt32 >>> ((1 : Int32).toUInt32 &&& Int32.toUInt32 31)).toInt32) &&& 1431655765)) : Int32).toUInt32 >>> ((2 : Int32).toUInt32 &&& Int32.toUInt32 31)).toInt32) &&& 858993459)) + ((((((x0 - ((((x0 : Int32).toUInt32 >>> ((1 : Int32).toUInt32 &&& Int32.toUInt32 31)).toInt32) &&& 1431655765)) &&& 858993459) + (((((x0 - ((((x0 : Int32).toUInt32 >>> ((1 : Int32).toUInt32 &&& Int32.toUInt32 31)).toInt32) &&& 1431655765)) : Int32).toUInt32 >>> ((2 : Int32).toUInt32 &&& Int32.toUInt32 31)).toInt32) &&& 858993459)) : Int32).toUInt32 >>> ((4 : Int32).toUInt32 &&& Int32.toUInt32 31)).toInt32)) &&& 252645135) + ((((((((x0 - ((((x0 : Int32).toUInt32 >>> ((1 : Int32).toUInt32 &&& Int32.toUInt32 31)).toInt32) &&& 1431655765)) &&& 858993459) + (((((x0 - ((((x0 : Int32).toUInt32 >>> ((1 : Int32).toUInt32 &&& Int32.toUInt32 31)).toInt32) &&& 1431655765)) : Int32).toUInt32 >>> ((2 : Int32).toUInt32 &&& Int32.toUInt32 31)).toInt32) &&& 858993459)) + ((((((x0 - ((((x0 : Int32).toUInt32 >>> ((1 : Int32).toUInt32 &&& Int32.toUInt32 31)).toInt32) &&& 1431655765)) &&& 858993459) + (((((x0 - ((((x0 : Int32).toUInt32 >>> ((1 : Int32).toUInt32 &&& Int32.toUInt32 31)).toInt32) &&& 1431655765)) : Int32).toUInt32 >>> ((2 : Int32).toUInt32 &&& Int32.toUInt32 31)).toInt32) &&& 858993459)) : Int32).toUInt32 >>> ((4 : Int32).toUInt32 &&& Int32.toUInt32 31)).toInt32)) &&& 252645135) : Int32).toUInt32 >>> ((8 : Int32).toUInt32 &&& Int32.toUInt32 31)).toInt32)))]) (st' := []) rfl ?_
  refine q_o (mz_fe (e := (41, .iload_n 0, 1, (0, 0, 0), [])) (by decide +kernel)) (pc2 := 42) rfl ?_
  refine q_o (mz_fe (e := (42, .iload_n 0, 1, (0, 0, 0), [])) (by decide +kernel)) (pc2 := 43) rfl ?_
  refine q_bi (v := 16) (mz_fe (e := (43, .bipush 16, 2, (0, 0, 0), [])) (by decide +kernel)) (by decide) ?_
  refine q_o (mz_fe (e := (45, .iushr, 1, (0, 0, 0), [])) (by decide +kernel)) (pc2 := 46) rfl ?_
  refine q_o (mz_fe (e := (46, .iadd, 1, (0, 0, 0), [])) (by decide +kernel)) (pc2 := 47) rfl ?_
  refine q_s (mz_fe (e := (47, .istore_n 0, 1, (0, 0, 0), [])) (by decide +kernel)) (pc' := 48) (L' := [some (.int (((((((x0 - ((((x0 : Int32).toUInt32 >>> ((1 : Int32).toUInt32 &&& Int32.toUInt32 31)).toInt32) &&& 1431655765)) &&& 858993459) + (((((x0 - ((((x0 : Int32).toUInt32 >>> ((1 : Int32).toUInt32 &&& Int32.toUInt32 31)).toInt32) &&& 1431655765)) : Int32).toUInt32 >>> ((2 : Int32).toUInt32 &&& Int32.toUInt32 31)).toInt32) &&& 858993459)) + ((((((x0 - ((((x0 : Int32).toUInt32 >>> ((1 : Int32).toUInt32 &&& Int32.toUInt32 31)).toInt32) &&& 1431655765)) &&& 858993459) + (((((x0 - ((((x0 : Int32).toUInt32 >>> ((1 : Int32).toUInt32 &&& Int32.toUInt32 31)).toInt32) &&& 1431655765)) : Int32).toUInt32 >>> ((2 : Int32).toUInt32 &&& Int32.toUInt32 31)).toInt32) &&& 858993459)) : Int32).toUInt32 >>> ((4 : Int32).toUInt32 &&& Int32.toUInt32 31)).toInt32)) &&& 252645135) + ((((((((x0 - ((((x0 : Int32).toUInt32 >>> ((1 : Int32).toUInt32 &&& Int32.toUInt32 31)).toInt32) &&& 1431655765)) &&& 858993459) + (((((x0 - ((((x0 : Int32).toUInt32 >>> ((1 : Int32).toUInt32 &&& Int32.toUInt32 31)).toInt32) &&& 1431655765)) : Int32).toUInt32 >>> ((2 : Int32).toUInt32 &&& Int32.toUInt32 31)).toInt32) &&& 858993459)) + ((((((x0 - ((((x0 : Int32).toUInt32 >>> ((1 : Int32).toUInt32 &&& Int32.toUInt32 31)).toInt32) &&& 1431655765)) &&& 858993459) + (((((x0 - ((((x0 : Int32).toUInt32 >>> ((1 : Int32).toUInt32 &&& Int32.toUInt32 31)).toInt32) &&& 1431655765)) : Int32).toUInt32 >>> ((2 : Int32).toUInt32 &&& Int32.toUInt32 31)).toInt32) &&& 858993459)) : Int32).toUInt32 >>> ((4 : Int32).toUInt32 &&& Int32.toUInt32 31)).toInt32)) &&& 252645135) : Int32).toUInt32 >>> ((8 : Int32).toUInt32 &&& Int32.toUInt32 31)).toInt32)) + (((((((((x0 - ((((x0 : Int32).toUInt32 >>> ((1 : Int32).toUInt32 &&& Int32.toUInt32 31)).toInt32) &&& 1431655765)) &&& 858993459) + (((((x0 - ((((x0 : Int32).toUInt32 >>> ((1 : Int32).toUInt32 &&& Int32.toUInt32 31)).toInt32) &&& 1431655765)) : Int32).toUInt32 >>> ((2 : Int32).toUInt32 &&& Int32.toUInt32 31)).toInt32) &&& 858993459)) + ((((((x0 - ((((x0 : Int32).toUInt32 >>> ((1 : Int32).toUInt32 &&& Int32.toUInt32 31)).toInt32) &&& 1431655765)) &&& 858993459) + (((((x0 - ((((x0 : Int32).toUInt32 >>> ((1 : Int32).toUInt32 &&& Int32.toUInt32 31)).toInt32) &&& 1431655765)) : Int32).toUInt32 >>> ((2 : Int32).toUInt32 &&& Int32.toUInt32 31)).toInt32) &&& 858993459)) : Int32).toUInt32 >>> ((4 : Int32).toUInt32 &&& Int32.toUInt32 31)).toInt32)) &&& 252645135) + ((((((((x0 - ((((x0 : Int32).toUInt32 >>> ((1 : Int32).toUInt32 &&& Int32.toUInt32 31)).toInt32) &&& 1431655765)) &&& 858993459) + (((((x0 - ((((x0 : Int32).toUInt32 >>> ((1 : Int32).toUInt32 &&& Int32.toUInt32 31)).toInt32) &&& 1431655765)) : Int32).toUInt32 >>> ((2 : Int32).toUInt32 &&& Int32.toUInt32 31)).toInt32) &&& 858993459)) + ((((((x0 - ((((x0 : Int32).toUInt32 >>> ((1 : Int32).toUInt32 &&& Int32.toUInt32 31)).toInt32) &&& 1431655765)) &&& 858993459) + (((((x0 - ((((x0 : Int32).toUInt32 >>> ((1 : Int32).toUInt32 &&& Int32.toUInt32 31)).toInt32) &&& 1431655765)) : Int32).toUInt32 >>> ((2 : Int32).toUInt32 &&& Int32.toUInt32 31)).toInt32) &&& 858993459)) : Int32).toUInt32 >>> ((4 : Int32).toUInt32 &&& Int32.toUInt32 31)).toInt32)) &&& 252645135) : Int32).toUInt32 >>> ((8 : Int32).toUInt32 &&& Int32.toUInt32 31)).toInt32)) : Int32).toUInt32 >>> ((16 : Int32).toUInt32 &&& Int32.toUInt32 31)).toInt32)))]) (st' := []) rfl ?_
  refine q_o (mz_fe (e := (48, .iload_n 0, 1, (0, 0, 0), [])) (by decide +kernel)) (pc2 := 49) rfl ?_
  refine q_bi (v := 63) (mz_fe (e := (49, .bipush 63, 2, (0, 0, 0), [])) (by decide +kernel)) (by decide) ?_
  refine q_o (mz_fe (e := (51, .iand, 1, (0, 0, 0), [])) (by decide +kernel)) (pc2 := 52) rfl ?_
  exact q_retI (mz_fe (e := (52, .ireturn, 1, (0, 0, 0), [])) (by decide +kernel)) (by decide +kernel)
