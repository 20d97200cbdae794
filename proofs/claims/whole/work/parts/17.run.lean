section MzRun
variable {g : MzG} {X : MzX} {M n0 z0 : Nat} {p : Program} {l : Launch} {e : Env} {R : Room} {s : State} {m : MethodId} {args : Array Value} {below : List Frame} {meth : Method} {c : Code} {Q : State → Prop}
variable {pc : Nat} {L : MzL} {st : List Value} {h : MzH}
theorem mz_goon {u : List Value × MzH} {H : Heap} {locs : List Loc} {cells slots mc ms : Nat} {ls : Array Slot} {st0 rest : List Value} {a : Array Value} (hu : u.1 = [] ∨ (∃ v, u.1 = [.int v]) ∨ ∃ v, u.1 = [.long v])
    (hr : va_Run p l e R s m args below meth c H locs cells slots mc ms (F0 m pc ls st0) (rest.map (mz_up g)) (mz_Q g X u a) (mz_A g)) (hS : va_S (mz_A g) s.heap H locs)
    (kk : ∀ (H1 : Heap) (locs1 : List Loc), mz_hr g X u.2 s H1 → va_S (mz_A g) s.heap H1 locs1 → W p l e R s m args below meth c H1 locs1 (cells + mc) (slots + ms) Q (F0 m (pc + 3) ls ((u.1 ++ rest).map (mz_up g)))) : W p l e R s m args below meth c H locs cells slots Q (F0 m pc ls st0) := by
  obtain ⟨rv, hh⟩ := u
  dsimp only at hu kk
  rcases hu with rfl | ⟨v, rfl⟩ | ⟨v, rfl⟩
  · exact va_callv (a := a) hr hS (fun _ _ z => z) (fun _ z => z) (fun _ t H1 locs1 ht hvm _ hB _ _ hS1 => kk H1 locs1 (by rw [ht] at hB; exact mz_hr_moved hvm.symm hB) hS1)
  · exact va_calli (a := a) hr hS (fun _ _ z => z) (fun _ z => z) (fun r _ t H1 locs1 ht hvm hp hB _ _ hS1 => by
      cases hp
      exact kk H1 locs1 (by rw [ht] at hB; exact mz_hr_moved hvm.symm hB) hS1)
  · exact va_calll (a := a) hr hS (fun _ _ z => z) (fun _ z => z) (fun r _ t H1 locs1 ht hvm hp hB _ _ hS1 => by
      cases hp
      exact kk H1 locs1 (by rw [ht] at hB; exact mz_hr_moved hvm.symm hB) hS1)
theorem mz_dc_ok {N d d' : Nat} {vs : List Value} (h : mz_dc M N d vs = some d') : (mz_lc vs).length ≤ mz_xl N ∧ mz_hg N + 32 * d' + 1 ≤ mz_hg M + 32 * d := by
  unfold mz_dc at h
  split at h
  next hl =>
    refine ⟨hl, ?_⟩
    split at h
    next hg => cases h; omega
    next =>
      split at h
      next => cases h
      next =>
        split at h
        next => cases h; omega
        next => cases h
  next => cases h
/-- a call, its contract given -/
theorem mz_t_call (F : mz_fr g M p R s m args meth c) {d d' N : Nat} {vs rest : List Value} {u : List Value × MzH} (hf1 : mz_hg M + 32 * d + 8 ≤ R.frames) (hf2 : 80 * (mz_hg M + 32 * d + 8) ≤ R.locals) {en : MzE} (he : mz_fd (mz_code M) pc = some en)
    (ha : mz_act X en.2.1 en.2.2.2.1 pc L st h = some (.inr (.inl (N, vs, rest)))) (hdc : mz_dc M N d vs = some d') (hM : N < 291 → Met l (mz_y N) (mz_ws N) (mz_rm N d' (u.2.1.1.length - h.1.1.length) (mz_sz u.2.1 - mz_sz h.1)) (va_Pc (vs.map (mz_up g)) (mz_wd2 g X h)) (mz_Q g X u) (u.2.1.1.length - h.1.1.length) (mz_sz u.2.1 - mz_sz h.1) (mz_A g))
    (hu : u.1 = [] ∨ (∃ v, u.1 = [.int v]) ∨ ∃ v, u.1 = [.long v]) (hu2 : mz_ko (mz_rt N) u.1 = true) (h1 : h.1.1.length ≤ u.2.1.1.length) (h2 : mz_sz h.1 ≤ mz_sz u.2.1) (hb1 : u.2.1.1.length ≤ R.cells + n0) (hb2 : mz_sz u.2.1 ≤ R.slots + z0)
    (k : mz_K g X M n0 z0 p l e R s m args below meth c Q (pc + 3, L, u.1 ++ rest, u.2)) : mz_K g X M n0 z0 p l e R s m args below meth c Q (pc, L, st, h) := by
  obtain ⟨e1, e2, e3⟩ := mz_ck_at he
  obtain ⟨pc', i, ln, r, mk⟩ := en
  obtain rfl : pc = pc' := e1.symm
  dsimp only at ha
  obtain ⟨dl, dh⟩ := mz_dc_ok hdc
  have hts := F.2.2.2.2.1
  have hK := F.2.2.2.2.2.2.2.1
  rcases mz_act_oc ha with ⟨q, hq, -⟩ | ⟨hq, -⟩ | ⟨idx, ⟨hi, hq, w1, w2, w3⟩ | ⟨hi, hq, w1⟩ | ⟨hi, hq, w1, w2, w3, w4⟩⟩
  · cases hq
  · cases hq
  · obtain ⟨q1, q2, q3, q4⟩ := mz_inv_c hq
    cases q1
    subst hi
    have e4 : mz_rM (mz_c M) idx 0 (pc, .invokevirtual idx, ln, r, mk) = true := by
      replace e3 : (match r.1 with
        | 9990 => true
        | 9991 => true
        | 9992 => true
        | _ => mz_rM (mz_c M) idx 0 (pc, .invokevirtual idx, ln, r, mk)) = true := e3
      split at e3
      next z => exact absurd z w1
      next z => exact absurd z w2
      next z => exact absurd z w3
      next => exact e3
    obtain ⟨n, hn⟩ := mz_rM_ok e4
    obtain ⟨c1, c2, c3, -, -⟩ := mz_ckM_ok hn
    obtain ⟨d1, d2, d3, d4, d5⟩ := c3 rfl
    obtain ⟨b1, b2, b3, b4, b5, b6, b7⟩ := mz_ckB_ok c1
    dsimp only at c1 c2 d1 d2 d3 d4 d5 b1 b2 b3 b4 b5 b6 b7
    obtain ⟨b, As, hvs, htag⟩ : ∃ b vs, (st.take r.2.1).reverse = .ref b :: vs ∧ mz_tag h.1 b = r.2.2 := by
      rcases q4 with z | z
      · omega
      · exact z
    have hst : st = As.reverse ++ .ref b :: st.drop r.2.1 := by
      have : (st.take r.2.1).reverse.reverse = (.ref b :: As).reverse := by rw [hvs]
      rw [List.reverse_reverse, List.reverse_cons] at this
      calc st = st.take r.2.1 ++ st.drop r.2.1 := (List.take_append_drop _ _).symm
        _ = _ := by rw [this, List.append_assoc]; rfl
    have hlen : As.length = mz_np (mz_y r.1) := by
      have : ((st.take r.2.1).reverse).length = (Value.ref b :: As).length := by rw [hvs]
      rw [List.length_reverse, List.length_take, List.length_cons] at this
      omega
    intro ls H locs cells slots k1 k2 k3 k4 k5
    have k4 : cells + n0 = h.1.1.length := k4
    have k5 : slots + z0 = mz_sz h.1 := k5
    obtain ⟨ci, hci⟩ : ∃ ci, r.2.2 = 6 + ci := ⟨r.2.2 - 6, by omega⟩
    rw [hci] at htag d5
    rw [Nat.add_sub_cancel_left] at d5
    cases hcl : mzCl[ci]? with
    | none => rw [hcl] at d5; cases d5
    | some rc =>
      rw [hcl] at d5
      have hcls : rc.1 = (mz_y r.1).cls := Option.some.inj d5
      obtain ⟨a0, o1, o2⟩ := mz_obj k2 htag (mz_lt13 hcl)
      have hadd : mz_ad g b = g.2.2.2.2 + b := mz_ad_pos a0 (mz_lt_len k2 htag (by have := mz_lt13 hcl; omega))
      have hrec : ∃ cell : Cell, H[mz_ad g b]? = some cell ∧ cell.vm.isStatics = false ∧ s.vm.findClass (mz_y r.1).cls = some cell.cls := by
        rw [hadd, ← hcls]
        exact va_recv hK (mz_one o2) hcl (q0 := 0) rfl
      have hPV : PreV s H (mz_y r.1).cls (mz_ad g b) (va_Pc ((st.take r.2.1).reverse.map (mz_up g)) (mz_wd2 g X h)) (As.map (mz_up g)) :=
        ⟨mz_wd2_blind _ _ _ _, hrec, fun U hU hW => ⟨by rw [hvs]; rfl, mz_wd2_warm hU hW k3 k2 F.2.2.2.2.2.1 F.2.2.2.2.2.2.1.1 F.2.2.2.2.2.2.1.2.1 hK⟩⟩
      have hfr : (mz_rm r.1 d' (u.2.1.1.length - h.1.1.length) (mz_sz u.2.1 - mz_sz h.1)).frames + 1 ≤ R.frames ∧ 8 + (mz_xl r.1 + 11) + (mz_rm r.1 d' (u.2.1.1.length - h.1.1.length) (mz_sz u.2.1 - mz_sz h.1)).locals ≤ R.locals := by
        show mz_hg r.1 + 32 * d' + 8 + 1 ≤ R.frames ∧ 8 + (mz_xl r.1 + 11) + 80 * (mz_hg r.1 + 32 * d' + 8) ≤ R.locals
        omega
      have hstk : (F0 m pc ls (st.map (mz_up g))).stack = (As.map (mz_up g)).reverse ++ .ref (mz_ad g b) :: (st.drop r.2.1).map (mz_up g) := by
        show st.map (mz_up g) = _
        rw [← List.map_reverse]
        conv => lhs; rw [hst]
        rw [List.map_append]
        rfl
      have hroom : 2 * (F0 m pc ls (st.map (mz_up g))).monitorRoom + (((st.drop r.2.1).map (mz_up g)).map fun v => v.category).sum ≤ 8 := lv_room (by rw [mz_up_sum]; exact q3)
      refine mz_goon (a := (Value.ref (mz_ad g b) :: As.map (mz_up g)).toArray) (u := u) hu ?_ k3 (fun H1 locs1 z1 z2 => k ls H1 locs1 (cells + (u.2.1.1.length - h.1.1.length)) (slots + (mz_sz u.2.1 - mz_sz h.1)) k1 z1 z2 (by show cells + (u.2.1.1.length - h.1.1.length) + n0 = u.2.1.1.length; omega) (by show slots + (mz_sz u.2.1 - mz_sz h.1) + z0 = mz_sz u.2.1; omega))
      rcases c2 with c2 | c2
      · exact va_runV ⟨F.1, F.2.1, F.2.2.1, F.2.2.2.1, hts⟩ (hM c1) ⟨callB_of (mz_np (mz_y r.1)) hts (mz_ws_good c1) rfl rfl rfl (hts _ b2) (hts _ c2) ⟨b6.1, b6.2, b7⟩ hfr, hts _ d2, hts _ d3⟩ hPV rfl (by rw [List.length_map]; exact hlen) k1.2.1 hstk hroom (mz_dc1 e2 rfl) ⟨by omega, by omega⟩
      · exact va_runVN ⟨F.1, F.2.1, F.2.2.1, F.2.2.2.1, hts⟩ (hM c1) ⟨va_cnB (mz_np (mz_y r.1)) hts (mz_ws_good c1) rfl rfl rfl (F.2.2.2.2.2.1 _ c2 rfl) (hts _ b2) ⟨b6.1, b6.2, b7⟩ hfr, hts _ d2, hts _ d3⟩ hPV rfl (by rw [List.length_map]; exact hlen) k1.2.1 hstk hroom (mz_dc1 e2 rfl) ⟨by omega, by omega⟩
  · obtain ⟨q1, q2, q3, q4⟩ := mz_inv_c hq
    cases q1
    subst hi
    have e4 : mz_rM (mz_c M) idx 2 (pc, .invokespecial idx, ln, r, mk) = true := by
      replace e3 : (match r.1 with
        | 9999 => mz_rX (mz_c M) idx 0 (pc, .invokespecial idx, ln, r, mk)
        | _ => mz_rM (mz_c M) idx 2 (pc, .invokespecial idx, ln, r, mk)) = true := e3
      split at e3
      next z => exact absurd z w1
      next => exact e3
    obtain ⟨n, hn⟩ := mz_rM_ok e4
    obtain ⟨c1, c2, -, -, c3⟩ := mz_ckM_ok hn
    obtain ⟨d1, d2, d3, d4, d5⟩ := c3 rfl
    obtain ⟨b1, b2, b3, b4, b5, b6, b7⟩ := mz_ckB_ok c1
    dsimp only at c1 c2 d1 d2 d3 d4 d5 b1 b2 b3 b4 b5 b6 b7
    obtain ⟨b, As, hvs, htag⟩ : ∃ b vs, (st.take r.2.1).reverse = .ref b :: vs ∧ mz_tag h.1 b = r.2.2 := by
      rcases q4 with z | z
      · omega
      · exact z
    have hst : st = As.reverse ++ .ref b :: st.drop r.2.1 := by
      have : (st.take r.2.1).reverse.reverse = (.ref b :: As).reverse := by rw [hvs]
      rw [List.reverse_reverse, List.reverse_cons] at this
      calc st = st.take r.2.1 ++ st.drop r.2.1 := (List.take_append_drop _ _).symm
        _ = _ := by rw [this, List.append_assoc]; rfl
    have hlen : As.length = mz_np (mz_y r.1) := by
      have : ((st.take r.2.1).reverse).length = (Value.ref b :: As).length := by rw [hvs]
      rw [List.length_reverse, List.length_take, List.length_cons] at this
      omega
    intro ls H locs cells slots k1 k2 k3 k4 k5
    have k4 : cells + n0 = h.1.1.length := k4
    have k5 : slots + z0 = mz_sz h.1 := k5
    have hPS : PreS s H (va_Pc ((st.take r.2.1).reverse.map (mz_up g)) (mz_wd2 g X h)) (.ref (mz_ad g b) :: As.map (mz_up g)) :=
      ⟨mz_wd2_blind _ _ _ _, fun U hU hW => ⟨by rw [hvs]; rfl, mz_wd2_warm hU hW k3 k2 F.2.2.2.2.2.1 F.2.2.2.2.2.2.1.1 F.2.2.2.2.2.2.1.2.1 hK⟩⟩
    have hfr : (mz_rm r.1 d' (u.2.1.1.length - h.1.1.length) (mz_sz u.2.1 - mz_sz h.1)).frames + 1 ≤ R.frames ∧ 8 + (mz_xl r.1 + 11) + (mz_rm r.1 d' (u.2.1.1.length - h.1.1.length) (mz_sz u.2.1 - mz_sz h.1)).locals ≤ R.locals := by
      show mz_hg r.1 + 32 * d' + 8 + 1 ≤ R.frames ∧ 8 + (mz_xl r.1 + 11) + 80 * (mz_hg r.1 + 32 * d' + 8) ≤ R.locals
      omega
    have hstk : (F0 m pc ls (st.map (mz_up g))).stack = (As.map (mz_up g)).reverse ++ .ref (mz_ad g b) :: (st.drop r.2.1).map (mz_up g) := by
      show st.map (mz_up g) = _
      rw [← List.map_reverse]
      conv => lhs; rw [hst]
      rw [List.map_append]
      rfl
    have hroom : 2 * (F0 m pc ls (st.map (mz_up g))).monitorRoom + (((st.drop r.2.1).map (mz_up g)).map fun v => v.category).sum ≤ 8 := lv_room (by rw [mz_up_sum]; exact q3)
    have hM' := hM c1
    have hwsn : mz_ws r.1 = Jvm.Cond.code (mz_y r.1) (mz_b r.1) (mz_xl r.1) none :: mz_TB := by unfold mz_ws; rw [d4]
    refine mz_goon (a := (Value.ref (mz_ad g b) :: As.map (mz_up g)).toArray) (u := u) hu ?_ k3 (fun H1 locs1 z1 z2 => k ls H1 locs1 (cells + (u.2.1.1.length - h.1.1.length)) (slots + (mz_sz u.2.1 - mz_sz h.1)) k1 z1 z2 (by show cells + (u.2.1.1.length - h.1.1.length) + n0 = u.2.1.1.length; omega) (by show slots + (mz_sz u.2.1 - mz_sz h.1) + z0 = mz_sz u.2.1; omega))
    rcases c2 with c2 | c2
    · exact va_runI ⟨F.1, F.2.1, F.2.2.1, F.2.2.2.1, hts⟩ hM' (cwI (mz_np (mz_y r.1)) hts (mz_ws_good c1) hwsn rfl rfl (hts _ b2) (hts _ c2) (hts _ d2) d3 ⟨b6.1, b6.2, b7⟩ hfr) hPS rfl (by rw [List.length_map]; exact hlen) k1.2.1 hstk hroom (mz_dc1 e2 rfl) ⟨by omega, by omega⟩
    · exact va_runIN ⟨F.1, F.2.1, F.2.2.1, F.2.2.2.1, hts⟩ hM' ⟨va_cnB (mz_np (mz_y r.1)) hts (mz_ws_good c1) hwsn rfl rfl (F.2.2.2.2.2.1 _ c2 rfl) (hts _ b2) ⟨b6.1, b6.2, b7⟩ hfr, d3, hts _ d2⟩ hPS rfl (by rw [List.length_map]; exact hlen) k1.2.1 hstk hroom (mz_dc1 e2 rfl) ⟨by omega, by omega⟩
  · obtain ⟨q1, q2, q3, q4⟩ := mz_inv_c hq
    cases q1
    subst hi
    have e4 : mz_rM (mz_c M) idx 1 (pc, .invokestatic idx, ln, r, mk) = true := by
      replace e3 : (match r.1 with
        | 9998 => mz_rX (mz_c M) idx 1 (pc, .invokestatic idx, ln, r, mk)
        | 9997 => mz_rX (mz_c M) idx 3 (pc, .invokestatic idx, ln, r, mk)
        | 9996 => mz_rX (mz_c M) idx 4 (pc, .invokestatic idx, ln, r, mk)
        | 9995 => mz_rX (mz_c M) idx 5 (pc, .invokestatic idx, ln, r, mk)
        | _ => mz_rM (mz_c M) idx 1 (pc, .invokestatic idx, ln, r, mk)) = true := e3
      split at e3
      next z => exact absurd z w1
      next z => exact absurd z w2
      next z => exact absurd z w3
      next z => exact absurd z w4
      next => exact e3
    obtain ⟨n, hn⟩ := mz_rM_ok e4
    obtain ⟨c1, c2, -, c3, -⟩ := mz_ckM_ok hn
    obtain ⟨d1, d2⟩ := c3 rfl
    obtain ⟨b1, b2, b3, b4, b5, b6, b7⟩ := mz_ckB_ok c1
    dsimp only at c1 c2 d1 d2 b1 b2 b3 b4 b5 b6 b7
    have hlen : ((st.take r.2.1).reverse).length = mz_np (mz_y r.1) := by
      rw [List.length_reverse, List.length_take]
      omega
    intro ls H locs cells slots k1 k2 k3 k4 k5
    have k4 : cells + n0 = h.1.1.length := k4
    have k5 : slots + z0 = mz_sz h.1 := k5
    have hPS : PreS s H (va_Pc ((st.take r.2.1).reverse.map (mz_up g)) (mz_wd2 g X h)) ((st.take r.2.1).reverse.map (mz_up g)) :=
      ⟨mz_wd2_blind _ _ _ _, fun U hU hW => ⟨rfl, mz_wd2_warm hU hW k3 k2 F.2.2.2.2.2.1 F.2.2.2.2.2.2.1.1 F.2.2.2.2.2.2.1.2.1 hK⟩⟩
    have hfr : (mz_rm r.1 d' (u.2.1.1.length - h.1.1.length) (mz_sz u.2.1 - mz_sz h.1)).frames + 1 ≤ R.frames ∧ 8 + (mz_xl r.1 + 11) + (mz_rm r.1 d' (u.2.1.1.length - h.1.1.length) (mz_sz u.2.1 - mz_sz h.1)).locals ≤ R.locals := by
      show mz_hg r.1 + 32 * d' + 8 + 1 ≤ R.frames ∧ 8 + (mz_xl r.1 + 11) + 80 * (mz_hg r.1 + 32 * d' + 8) ≤ R.locals
      omega
    have hstk : (F0 m pc ls (st.map (mz_up g))).stack = (((st.take r.2.1).reverse).map (mz_up g)).reverse ++ (st.drop r.2.1).map (mz_up g) := by
      show st.map (mz_up g) = _
      rw [← List.map_reverse, List.reverse_reverse, ← List.map_append, List.take_append_drop]
    have hroom : 2 * (F0 m pc ls (st.map (mz_up g))).monitorRoom + (((st.drop r.2.1).map (mz_up g)).map fun v => v.category).sum ≤ 8 := lv_room (by rw [mz_up_sum]; exact q3)
    refine mz_goon (a := ((st.take r.2.1).reverse.map (mz_up g)).toArray) (u := u) hu ?_ k3 (fun H1 locs1 z1 z2 => k ls H1 locs1 (cells + (u.2.1.1.length - h.1.1.length)) (slots + (mz_sz u.2.1 - mz_sz h.1)) k1 z1 z2 (by show cells + (u.2.1.1.length - h.1.1.length) + n0 = u.2.1.1.length; omega) (by show slots + (mz_sz u.2.1 - mz_sz h.1) + z0 = mz_sz u.2.1; omega))
    rcases c2 with c2 | c2
    · exact va_runS ⟨F.1, F.2.1, F.2.2.1, F.2.2.2.1, hts⟩ (hM c1) ⟨callB_of (mz_np (mz_y r.1)) hts (mz_ws_good c1) rfl rfl rfl (hts _ b2) (hts _ c2) ⟨b6.1, b6.2, b7⟩ hfr, hts _ d2⟩ hPS rfl (by rw [List.length_map]; exact hlen) k1.2.1 hstk hroom (mz_dc1 e2 rfl) ⟨by omega, by omega⟩
    · exact va_runSN ⟨F.1, F.2.1, F.2.2.1, F.2.2.2.1, hts⟩ (hM c1) ⟨va_cnB (mz_np (mz_y r.1)) hts (mz_ws_good c1) rfl rfl rfl (F.2.2.2.2.2.1 _ c2 rfl) (hts _ b2) ⟨b6.1, b6.2, b7⟩ hfr, hts _ d2, trivial⟩ hPS rfl (by rw [List.length_map]; exact hlen) k1.2.1 hstk hroom (mz_dc1 e2 rfl) ⟨by omega, by omega⟩
theorem mz_K_mask {bs : List Bool} (k : mz_K g X M n0 z0 p l e R s m args below meth c Q (pc, mz_mask bs L, st, h)) : mz_K g X M n0 z0 p l e R s m args below meth c Q (pc, L, st, h) :=
  fun ls H locs cells slots h1 h2 h3 h4 h5 => k ls H locs cells slots (mz_lr_mask bs h1) h2 h3 h4 h5
theorem mz_ko_kind {rt : Option FieldType} {vs : List Value} (h : mz_ko rt vs = true) : vs = [] ∨ (∃ v, vs = [.int v]) ∨ ∃ v, vs = [.long v] := by
  unfold mz_ko at h
  split at h
  next => exact Or.inl rfl
  next v => exact Or.inr (Or.inl ⟨v, rfl⟩)
  next v => exact Or.inr (Or.inl ⟨v, rfl⟩)
  next v => exact Or.inr (Or.inr ⟨v, rfl⟩)
  next => cases h
end MzRun
/-- THE WHOLE RUN -/
theorem mz_sound (g : MzG) (X : MzX) (l : Launch) : ∀ (n d M pc : Nat) (L : MzL) (st : List Value) (h : MzH) (r : List Value × MzH), mz_ex X n d M pc L st h = some r → mz_Snd g X l d M pc L st h r := by
  intro n
  induction n with
  | zero => intro d M pc L st h r H; simp [mz_ex] at H
  | succ n ih =>
    intro d M pc L st h r H p e R s m args below meth c Q n0 z0 F f1 f2 b1 b2 kr
    have H0 := H
    rw [mz_ex] at H
    cases he : mz_fd (mz_code M) pc with
    | none => rw [he] at H; cases H
    | some en =>
      rw [he] at H
      dsimp only at H
      refine mz_K_mask (bs := en.2.2.2.2) ?_
      cases ha : mz_act X en.2.1 en.2.2.2.1 pc (mz_mask en.2.2.2.2 L) st h with
      | none => rw [ha] at H; cases H
      | some a =>
        rw [ha] at H
        rcases a with q | q | vs
        · dsimp only at H
          have hl := mz_ex_len X _ _ _ _ _ _ _ _ H
          exact mz_step F he (Nat.le_trans hl.1 b1) (Nat.le_trans hl.2 b2) ha (ih _ _ _ _ _ _ _ H p e R s m args below meth c Q n0 z0 F f1 f2 b1 b2 kr)
        · obtain ⟨N, vs, rest⟩ := q
          dsimp only at H
          cases hd : mz_dc M N d vs with
          | none => rw [hd] at H; cases H
          | some d' =>
            rw [hd] at H
            dsimp only at H
            cases hx : mz_ex X n d' N 0 (mz_en (mz_xl N) vs) [] h with
            | none => rw [hx] at H; cases H
            | some u =>
              rw [hx] at H
              dsimp only at H
              have hl := mz_ex_len X _ _ _ _ _ _ _ _ H
              have hl2 := mz_ex_len X _ _ _ _ _ _ _ _ hx
              have hko := mz_ex_ko X _ _ _ _ _ _ _ _ hx
              exact mz_t_call F f1 f2 he ha hd (fun hN => mz_met (ih _ _ _ _ _ _ _ hx) hN hko (mz_dc_ok hd).1 hl2.1 hl2.2) (mz_ko_kind hko) hko hl2.1 hl2.2 (Nat.le_trans hl.1 b1) (Nat.le_trans hl.2 b2) (ih _ _ _ _ _ _ _ H p e R s m args below meth c Q n0 z0 F f1 f2 b1 b2 kr)
        · dsimp only at H
          by_cases hk : mz_ko (mz_rt M) vs = true
          · rw [if_pos hk] at H
            cases H
            rcases mz_act_oc ha with ⟨q, hq, -⟩ | ⟨hq, hi, hst⟩ | ⟨idx, ⟨-, hq, -⟩ | ⟨-, hq, -⟩ | ⟨-, hq, -⟩⟩
            · cases hq
            · cases hq
              obtain ⟨e1, e2, e3⟩ := mz_ck_at he
              obtain ⟨pc', i, ln, rr, mk⟩ := en
              obtain rfl : pc = pc' := e1.symm
              dsimp only at hi
              subst hi
              intro ls H locs cells slots k1 k2 k3 k4 k5
              refine kr pc ls H locs cells slots (mz_dc1 (n := 0) e2 ?_) k2 k3 k4 k5
              rcases hst with rfl | ⟨v, rfl⟩ | ⟨v, rfl⟩ <;> rfl
            · cases (mz_inv_c hq).1
            · cases (mz_inv_c hq).1
            · cases (mz_inv_c hq).1
          · rw [if_neg hk] at H
            cases H
