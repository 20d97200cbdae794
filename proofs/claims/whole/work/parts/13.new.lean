section MzNew
variable {g : MzG} {X : MzX} {M n0 z0 : Nat} {p : Program} {l : Launch} {e : Env} {R : Room} {s : State} {m : MethodId} {args : Array Value} {below : List Frame} {meth : Method} {c : Code} {Q : State → Prop}
variable {pc : Nat} {L : MzL} {st : List Value} {h : MzH} {q : Nat × MzL × List Value × MzH}
theorem mz_S_new {H H1 : Heap} {H0 : Heap} {locs : List Loc} {A : Nat → Prop} (hS : va_S A H0 H locs) (hz : H1.size = H.size + 1) (oq : ∀ p : Nat, p < H.size → H1[p]? = H[p]?) : va_S A H0 H1 locs :=
  ⟨by have := hS.1; omega, fun x h1 h2 => (oq x (Nat.lt_of_lt_of_le h1 hS.1)).trans (hS.2.1 x h1 h2), hS.2.2⟩
theorem mz_sz_new (h : MzH) (t n : Nat) : mz_sz (mz_new h t n).1 = mz_sz h.1 + n := by
  unfold mz_sz mz_new
  simp
theorem mz_len_new (h : MzH) (t n : Nat) : (mz_new h t n).1.1.length = h.1.1.length + 1 := by
  unfold mz_new
  simp
theorem mz_ad_len {H : Heap} {U : State} (hh : mz_hr g X h U H) (hb : h.1.1.length < 900000) : mz_ad g h.1.1.length = H.size := by
  have h0 : 0 < h.1.1.length := by
    obtain ⟨n, hn, -⟩ := mz_tag_at hh.2.2.1 (by decide)
    exact (List.getElem?_eq_some_iff.mp hn).1
  rw [mz_ad_pos (by omega) (by omega), hh.1]
theorem mz_t_new (F : mz_fr g M p R s m args meth c) {i : Nat} {en : MzE} (hd : decode (mz_b M) pc = .ok (.new i, 3)) (hc : mz_rN (mz_c M) i en = true) (hb : h.1.1.length < 900000) (hb1 : h.1.1.length + 1 ≤ R.cells + n0) (hb2 : mz_sz h.1 + en.2.2.2.1.2.1 ≤ R.slots + z0)
    (ha : q = (pc + 3, L, .ref h.1.1.length :: st, mz_new h (6 + en.2.2.2.1.1) en.2.2.2.1.2.1)) (k : mz_K g X M n0 z0 p l e R s m args below meth c Q q) : mz_K g X M n0 z0 p l e R s m args below meth c Q (pc, L, st, h) := by
  subst ha
  obtain ⟨r, r1, r2, r3, r4, r5⟩ := mz_rN_ok hc
  obtain ⟨u1, u2, ty, u3⟩ := mz_cls r1
  intro ls H locs cells slots h1 h2 h3 h4 h5
  have hts := F.2.2.2.2.1
  have hKn := F.2.2.2.2.2.2.2.1.1 _ _ r1
  have h4 : cells + n0 = h.1.1.length := h4
  have h5 : slots + z0 = mz_sz h.1 := h5
  refine W.newcK F.1 F.2.1 F.2.2.2.1 (hts _ r3) (hts _ r4) (hts _ r5) rfl hd (by omega) (by omega) hKn.2.1 rfl fun H1 kC hkC e1 z1 o1 => ?_
  have hadd := mz_ad_len h2 hb
  have key := k ls H1 locs (cells + 1) (slots + r.2.2) h1 (mz_hr_new h2 hb z1 o1 ?_) (mz_S_new h3 z1 o1) (by show _ = (mz_new h _ _).1.1.length; rw [mz_len_new]; omega) (by show _ = mz_sz (mz_new h _ _).1; rw [mz_sz_new, r2]; omega)
  · rw [show (F0 m pc ls (st.map (mz_up g))).stack = st.map (mz_up g) from rfl, ← hadd]
    exact key
  · rw [Nat.add_comm 6]
    refine ⟨r, r1, ?_⟩
    refine (u_born ty hts (mz_U_in u1) hKn hkC e1 u3).to ?_
    intro j hj
    have hz := fun i => h2.2.2.2.2.1 h.1.1.length (Nat.le_refl _) i
    unfold vp_V
    rw [List.getD_eq_getElem?_getD, List.getElem?_map, List.getElem?_range (by rw [← r2]; exact hj)]
    show defaultValue (ty j) = mz_fv g h h.1.1.length j (mz_fkd en.2.2.2.1.1 j)
    have ht := u3 j hj
    unfold mz_fv
    rw [(hz j).1, (hz j).2.2]
    rcases mz_U_ty u1 hj with ⟨y1, y2⟩ | ⟨y1, y2⟩ | ⟨y1, t, y2, y3⟩
    · rw [y2] at ht; rw [← Option.some.inj ht, y1]; rfl
    · rw [y2] at ht; rw [← Option.some.inj ht, y1]; rfl
    · rw [y2] at ht
      rw [← Option.some.inj ht, y1]
      rcases y3 with ⟨n, hn⟩ | ⟨n, hn⟩
      · rw [hn]; rfl
      · rw [hn]; rfl
theorem mz_t_newarray (F : mz_fr g M p R s m args meth c) {t : ArrayType} {n : Int32} (hd : decode (mz_b M) pc = .ok (.newarray t, 2)) (hb : h.1.1.length < 900000) (hn : ¬ n < 0) (hn2 : n.toNatClampNeg ≤ 60000000) (hta : mz_atag t < 5) (hb1 : h.1.1.length + 1 ≤ R.cells + n0) (hb2 : mz_sz h.1 + n.toNatClampNeg ≤ R.slots + z0)
    (ha : q = (pc + 2, L, .ref h.1.1.length :: st, mz_new h (mz_atag t) n.toNatClampNeg)) (k : mz_K g X M n0 z0 p l e R s m args below meth c Q q) : mz_K g X M n0 z0 p l e R s m args below meth c Q (pc, L, .int n :: st, h) := by
  subst ha
  intro ls H locs cells slots h1 h2 h3 h4 h5
  have hts := F.2.2.2.2.1
  have h4 : cells + n0 = h.1.1.length := h4
  have h5 : slots + z0 = mz_sz h.1 := h5
  refine va_newaK F.1 F.2.1 (hts _ (mz_w_arr t hta)) rfl hd rfl hn rfl ?_ (by omega) (by omega) rfl fun H1 cA e1 z1 o1 _ hNm => ?_
  · have : componentBytes (newarray.typeOf t) ≤ 8 := by cases t <;> decide
    calc n.toNatClampNeg * componentBytes (newarray.typeOf t) ≤ 60000000 * 8 := Nat.mul_le_mul hn2 this
      _ ≤ 536870912 := by decide
  have hadd := mz_ad_len h2 hb
  have key := k ls H1 locs (cells + 1) (slots + n.toNatClampNeg) h1 (mz_hr_new h2 hb z1 o1 ?_) (mz_S_new h3 z1 o1) (by show _ = (mz_new h _ _).1.1.length; rw [mz_len_new]; omega) (by show _ = mz_sz (mz_new h _ _).1; rw [mz_sz_new]; omega)
  · rw [← hadd]
    exact key
  · have hz := fun i => h2.2.2.2.2.1 h.1.1.length (Nat.le_refl _) i
    have hz1 : h.2.1 h.1.1.length = fun _ => 0 := funext fun i => (hz i).1
    have hz2 : h.2.2 h.1.1.length = fun _ => 0 := funext fun i => (hz i).2.1
    have hK := F.2.2.2.2.2.2.2.1
    cases t with
    | int =>
      have hcA : cA = g.2.2.1 0 := Option.some.inj (hNm.symm.trans (hK.2 0 _ rfl).2)
      subst hcA
      show H1[H.size]? = some (vp_cell (g.2.2.1 0) (n.toNatClampNeg, .inl (h.2.1 h.1.1.length)))
      rw [hz1, vp_cell_i]
      exact e1
    | boolean =>
      have hcA : cA = g.2.2.1 1 := Option.some.inj (hNm.symm.trans (hK.2 1 _ rfl).2)
      subst hcA
      show H1[H.size]? = some (vp_cell (g.2.2.1 1) (n.toNatClampNeg, .inl (h.2.1 h.1.1.length)))
      rw [hz1, vp_cell_i]
      exact e1
    | byte =>
      have hcA : cA = g.2.2.1 2 := Option.some.inj (hNm.symm.trans (hK.2 2 _ rfl).2)
      subst hcA
      show H1[H.size]? = some (vp_cell (g.2.2.1 2) (n.toNatClampNeg, .inl (h.2.1 h.1.1.length)))
      rw [hz1, vp_cell_i]
      exact e1
    | short =>
      have hcA : cA = g.2.2.1 3 := Option.some.inj (hNm.symm.trans (hK.2 3 _ rfl).2)
      subst hcA
      show H1[H.size]? = some (vp_cell (g.2.2.1 3) (n.toNatClampNeg, .inl (h.2.1 h.1.1.length)))
      rw [hz1, vp_cell_i]
      exact e1
    | long =>
      have hcA : cA = g.2.2.1 4 := Option.some.inj (hNm.symm.trans (hK.2 4 _ rfl).2)
      subst hcA
      show H1[H.size]? = some (vp_cell (g.2.2.1 4) (n.toNatClampNeg, .inr (.inl (h.2.2 h.1.1.length))))
      rw [hz2, vp_cell_l]
      exact e1
    | char => exact absurd hta (by decide)
    | float => exact absurd hta (by decide)
    | double => exact absurd hta (by decide)
theorem mz_t_anew (F : mz_fr g M p R s m args meth c) {i : Nat} {en : MzE} {n : Int32} (hd : decode (mz_b M) pc = .ok (.anewarray i, 3)) (hc : mz_rX (mz_c M) i 2 en = true) (hb : h.1.1.length < 900000) (hn : ¬ n < 0) (hn2 : n.toNatClampNeg ≤ 60000000) (hb1 : h.1.1.length + 1 ≤ R.cells + n0) (hb2 : mz_sz h.1 + n.toNatClampNeg ≤ R.slots + z0)
    (ha : q = (pc + 3, L, .ref h.1.1.length :: st, mz_new h 5 n.toNatClampNeg)) (k : mz_K g X M n0 z0 p l e R s m args below meth c Q q) : mz_K g X M n0 z0 p l e R s m args below meth c Q (pc, L, .int n :: st, h) := by
  subst ha
  obtain ⟨w, hw⟩ := mz_rX_ok hc
  have hw : Jvm.Cond.classLink (mz_cnm (mz_c M)) i RX6 ∈ mz_TB := mz_wd (of_decide_eq_true hw) rfl
  intro ls H locs cells slots h1 h2 h3 h4 h5
  have hts := F.2.2.2.2.1
  have h4 : cells + n0 = h.1.1.length := h4
  have h5 : slots + z0 = mz_sz h.1 := h5
  refine W.anew F.1 F.2.1 F.2.2.2.1 (hts _ hw) (va_AO.use F.2.2.2.2.2.2.1.1) rfl hd rfl hn (by omega) (by omega) (by omega) fun cA kA comp f1 f2 f3 f4 => ?_
  generalize hH1 : H.push ({ cls := cA, slots := Array.replicate n.toNatClampNeg .null, vm := .none } : Cell) = H1
  have z1 : H1.size = H.size + 1 := by rw [← hH1, Array.size_push]
  have e1 : H1[H.size]? = some (arrV cA n.toNatClampNeg (fun _ => .null)) := by rw [← hH1, Array.getElem?_push_size, ← arrV_new]
  have o1 : ∀ q : Nat, q < H.size → H1[q]? = H[q]? := fun q hq => by rw [← hH1, Array.getElem?_push, if_neg (Nat.ne_of_lt hq)]
  have hadd := mz_ad_len h2 hb
  have key := k ls H1 locs (cells + 1) (slots + n.toNatClampNeg) h1 (mz_hr_new h2 hb z1 o1 ?_) (mz_S_new h3 z1 o1) (by show _ = (mz_new h _ _).1.1.length; rw [mz_len_new]; omega) (by show _ = mz_sz (mz_new h _ _).1; rw [mz_sz_new]; omega)
  · rw [← hadd]
    exact key
  · have hz3 : h.1.2 h.1.1.length = fun _ => none := funext fun i => (h2.2.2.2.2.1 h.1.1.length (Nat.le_refl _) i).2.2
    obtain ⟨kA', comp', -, -, -, hNm⟩ := (F.2.2.2.2.2.2.2.1.2 5 _ rfl).2
    have hcA : cA = g.2.2.1 5 := Option.some.inj (f1.symm.trans hNm)
    subst hcA
    show H1[H.size]? = some (vp_cell (g.2.2.1 5) (n.toNatClampNeg, .inr (.inr (.inr (.inr fun i => (h.1.2 h.1.1.length i).map (mz_ad g))))))
    rw [hz3, vp_cell_q]
    exact e1
theorem mz_t_oini (F : mz_fr g M p R s m args meth c) {i a : Nat} {en : MzE} (hd : decode (mz_b M) pc = .ok (.invokespecial i, 3)) (hc : mz_rX (mz_c M) i 0 en = true) (hs : (st.map fun v => v.category).sum ≤ 8)
    (ha : q = (pc + 3, L, st, h)) (k : mz_K g X M n0 z0 p l e R s m args below meth c Q q) : mz_K g X M n0 z0 p l e R s m args below meth c Q (pc, L, .ref a :: st, h) := by
  subst ha
  obtain ⟨w, hw⟩ := mz_rX_ok hc
  have hw : Jvm.Cond.methodLink (mz_cnm (mz_c M)) i objectInit ∈ mz_TB := mz_wd (of_decide_eq_true hw) rfl
  intro ls H locs cells slots h1 h2 h3 h4 h5
  have hts := F.2.2.2.2.1
  refine W.objInit F.1 F.2.1 F.2.2.2.1 (hts _ hw) (hts _ mz_w_oi) (hts _ mz_w_oc) rfl (by show ls.size = _; rw [h1.2.1, F.2.2.1]) rfl hd F.2.2.2.2.2.2.2.2.2.2.2.1 ?_ (k ls H locs cells slots h1 h2 h3 h4 h5)
  have := F.2.2.2.2.2.2.2.2.2.2.2.2
  show 2 * 0 + ((st.map (mz_up g)).map fun v => v.category).sum + 12 ≤ R.locals
  rw [mz_up_sum]
  omega
theorem mz_t_max (F : mz_fr g M p R s m args meth c) {i : Nat} {x y : Int32} {en : MzE} (hd : decode (mz_b M) pc = .ok (.invokestatic i, 3)) (hc : mz_rX (mz_c M) i 3 en = true) (hs : (st.map fun v => v.category).sum ≤ 8) (hb1 : h.1.1.length ≤ R.cells + n0) (hb2 : mz_sz h.1 ≤ R.slots + z0)
    (ha : q = (pc + 3, L, .int (if x < y then y else x) :: st, h)) (k : mz_K g X M n0 z0 p l e R s m args below meth c Q q) : mz_K g X M n0 z0 p l e R s m args below meth c Q (pc, L, .int y :: .int x :: st, h) := by
  subst ha
  obtain ⟨w, hw⟩ := mz_rX_ok hc
  have hw : Jvm.Cond.methodLink (mz_cnm (mz_c M)) i Lib.Math.max.name ∈ mz_TB := mz_wd (of_decide_eq_true hw) rfl
  intro ls H locs cells slots h1 h2 h3 h4 h5
  have hts := F.2.2.2.2.1
  have h4 : cells + n0 = h.1.1.length := h4
  have h5 : slots + z0 = mz_sz h.1 := h5
  have := F.2.2.2.2.2.2.2.2.2.2.2.2
  exact va_mmax F.1 F.2.1 (by rw [h1.2.1, F.2.2.1]) F.2.2.2.1 (hts _ hw) (hts _ mz_w_smax) (hts _ mz_w_mi) (hts _ mz_w_cmax) F.2.2.2.2.2.2.2.2.2.2.2.1 (by rw [mz_up_sum]; omega) (by omega) (by omega) hd (k ls H locs cells slots h1 h2 h3 h4 h5)
theorem mz_t_min (F : mz_fr g M p R s m args meth c) {i : Nat} {x y : Int32} {en : MzE} (hd : decode (mz_b M) pc = .ok (.invokestatic i, 3)) (hc : mz_rX (mz_c M) i 4 en = true) (hs : (st.map fun v => v.category).sum ≤ 8) (hb1 : h.1.1.length ≤ R.cells + n0) (hb2 : mz_sz h.1 ≤ R.slots + z0)
    (ha : q = (pc + 3, L, .int (if y < x then y else x) :: st, h)) (k : mz_K g X M n0 z0 p l e R s m args below meth c Q q) : mz_K g X M n0 z0 p l e R s m args below meth c Q (pc, L, .int y :: .int x :: st, h) := by
  subst ha
  obtain ⟨w, hw⟩ := mz_rX_ok hc
  have hw : Jvm.Cond.methodLink (mz_cnm (mz_c M)) i Lib.Math.min.name ∈ mz_TB := mz_wd (of_decide_eq_true hw) rfl
  intro ls H locs cells slots h1 h2 h3 h4 h5
  have hts := F.2.2.2.2.1
  have h4 : cells + n0 = h.1.1.length := h4
  have h5 : slots + z0 = mz_sz h.1 := h5
  have := F.2.2.2.2.2.2.2.2.2.2.2.2
  exact va_mmin F.1 F.2.1 (by rw [h1.2.1, F.2.2.1]) F.2.2.2.1 (hts _ hw) (hts _ mz_w_smin) (hts _ mz_w_mi) (hts _ mz_w_cmin) F.2.2.2.2.2.2.2.2.2.2.2.1 (by rw [mz_up_sum]; omega) (by omega) (by omega) hd (k ls H locs cells slots h1 h2 h3 h4 h5)
theorem mz_t_abs (F : mz_fr g M p R s m args meth c) {i : Nat} {x : Int32} {en : MzE} (hd : decode (mz_b M) pc = .ok (.invokestatic i, 3)) (hc : mz_rX (mz_c M) i 5 en = true) (hs : (st.map fun v => v.category).sum ≤ 8) (hb1 : h.1.1.length ≤ R.cells + n0) (hb2 : mz_sz h.1 ≤ R.slots + z0)
    (ha : q = (pc + 3, L, .int (if 0 ≤ x then x else 0 - x) :: st, h)) (k : mz_K g X M n0 z0 p l e R s m args below meth c Q q) : mz_K g X M n0 z0 p l e R s m args below meth c Q (pc, L, .int x :: st, h) := by
  subst ha
  obtain ⟨w, hw⟩ := mz_rX_ok hc
  have hw : Jvm.Cond.methodLink (mz_cnm (mz_c M)) i Lib.Math.abs.name ∈ mz_TB := mz_wd (of_decide_eq_true hw) rfl
  intro ls H locs cells slots h1 h2 h3 h4 h5
  have hts := F.2.2.2.2.1
  have h4 : cells + n0 = h.1.1.length := h4
  have h5 : slots + z0 = mz_sz h.1 := h5
  have := F.2.2.2.2.2.2.2.2.2.2.2.2
  exact va_mabs F.1 F.2.1 (by rw [h1.2.1, F.2.2.1]) F.2.2.2.1 (hts _ hw) (hts _ mz_w_sabs) (hts _ mz_w_mi) (hts _ mz_w_cabs) F.2.2.2.2.2.2.2.2.2.2.2.1 (by rw [mz_up_sum]; omega) (by omega) (by omega) hd (k ls H locs cells slots h1 h2 h3 h4 h5)
/-- arraycopy over rows of ints -/
theorem mz_t_cpy (F : mz_fr g M p R s m args meth c) {i : Nat} {en : MzE} (hd : decode (mz_b M) pc = .ok (.invokestatic i, 3)) (hc : mz_rX (mz_c M) i 1 en = true) (ha : mz_cpy pc L st h = some (.inl q)) (k : mz_K g X M n0 z0 p l e R s m args below meth c Q q) : mz_K g X M n0 z0 p l e R s m args below meth c Q (pc, L, st, h) := by
  obtain ⟨w, hw⟩ := mz_rX_ok hc
  have hw : Jvm.Cond.methodLink (mz_cnm (mz_c M)) i arraycopyName ∈ mz_TB := mz_wd (of_decide_eq_true hw) rfl
  unfold mz_cpy at ha
  split at ha
  next n dp b sp a st' =>
    split at ha
    next hcond =>
      obtain rfl := mz_nx_inv ha
      obtain ⟨ta, tb, p1, p2, p3, p4, p5, p6⟩ := hcond
      intro ls H locs cells slots h1 h2 h3 h4 h5
      have hts := F.2.2.2.2.1
      obtain ⟨a0, a1⟩ := mz_adT h2 ta (by omega)
      obtain ⟨b0, b1⟩ := mz_adT h2 tb (by omega)
      show W p l e R s m args below meth c H locs cells slots Q (F0 m pc ls (.int n :: .int dp :: .ref (mz_ad g b) :: .int sp :: .ref (mz_ad g a) :: st'.map (mz_up g)))
      rw [a1, b1]
      have nn : ∀ z : Int32, ¬ z < 0 → z.toInt = (z.toNatClampNeg : Int) := by
        intro z hz
        have hz0 : (0 : Int) ≤ z.toInt := by
          have := Int32.not_lt.mp hz
          simpa using Int32.le_iff_toInt_le.mp this
        show z.toInt = ((z.toInt.toNat : Nat) : Int)
        omega
      intro T hT XX
      have hc0 : H[g.2.2.2.2 + a]? = some (vp_cell (g.2.2.1 0) (mz_len h.1 a, .inl (h.2.1 a))) := mz_arr h2 a0 ta (by omega) 0 _ rfl
      have hc1 : H[g.2.2.2.2 + b]? = some (vp_cell (g.2.2.1 0) (mz_len h.1 b, .inl (h.2.1 b))) := mz_arr h2 b0 tb (by omega) 0 _ rfl
      have hK := F.2.2.2.2.2.2.2.1
      obtain ⟨-, k0, hk0, cm0, hkk0⟩ := (hK.2 0 _ rfl).1 (mz_len h.1 a) (fun j => .int (h.2.1 a j))
      have hlo := F.2.2.2.2.2.2.2.2.2.2.2.2
      have hnf : nativeFrameWords "java/lang/System" "arraycopy" 5 = 7 := by decide
      obtain ⟨vm', X', step⟩ := XX.arraycopy F.1 F.2.2.2.1 (hts _ hw) (hts _ mz_w_an) (hts _ mz_w_as) (hts _ mz_w_ai) (src := g.2.2.2.2 + a) (dst := g.2.2.2.2 + b) (cs := vp_cell (g.2.2.1 0) (mz_len h.1 a, .inl (h.2.1 a))) (cd := vp_cell (g.2.2.1 0) (mz_len h.1 b, .inl (h.2.1 b))) (srcPos := sp) (destPos := dp) (n := n) (by rw [hT]; exact hc0) (by rw [hT]; exact hc1)
        (fun _ h => by cases h) (fun _ h => by cases h) (fun h => by cases h) (fun h => by cases h) hk0 hk0 hkk0 hkk0 (by simp [refKind]) p1 p2 p3
        (by rw [nn sp p1, nn n p3]; show ¬ _ > ((arrV _ (mz_len h.1 a) (fun j => .int (h.2.1 a j))).slots.size : Int); rw [arrV_size]; omega)
        (by rw [nn dp p2, nn n p3]; show ¬ _ > ((arrV _ (mz_len h.1 b) (fun j => .int (h.2.1 b j))).slots.size : Int); rw [arrV_size]; omega)
        (fun vm₁ _ i hi => by
          have e : (vp_cell (g.2.2.1 0) (mz_len h.1 a, .inl (h.2.1 a))).slots.getD (sp.toNatClampNeg + i) .null = .int (h.2.1 a (sp.toNatClampNeg + i)) := by
            show (arrV _ (mz_len h.1 a) (fun j => .int (h.2.1 a j))).slots.getD _ _ = _
            rw [Array.getD_eq_getD_getElem?, arrV_read _ _ (by omega)]
            rfl
          refine ⟨?_, ?_⟩
          · rw [e]; rfl
          · rw [e]; exact trivial)
        (g := F0 m pc ls (.int n :: .int dp :: .ref (g.2.2.2.2 + b) :: .int sp :: .ref (g.2.2.2.2 + a) :: st'.map (mz_up g))) rfl (by show ls.size = _; rw [h1.2.1, F.2.2.1]) (rest := st'.map (mz_up g)) rfl (by rw [F.2.1]; exact hd) F.2.2.2.2.2.2.2.2.2.2.2.1 (by show 2 * 0 + ((st'.map (mz_up g)).map fun v => v.category).sum + (nativeFrameWords "java/lang/System" "arraycopy" 5 + 11) ≤ _; rw [mz_up_sum, hnf]; omega)
      have e1 : copied (vp_cell (g.2.2.1 0) (mz_len h.1 a, .inl (h.2.1 a))) (vp_cell (g.2.2.1 0) (mz_len h.1 b, .inl (h.2.1 b))) sp dp n = vp_cell (g.2.2.1 0) (mz_len h.1 b, .inl (va_cpy (h.2.1 a) (h.2.1 b) sp.toNatClampNeg dp.toNatClampNeg n.toNatClampNeg)) := va_copied (fun z => .int z) _ _ _ _ p4
      rw [e1] at X' step
      have hl : g.2.2.2.2 + b < H.size := (Array.getElem?_eq_some_iff.mp hc1).1
      generalize hnew : vp_cell (g.2.2.1 0) (mz_len h.1 b, .inl (va_cpy (h.2.1 a) (h.2.1 b) sp.toNatClampNeg dp.toNatClampNeg n.toNatClampNeg)) = cell at X' step
      have hheap : ((T.setVm vm').setCell (g.2.2.2.2 + b) cell).heap = H.setIfInBounds (g.2.2.2.2 + b) cell := by rw [← hT]; rfl
      have oq : ∀ q : Nat, q ≠ g.2.2.2.2 + b → (H.setIfInBounds (g.2.2.2.2 + b) cell)[q]? = H[q]? := fun q hq => by simp [Array.getElem?_setIfInBounds, Ne.symm hq]
      have zq : (H.setIfInBounds (g.2.2.2.2 + b) cell).size = H.size := by simp
      obtain ⟨nb, o1, o2⟩ := mz_tag_at tb (by omega)
      obtain ⟨t, a1', b1'⟩ := k ls (H.setIfInBounds (g.2.2.2.2 + b) cell) _ cells slots h1 (mz_hr_upd h2 b0 o1 rfl (fun d hd => ⟨by
          funext j
          show (if d = b ∧ _ then _ else h.2.1 d j) = _
          rw [if_neg (fun z => hd z.1)], rfl, rfl⟩) zq oq (by
          show (H.setIfInBounds (g.2.2.2.2 + b) cell)[g.2.2.2.2 + b]? = some (vp_cell (g.2.2.1 0) (nb, .inl ((mz_cp h.2 a sp.toNatClampNeg b dp.toNatClampNeg n.toNatClampNeg).1 b)))
          rw [show (H.setIfInBounds (g.2.2.2.2 + b) cell)[g.2.2.2.2 + b]? = some cell by simp [Array.getElem?_setIfInBounds, hl], ← hnew, o2]
          congr 3
          congr 1
          funext j
          show (if dp.toNatClampNeg ≤ j ∧ j < dp.toNatClampNeg + n.toNatClampNeg then h.2.1 a (sp.toNatClampNeg + (j - dp.toNatClampNeg)) else h.2.1 b j) = (if b = b ∧ dp.toNatClampNeg ≤ j ∧ j < dp.toNatClampNeg + n.toNatClampNeg then h.2.1 a (sp.toNatClampNeg + (j - dp.toNatClampNeg)) else h.2.1 b j)
          by_cases hj : dp.toNatClampNeg ≤ j ∧ j < dp.toNatClampNeg + n.toNatClampNeg
          · rw [if_pos hj, if_pos ⟨rfl, hj⟩]
          · rw [if_neg hj, if_neg (fun z => hj z.2)])) ⟨by rw [zq]; exact h3.1, fun q g1 g2 => by
            rw [oq q (fun e => g2 (by rw [e]; show g.2.2.2.2 < g.2.2.2.2 + b; omega))]
            exact h3.2.1 q g1 g2, fun q hq => by
            rcases List.mem_append.mp hq with h | h
            · exact h3.2.2 q h
            · obtain ⟨z, -, hz⟩ := List.mem_map.mp h
              rw [← hz]
              show g.2.2.2.2 < g.2.2.2.2 + b
              omega⟩ h4 h5 _ hheap X'
      exact ⟨t, step t a1', b1'⟩
    next => cases ha
  next => cases ha
end MzNew
