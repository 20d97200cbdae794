/-! THE ABSTRACT MACHINE'S ANSWER IS THE MACHINE'S -/
theorem mz_rM_ok {c i k : Nat} {en : MzE} (h : mz_rM c i k en = true) : ∃ n : Nat × Nat × Nat × Nat, mz_ckM (c, i, en.2.2.2.1, k, n.1, n.2) = true := by
  unfold mz_rM at h
  cases hq : mz_PM[en.2.2.1]? with
  | none => rw [hq] at h; cases h
  | some q =>
    rw [hq] at h
    simp only [Bool.and_eq_true] at h
    obtain ⟨⟨⟨h1, h2⟩, h3⟩, h4⟩ := h
    have hk := mz_PM_at hq
    obtain ⟨a, b, r, d, n⟩ := q
    dsimp only at h1 h2 h3 h4
    have e1 := Nat.eq_of_beq_eq_true h1
    have e2 := Nat.eq_of_beq_eq_true h2
    have e3 := of_decide_eq_true h3
    have e4 := Nat.eq_of_beq_eq_true h4
    subst e1; subst e2; subst e3; subst e4
    exact ⟨(n.1, n.2), hk⟩
theorem mz_ckM_ok {c i k : Nat} {r : Nat × Nat × Nat} {n : Nat × Nat × Nat × Nat} (h : mz_ckM (c, i, r, k, n.1, n.2) = true) : r.1 < 291 ∧ (Jvm.Cond.methodLink (mz_cnm c) i (mz_y r.1) ∈ mz_TB ∨ Jvm.Cond.methodLinkNest (mz_cnm c) i (mz_y r.1) "MincedCases" ∈ lw_tbl) ∧
    (k = 0 → mz_np (mz_y r.1) + 1 = r.2.1 ∧ Jvm.Cond.instanceMethod (mz_y r.1) ∈ mz_TB ∧ Jvm.Cond.selects (mz_y r.1).cls (mz_y r.1) (mz_y r.1) ∈ mz_TB ∧ (6 ≤ r.2.2 ∧ r.2.2 < 19) ∧ (mzCl[r.2.2 - 6]?).map (fun r => r.1) = some (mz_y r.1).cls) ∧
    (k = 1 → mz_np (mz_y r.1) = r.2.1 ∧ Jvm.Cond.static (mz_y r.1) ∈ mz_TB) ∧
    (k = 2 → mz_np (mz_y r.1) + 1 = r.2.1 ∧ Jvm.Cond.instanceMethod (mz_y r.1) ∈ mz_TB ∧ (mz_y r.1).name = "<init>" ∧ mz_rt r.1 = none ∧ 6 ≤ r.2.2 ∧ r.2.2 < 19) := by
  unfold mz_ckM at h
  simp only [Bool.and_eq_true] at h
  obtain ⟨⟨h1, h2⟩, h3⟩ := h
  refine ⟨of_decide_eq_true h1, ?_, ?_, ?_, ?_⟩
  · split at h2
    next => exact Or.inl (mz_wd (of_decide_eq_true h2) rfl)
    next => exact Or.inr (mz_w_in (of_decide_eq_true h2))
  · rintro rfl
    simp only [Bool.and_eq_true] at h3
    obtain ⟨⟨⟨⟨k1, k2⟩, k3⟩, k4⟩, k5⟩ := h3
    exact ⟨of_decide_eq_true k1, mz_wd (of_decide_eq_true k2) rfl, mz_wd (of_decide_eq_true k3) rfl, of_decide_eq_true k4, of_decide_eq_true k5⟩
  · rintro rfl
    simp only [Bool.and_eq_true] at h3
    obtain ⟨k1, k2⟩ := h3
    exact ⟨of_decide_eq_true k1, mz_wd (of_decide_eq_true k2) rfl⟩
  · rintro rfl
    simp only [Bool.and_eq_true] at h3
    obtain ⟨⟨⟨⟨k1, k2⟩, k3⟩, k4⟩, k5⟩ := h3
    exact ⟨of_decide_eq_true k1, mz_wd (of_decide_eq_true k2) rfl, of_decide_eq_true k3, of_decide_eq_true k4, of_decide_eq_true k5⟩
theorem mz_ckB_ok {N : Nat} (hN : N < 291) : Jvm.Cond.code (mz_y N) (mz_b N) (mz_xl N) (mz_rt N) ∈ mz_TB ∧ Jvm.Cond.initialized (mz_y N).cls ∈ mz_TB ∧ plainName (mz_y N).cls = true ∧ mz_cnm (mz_c N) = (mz_y N).cls ∧ mz_xl N ≤ 50 ∧
    ((mz_y N).cls ≠ "java/lang/invoke/MethodHandle" ∧ (mz_y N).cls ≠ "java/lang/invoke/VarHandle") ∧ (parseMethodDescriptor (mz_y N).desc).map (fun d => d.parameters.length) = some (mz_np (mz_y N)) := by
  have h := mz_B_at N hN
  unfold mz_ckB at h
  simp only [Bool.and_eq_true] at h
  obtain ⟨⟨⟨⟨⟨⟨h1, h2⟩, h3⟩, h4⟩, h5⟩, h6⟩, h7⟩ := h
  refine ⟨?_, mz_wd (of_decide_eq_true h2) rfl, h3, of_decide_eq_true h4, Nat.le_of_ble_eq_true h5, of_decide_eq_true h6, ?_⟩
  · split at h1
    next y b n r hw =>
      simp only [Bool.and_eq_true] at h1
      obtain ⟨⟨k1, k2⟩, k3⟩ := h1
      have hb : mz_b N = b := by
        unfold mz_b
        have : Nat.beq N 291 = false := by
          cases hb : Nat.beq N 291 with
          | false => rfl
          | true => have := Nat.eq_of_beq_eq_true hb; omega
        rw [this]
        show mz_wb (mz_w (mz_MM.getD N (0, 0)).1) = b
        rw [hw]
        rfl
      rw [hb, ← of_decide_eq_true k1, ← Nat.eq_of_beq_eq_true k2, ← of_decide_eq_true k3]
      exact mz_wd hw rfl
    next => cases h1
  · unfold mz_np
    cases hp : parseMethodDescriptor (mz_y N).desc with
    | none => rw [hp] at h7; cases h7
    | some d => rfl
def mz_ws (N : Nat) : List Jvm.Cond := Jvm.Cond.code (mz_y N) (mz_b N) (mz_xl N) (mz_rt N) :: mz_TB
theorem mz_ws_good {N : Nat} (hN : N < 291) : GoodIn mz_TB (mz_ws N) := by
  intro w hw
  rcases List.mem_cons.mp hw with rfl | hw
  · exact ⟨(mz_ckB_ok hN).1, good_of_word (mz_TB_good _ (mz_ckB_ok hN).1)⟩
  · exact ⟨hw, good_of_word (mz_TB_good _ hw)⟩
def mz_rm (N d mc ms : Nat) : Room := { frames := mz_hg N + 32 * d + 8, cells := mc, slots := ms, locals := 80 * (mz_hg N + 32 * d + 8) }
def mz_wd2 (g : MzG) (X : MzX) (h : MzH) (U : State) : Prop := mz_hr g X h U U.heap ∧ (∀ w ∈ lw_tbl, mz_nest w = true → va_Nw w U) ∧ (va_AO RX6 U ∧ js_sk g U) ∧ va_K (g.1, g.2.1) mzCl (mz_tys g) U
def mz_Q (g : MzG) (X : MzX) (u : List Value × MzH) : Array Value → State → Outcome → State → Prop := match u.1 with
  | [.int v] => va_Qi (S := Unit) (fun x _ => x = v) (fun _ t => mz_hr g X u.2 t t.heap) (mz_A g)
  | [.long v] => va_Ql (S := Unit) (fun x _ => x = v) (fun _ t => mz_hr g X u.2 t t.heap) (mz_A g)
  | _ => va_Qv (S := Unit) (fun _ => True) (fun _ t => mz_hr g X u.2 t t.heap) (mz_A g)
theorem mz_nest_on {w : Jvm.Cond} (h : mz_nest w = true) : w.onTables = true := by
  cases w <;> first | rfl | (simp [mz_nest] at h; done)
theorem mz_nest_warm {w : Jvm.Cond} (hw : mz_nest w = true) {s U : State} (hW : s.WarmedH U.vm) (h : va_Nw w s) : va_Nw w U := by
  cases w with
  | fieldLinkNest a i b n d hh => exact va_Nw.warmF hW h
  | methodLinkNest a i x hh => exact va_Nw.warmM hW h
  | _ => simp [mz_nest] at hw
theorem mz_wd2_blind (g : MzG) (X : MzX) (h : MzH) (vs : List Value) : FrameBlind (va_Pc vs (mz_wd2 g X h)) := by
  intro a U f mk ⟨q1, q2, q3, q4, q5⟩
  exact ⟨q1, mz_hr_moved (u := U) (U := U.calling f mk a) (Vm.Alike.refl U.vm) q2, fun w h1 h2 => va_Nw.same (mz_nest_on h2) (u := U) rfl (q3 w h1 h2), ⟨va_AO.moved (u := U) (U := U.calling f mk a) (Vm.Alike.refl U.vm) q4.1, js_sk_same (u := U) (U := U.calling f mk a) rfl rfl q4.2⟩, va_K.moved (u := U) (U := U.calling f mk a) (Vm.Alike.refl U.vm) q5⟩
theorem mz_wd2_warm {g : MzG} {X : MzX} {h : MzH} {s U : State} {H : Heap} {locs : List Loc} (hU : U.heap = H) (hW : s.WarmedH U.vm) (hS : va_S (mz_A g) s.heap H locs) (h1 : mz_hr g X h s H) (h2 : ∀ w ∈ lw_tbl, mz_nest w = true → va_Nw w s) (h3 : va_AO RX6 s) (h5 : js_sk g s) (h4 : va_K (g.1, g.2.1) mzCl (mz_tys g) s) : mz_wd2 g X h U :=
  ⟨by rw [hU]; exact mz_hr_moved hW.alike h1, fun w a b => mz_nest_warm b hW (h2 w a b), ⟨h3.moved hW.alike, js_sk_warm hU hW hS h5⟩, h4.moved hW.alike⟩
/-- what is said of a run: from wherever the machine stands so, it comes to its end -/
def mz_Snd (g : MzG) (X : MzX) (l : Launch) (d M pc : Nat) (L : MzL) (st : List Value) (h : MzH) (r : List Value × MzH) : Prop :=
  ∀ (p : Program) (e : Env) (R : Room) (s : State) (m : MethodId) (args : Array Value) (below : List Frame) (meth : Method) (c : Code) (Q : State → Prop) (n0 z0 : Nat), mz_fr g M p R s m args meth c → mz_hg M + 32 * d + 8 ≤ R.frames → 80 * (mz_hg M + 32 * d + 8) ≤ R.locals →
    r.2.1.1.length ≤ R.cells + n0 → mz_sz r.2.1 ≤ R.slots + z0 →
    (∀ (pc' : Nat) (ls : Array Slot) (H : Heap) (locs : List Loc) (cells slots : Nat), decode (mz_b M) pc' = .ok (mz_ri r.1, 1) → mz_hr g X r.2 s H → va_S (mz_A g) s.heap H locs → cells + n0 = r.2.1.1.length → slots + z0 = mz_sz r.2.1 → W p l e R s m args below meth c H locs cells slots Q (F0 m pc' ls (r.1.map (mz_up g)))) →
    mz_K g X M n0 z0 p l e R s m args below meth c Q (pc, L, st, h)
theorem mz_met {g : MzG} {X : MzX} {l : Launch} {d N : Nat} {vs : List Value} {h : MzH} {u : List Value × MzH} (hS : mz_Snd g X l d N 0 (mz_en (mz_xl N) vs) [] h u) (hN : N < 291) (hko : mz_ko (mz_rt N) u.1 = true) (hl : (mz_lc vs).length ≤ mz_xl N) (h1 : h.1.1.length ≤ u.2.1.1.length) (h2 : mz_sz h.1 ≤ mz_sz u.2.1) :
    Met l (mz_y N) (mz_ws N) (mz_rm N d (u.2.1.1.length - h.1.1.length) (mz_sz u.2.1 - mz_sz h.1)) (va_Pc (vs.map (mz_up g)) (mz_wd2 g X h)) (mz_Q g X u) (u.2.1.1.length - h.1.1.length) (mz_sz u.2.1 - mz_sz h.1) (mz_A g) := by
  obtain ⟨b1, b2, b3, b4, b5, b6, b7⟩ := mz_ckB_ok hN
  refine Met.ofW (cc := mz_b N) (maxL := mz_xl N) (ret := mz_rt N) b3 rfl ?_
  intro p e s m args below meth c s₁ B hml hv
  obtain ⟨rfl, q1, q2, q3, q4⟩ := hv
  have hts := atoms_spec (ws := mz_ws N) B.pre
  have F : mz_fr g N p (headSpec (mz_ws N) (mz_rm N d (u.2.1.1.length - h.1.1.length) (mz_sz u.2.1 - mz_sz h.1))).room s m (vs.map (mz_up g)).toArray meth c :=
    ⟨B.exec, B.bytes, hml, by rw [b4]; exact findClass_of_methodNamed B.named, fun w hw => hts w (List.mem_cons_of_mem _ hw), q2, ⟨q3.1, q3.2, by show 4 ≤ mz_hg N + 32 * d + 8; omega, by show 160 ≤ 80 * (mz_hg N + 32 * d + 8); omega⟩, q4, B.notSynchronized, fun hn => by rw [(name_of_methodNamed B.named B.method).1]; exact hn, B.returns, by show 1 ≤ mz_hg N + 32 * d + 8; omega, by show 80 ≤ 80 * (mz_hg N + 32 * d + 8); omega⟩
  rw [lg_entry_eq]
  refine hS p e _ s m _ below meth c _ h.1.1.length (mz_sz h.1) F (Nat.le_refl _) (Nat.le_refl _) (by show _ ≤ u.2.1.1.length - h.1.1.length + _; omega) (by show _ ≤ mz_sz u.2.1 - mz_sz h.1 + _; omega) ?_ _ s.heap [] 0 0 (mz_lr_en hl) q1 va_S.rf (Nat.zero_add _) (Nat.zero_add _)
  intro pc' ls H locs cells slots hd k1 k2 k3 k4
  obtain rfl : cells = u.2.1.1.length - h.1.1.length := by omega
  obtain rfl : slots = mz_sz u.2.1 - mz_sz h.1 := by omega
  have hlocks := B.notSynchronized
  have hB : ∀ t : State, t.heap = H → s.WarmedH t.vm → mz_hr g X u.2 t t.heap := fun t ht hW => by rw [ht]; exact mz_hr_moved hW.alike k1
  obtain ⟨rv, hu⟩ := u
  dsimp only at hko hd hB ⊢
  unfold mz_ko at hko
  split at hko
  next hrt =>
    exact W.vret B.exec B.bytes (by rw [B.returns]; exact hrt) (fun t ht hW => ⟨⟨(), rfl, trivial, hB t ht hW⟩, k2.F ht⟩) k2.2.2 hd
  next v hrt =>
    exact W.iret B.exec B.bytes (by rw [B.returns]; exact hrt) (fun t ht hW => ⟨⟨v, (), rfl, rfl, hB t ht hW⟩, k2.F ht⟩) k2.2.2 hd
  next v hrt =>
    have hv := of_decide_eq_true hko
    exact W.zret (ty := .boolean) B.exec B.bytes (by rw [B.returns]; exact hrt) (by rcases hv with rfl | rfl <;> decide) (fun t ht hW => ⟨⟨v, (), rfl, rfl, hB t ht hW⟩, k2.F ht⟩) k2.2.2 hd
  next v hrt =>
    exact W.lret B.exec B.bytes (by rw [B.returns]; exact hrt) (fun t ht hW => ⟨⟨v, (), rfl, rfl, hB t ht hW⟩, k2.F ht⟩) k2.2.2 hd
  next => cases hko
