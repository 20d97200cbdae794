/-! one step of the abstract machine is one instruction of the machine -/
theorem mz_nx_inv {pc : Nat} {L : MzL} {st : List Value} {h : MzH} {q : Nat × MzL × List Value × MzH} (H : mz_nx pc L st h = some (.inl q)) : q = (pc, L, st, h) := by
  unfold mz_nx at H
  cases H
  rfl
theorem mz_jp_inv {pc : Nat} {off : Int} {L : MzL} {st : List Value} {h : MzH} {q : Nat × MzL × List Value × MzH} (H : mz_jp pc off L st h = some (.inl q)) : ∃ t : Nat, (pc : Int) + off = (t : Int) ∧ q = (t, L, st, h) := by
  unfold mz_jp mz_tg at H
  by_cases hp : 0 ≤ (pc : Int) + off
  · rw [if_pos hp] at H
    exact ⟨_, (Int.toNat_of_nonneg hp).symm, mz_nx_inv H⟩
  · rw [if_neg hp] at H
    cases H
theorem mz_sto_inv {pc : Nat} {Lo : Option MzL} {st : List Value} {h : MzH} {q : Nat × MzL × List Value × MzH} (H : mz_sto pc Lo st h = some (.inl q)) : ∃ L, Lo = some L ∧ q = (pc, L, st, h) := by
  unfold mz_sto at H
  cases Lo with
  | none => cases H
  | some L => exact ⟨L, rfl, mz_nx_inv H⟩
theorem mz_gl_inv {L : MzL} {i : Nat} {v : Value} (H : mz_gl L i = some v) : L[i]? = some (some v) := by
  unfold mz_gl at H
  split at H
  next w hw => cases H; exact hw
  next => cases H
theorem mz_il_inv {pc i : Nat} {L : MzL} {st : List Value} {h : MzH} {q : Nat × MzL × List Value × MzH} (H : mz_il pc i L st h = some (.inl q)) : ∃ v, L[i]? = some (some (.int v)) ∧ q = (pc, L, .int v :: st, h) := by
  unfold mz_il at H
  split at H
  next v hv => exact ⟨v, mz_gl_inv hv, mz_nx_inv H⟩
  next => cases H
theorem mz_al_inv {pc i : Nat} {L : MzL} {st : List Value} {h : MzH} {q : Nat × MzL × List Value × MzH} (H : mz_al pc i L st h = some (.inl q)) : ∃ v, L[i]? = some (some (.ref v)) ∧ q = (pc, L, .ref v :: st, h) := by
  unfold mz_al at H
  split at H
  next v hv => exact ⟨v, mz_gl_inv hv, mz_nx_inv H⟩
  next => cases H
theorem mz_ll_inv {pc i : Nat} {L : MzL} {st : List Value} {h : MzH} {q : Nat × MzL × List Value × MzH} (H : mz_ll pc i L st h = some (.inl q)) : ∃ v, L[i]? = some (some (.long v)) ∧ q = (pc, L, .long v :: st, h) := by
  unfold mz_ll at H
  split at H
  next v hv => exact ⟨v, mz_gl_inv hv, mz_nx_inv H⟩
  next => cases H
theorem mz_is_inv {pc i : Nat} {L : MzL} {st : List Value} {h : MzH} {q : Nat × MzL × List Value × MzH} (H : mz_is pc i L st h = some (.inl q)) : ∃ v st' L', st = .int v :: st' ∧ mz_sl L i (.int v) = some L' ∧ q = (pc, L', st', h) := by
  unfold mz_is at H
  split at H
  next v st' => obtain ⟨L', h1, h2⟩ := mz_sto_inv H; exact ⟨v, st', L', rfl, h1, h2⟩
  next => cases H
theorem mz_as_inv {pc i : Nat} {L : MzL} {st : List Value} {h : MzH} {q : Nat × MzL × List Value × MzH} (H : mz_as pc i L st h = some (.inl q)) : ∃ v st' L', st = .ref v :: st' ∧ mz_sl L i (.ref v) = some L' ∧ q = (pc, L', st', h) := by
  unfold mz_as at H
  split at H
  next v st' => obtain ⟨L', h1, h2⟩ := mz_sto_inv H; exact ⟨v, st', L', rfl, h1, h2⟩
  next => cases H
theorem mz_ls_inv {pc i : Nat} {L : MzL} {st : List Value} {h : MzH} {q : Nat × MzL × List Value × MzH} (H : mz_ls pc i L st h = some (.inl q)) : ∃ v st' L', st = .long v :: st' ∧ mz_s2 L i (.long v) = some L' ∧ q = (pc, L', st', h) := by
  unfold mz_ls at H
  split at H
  next v st' => obtain ⟨L', h1, h2⟩ := mz_sto_inv H; exact ⟨v, st', L', rfl, h1, h2⟩
  next => cases H
theorem mz_bin_inv {z : Int32 → Int32 → Option Int32} {pc : Nat} {L : MzL} {st : List Value} {h : MzH} {q : Nat × MzL × List Value × MzH} (H : mz_bin z pc L st h = some (.inl q)) : ∃ x y v st', st = .int y :: .int x :: st' ∧ z x y = some v ∧ q = (pc + 1, L, .int v :: st', h) := by
  unfold mz_bin at H
  split at H
  next y x st' =>
    split at H
    next v hv => exact ⟨x, y, v, st', rfl, hv, mz_nx_inv H⟩
    next => cases H
  next => cases H
theorem mz_lbin_inv {z : Int64 → Int64 → Value} {pc : Nat} {L : MzL} {st : List Value} {h : MzH} {q : Nat × MzL × List Value × MzH} (H : mz_lbin z pc L st h = some (.inl q)) : ∃ x y st', st = .long y :: .long x :: st' ∧ q = (pc + 1, L, z x y :: st', h) := by
  unfold mz_lbin at H
  split at H
  next y x st' => exact ⟨x, y, st', rfl, mz_nx_inv H⟩
  next => cases H
theorem mz_un_inv {z : Int32 → Value} {pc : Nat} {L : MzL} {st : List Value} {h : MzH} {q : Nat × MzL × List Value × MzH} (H : mz_un z pc L st h = some (.inl q)) : ∃ x st', st = .int x :: st' ∧ q = (pc + 1, L, z x :: st', h) := by
  unfold mz_un at H
  split at H
  next x st' => exact ⟨x, st', rfl, mz_nx_inv H⟩
  next => cases H
theorem mz_if_inv {c : ClassFile.Cond} {off : Int} {pc : Nat} {x y : Int32} {L : MzL} {st : List Value} {h : MzH} {q : Nat × MzL × List Value × MzH} (H : mz_if c off pc x y L st h = some (.inl q)) : ∃ t : Nat, (pc : Int) + off = (t : Int) ∧ ((mz_cmp c x y = true ∧ q = (t, L, st, h)) ∨ (mz_cmp c x y = false ∧ q = (pc + 3, L, st, h))) := by
  unfold mz_if mz_tg at H
  by_cases hp : 0 ≤ (pc : Int) + off
  · rw [if_pos hp] at H
    dsimp only at H
    cases hc : mz_cmp c x y with
    | true => rw [hc] at H; exact ⟨_, (Int.toNat_of_nonneg hp).symm, Or.inl ⟨rfl, mz_nx_inv H⟩⟩
    | false => rw [hc] at H; exact ⟨_, (Int.toNat_of_nonneg hp).symm, Or.inr ⟨rfl, mz_nx_inv H⟩⟩
  · rw [if_neg hp] at H
    cases H
theorem mz_ok_inv {i : Int32} {n : Nat} (h : mz_ok i n = true) : vp_in i n := by
  unfold mz_ok at h
  simp only [Bool.and_eq_true, Bool.not_eq_true', decide_eq_false_iff_not, decide_eq_true_eq] at h
  rintro (q | q)
  · exact h.1 q
  · omega
theorem mz_ld_inv {t1 t2 pc : Nat} {L : MzL} {st : List Value} {h : MzH} {q : Nat × MzL × List Value × MzH} (H : mz_ld t1 t2 pc L st h = some (.inl q)) : ∃ i a st', st = .int i :: .ref a :: st' ∧ (mz_tag h.1 a = t1 ∨ mz_tag h.1 a = t2) ∧ vp_in i (mz_len h.1 a) ∧ q = (pc + 1, L, .int (h.2.1 a i.toNatClampNeg) :: st', h) := by
  unfold mz_ld at H
  split at H
  next i a st' =>
    split at H
    next hc => exact ⟨i, a, st', rfl, hc.1, mz_ok_inv hc.2, mz_nx_inv H⟩
    next => cases H
  next => cases H
theorem mz_st_inv {t pc : Nat} {f : Int32 → Int32} {L : MzL} {st : List Value} {h : MzH} {q : Nat × MzL × List Value × MzH} (H : mz_st t f pc L st h = some (.inl q)) : ∃ x i a st', st = .int x :: .int i :: .ref a :: st' ∧ mz_tag h.1 a = t ∧ vp_in i (mz_len h.1 a) ∧ q = (pc + 1, L, st', mz_setm h (mz_wr h.2 a i.toNatClampNeg (f x))) := by
  unfold mz_st at H
  split at H
  next x i a st' =>
    split at H
    next hc => exact ⟨x, i, a, st', rfl, hc.1, mz_ok_inv hc.2, mz_nx_inv H⟩
    next => cases H
  next => cases H
/-! the text constants, and what is known of them -/
def jsA : Nat → Prop := fun _ => False
def js_len : List Nat := [168, 9]
def js_byt : List (List Int32) := [mz_sb 1000001, mz_sb 1000002]
def js_K (A : Nat → Prop) (adK adV : Nat → Nat) (fm : Option Nat) (U : State) (H : Heap) : Prop := vk_S 2 js_len js_byt adK adV A U H ∧ va_Z "java/lang/String" "COMPACT_STRINGS" "Z" (.int 1) A U H ∧ va_Z "jdk/internal/util/Preconditions" "SIOOBE_FORMATTER" "Ljava/util/function/BiFunction;" (va_rf fm) A U H
theorem js_K_mv {A : Nat → Prop} {adK adV : Nat → Nat} {fm : Option Nat} {u U : State} {H : Heap} (hvm : u.vm.Alike U.vm) (h : js_K A adK adV fm u H) : js_K A adK adV fm U H := ⟨h.1.moved hvm, h.2.1.moved hvm, h.2.2.moved hvm⟩
theorem js_K_kp {A : Nat → Prop} {adK adV : Nat → Nat} {fm : Option Nat} {U : State} {H H1 : Heap} (h : js_K A adK adV fm U H) (hq : ∀ a : Nat, a < H.size → ¬ A a → H1[a]? = H[a]?) : js_K A adK adV fm U H1 := ⟨h.1.kept hq, h.2.1.kept hq, h.2.2.kept hq⟩
theorem js_K_nr {A B : Nat → Prop} {adK adV : Nat → Nat} {fm : Option Nat} {U : State} {H : Heap} (h : js_K A adK adV fm U H) (hAB : ∀ q, B q → A q) : js_K B adK adV fm U H := ⟨h.1.narrow hAB, h.2.1.narrow hAB, h.2.2.narrow hAB⟩
def js_sk (g : MzG) (s : State) : Prop := ∃ (adV : Nat → Nat) (fm : Option Nat), js_K (mz_A g) (fun i => g.2.2.2.1 (i + 1)) adV fm s s.heap ∧ (∃ tx, vk_R "MincedCases$Tokens" 77 tx (g.2.2.2.1 1) s) ∧ ∃ tx, vk_R "MincedCases$Tokens" 65 tx (g.2.2.2.1 2) s
theorem js_sk_same {g : MzG} {u U : State} (hv : U.vm = u.vm) (hh : U.heap = u.heap) (h : js_sk g u) : js_sk g U := by
  obtain ⟨adV, fm, h1, ⟨t1, h2⟩, ⟨t2, h3⟩⟩ := h
  exact ⟨adV, fm, by rw [hh]; exact js_K_mv (by rw [hv]; exact Vm.Alike.refl u.vm) h1, ⟨t1, h2.same hv⟩, ⟨t2, h3.same hv⟩⟩
theorem js_sk_warm {g : MzG} {s U : State} {H : Heap} {locs : List Loc} (hU : U.heap = H) (hW : s.WarmedH U.vm) (hS : va_S (mz_A g) s.heap H locs) (h : js_sk g s) : js_sk g U := by
  obtain ⟨adV, fm, h1, ⟨t1, h2⟩, ⟨t2, h3⟩⟩ := h
  exact ⟨adV, fm, by rw [hU]; exact js_K_mv hW.alike (js_K_kp h1 hS.2.1), ⟨t1, h2.warm hW⟩, ⟨t2, h3.warm hW⟩⟩
section MzStep
variable {g : MzG} {X : MzX} {M n0 z0 : Nat} {p : Program} {l : Launch} {e : Env} {R : Room} {s : State} {m : MethodId} {args : Array Value} {below : List Frame} {meth : Method} {c : Code} {Q : State → Prop}
/-- what holds in a frame of method M -/
def mz_fr (g : MzG) (M : Nat) (p : Program) (R : Room) (s : State) (m : MethodId) (args : Array Value) (meth : Method) (c : Code) : Prop :=
  p.tables.exec = Jvm.exec ∧ c.code = mz_b M ∧ c.maxLocals = mz_xl M ∧ s.vm.findClass (mz_cnm (mz_c M)) = some m.cls ∧ (∀ w ∈ mz_TB, w.before args s = true) ∧ (∀ w ∈ lw_tbl, mz_nest w = true → va_Nw w s) ∧ (va_AO RX6 s ∧ js_sk g s ∧ 4 ≤ R.frames ∧ 160 ≤ R.locals) ∧
  va_K (g.1, g.2.1) mzCl (mz_tys g) s ∧ meth.locks = false ∧ ((mz_y M).name = "<init>" → meth.name = "<init>") ∧ meth.sig.returnType = mz_rt M ∧ 1 ≤ R.frames ∧ 80 ≤ R.locals
/-- wherever the machine's state is that of the abstract one, it comes to Q -/
def mz_K (g : MzG) (X : MzX) (M n0 z0 : Nat) (p : Program) (l : Launch) (e : Env) (R : Room) (s : State) (m : MethodId) (args : Array Value) (below : List Frame) (meth : Method) (c : Code) (Q : State → Prop) (q : Nat × MzL × List Value × MzH) : Prop :=
  ∀ (ls : Array Slot) (H : Heap) (locs : List Loc) (cells slots : Nat), mz_lr g q.2.1 ls (mz_xl M) → mz_hr g X q.2.2.2 s H → va_S (mz_A g) s.heap H locs → cells + n0 = q.2.2.2.1.1.length → slots + z0 = mz_sz q.2.2.2.1 →
    W p l e R s m args below meth c H locs cells slots Q (F0 m q.1 ls (q.2.2.1.map (mz_up g)))
/-- an array's cell read by its kind -/
theorem mz_arr {h : MzH} {H : Heap} {U : State} {a : Nat} (hh : mz_hr g X h U H) (ha : a ≠ 0) {t : Nat} (ht : mz_tag h.1 a = t) (hlt : t < 4) : va_P (g.1, g.2.1) mzCl [(g.2.2.2.2 + a, .inl (g.2.2.1 t, mz_len h.1 a, .inl (h.2.1 a)))] H := by
  obtain ⟨n, h1, h2⟩ := mz_tag_at ht (by omega)
  have := hh.2.2.2.1 a _ ha h1
  rw [h2]
  intro k q hk
  cases k with
  | zero =>
    cases hk
    rcases (show t = 0 ∨ t = 1 ∨ t = 2 ∨ t = 3 by omega) with rfl | rfl | rfl | rfl <;> exact this
  | succ k => simp at hk
theorem mz_ad_pos {a : Nat} (ha : a ≠ 0) (hl : a < 1000000) : mz_ad g a = g.2.2.2.2 + a := by unfold mz_ad; rw [if_neg ha, if_neg (by omega)]
theorem mz_ne0 {h : MzH} {H : Heap} {U : State} {a t : Nat} (hh : mz_hr g X h U H) (ht : mz_tag h.1 a = t) (hn : t ≠ 99) : a ≠ 0 := by
  intro e
  subst e
  exact hn (ht.symm.trans hh.2.2.1)
/-- storing into an int-like row -/
theorem mz_wr_hr {h : MzH} {H H1 : Heap} {U : State} {a t i : Nat} {v : Int32} (hh : mz_hr g X h U H) (ht : mz_tag h.1 a = t) (hlt : t < 4) (hz : H1.size = H.size) (oq : ∀ p : Nat, p ≠ g.2.2.2.2 + a → H1[p]? = H[p]?)
    (he : H1[g.2.2.2.2 + a]? = some ((vp_cell (g.2.2.1 t) (mz_len h.1 a, .inl (h.2.1 a))).setSlot i (.int v))) : mz_hr g X (mz_setm h (mz_wr h.2 a i v)) U H1 := by
  obtain ⟨n, h1, h2⟩ := mz_tag_at ht (by omega)
  refine mz_hr_upd hh (mz_ne0 hh ht (by omega)) h1 rfl (fun b hb => ⟨?_, rfl, rfl⟩) hz oq ?_
  · funext j
    show (if b = a ∧ j = i then v else h.2.1 b j) = _
    rw [if_neg (fun q => hb q.1)]
  · have key : H1[g.2.2.2.2 + a]? = some (vp_cell (g.2.2.1 t) (n, .inl ((mz_wr h.2 a i v).1 a))) := by
      rw [he, h2, vp_cell_i, vp_cell_i, arrV_store]
      congr 2
      funext j
      show (if j = i then Value.int v else Value.int (h.2.1 a j)) = Value.int (if a = a ∧ j = i then v else h.2.1 a j)
      by_cases hj : j = i
      · rw [if_pos hj, if_pos ⟨rfl, hj⟩]
      · rw [if_neg hj, if_neg (fun q => hj q.2)]
    rcases (show t = 0 ∨ t = 1 ∨ t = 2 ∨ t = 3 by omega) with rfl | rfl | rfl | rfl <;> exact key
theorem mz_S_put {H H1 : Heap} {H0 : Heap} {locs : List Loc} {a k : Nat} (hS : va_S (mz_A g) H0 H locs) (hz : H1.size = H.size) (oq : ∀ p : Nat, p ≠ g.2.2.2.2 + a → H1[p]? = H[p]?) (ha : a ≠ 0) : va_S (mz_A g) H0 H1 (locs ++ [⟨g.2.2.2.2 + a, k⟩]) :=
  hS.put hz oq (show g.2.2.2.2 < g.2.2.2.2 + a by omega)
end MzStep
