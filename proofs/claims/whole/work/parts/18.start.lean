/-! THE CLAIM OUT OF ONE WALK OF THE LAW'S BODY. Your part is whole_start (and what it stands on); all else here is the same for every law, but numbers. -/
def R_law : String := "MincedCasesLaw"
def lw_P (b : Addr) (xs : List Int32) (args : Array Value) (s : State) : Prop := args = #[.ref b] ∧ s.IntsAt b xs ∧ xs.length ≤ 3072 ∧ (Jvm.Cond.and given_1 narrow_1).before args s = true
def lw_Q (_ : Array Value) (s : State) (o : Outcome) (t : State) : Prop := o = .returned (some (.int 1)) ∧ Framed s o t [] 600000 7302250
def lw_Z (below : List Frame) (a : Array Value) (s : State) : State → Prop := fun t => ∃ o, t.status = .running ∧ Ended t below o ∧ lw_Q a s o t
/-- the law's own end, with 1 on the stack, nothing written that was there before, its room as the claim has it -/
theorem lw_ret {p : Program} {l : Launch} {e : Env} {s : State} {m : MethodId} {below : List Frame} {meth : Method} {c : Code} {b : Nat} (hx : p.tables.exec = Jvm.exec) (hb : c.code = code) (hr : meth.sig.returnType = ret) (hlocks : meth.locks = false) {pc : Nat} {H : Heap} {ls : Array Slot} (hdg : decode code pc = .ok (.ireturn, 1)) : W p l e room_1 s m #[Value.ref b] below meth c H [] 600000 7302250 (lw_Z below #[Value.ref b] s) (F0 m pc ls [.int 1]) := by
  intro T hT X
  obtain ⟨fs, hret, hrun, hended, hW, hframe⟩ := X.leave (v := some (.int 1)) (hlocks := hlocks) (fun h => by rw [hr] at h; cases h)
  have hmeth' : T.vm.method? m = some meth := X.method'
  refine ⟨T.setFrames fs, ?_, .returned (some (.int 1)), hrun, hended, rfl, ⟨_, rfl⟩, hW, hframe⟩
  jvm_step X.here [X.here.top, hx, hb, hdg, hmeth', hr, ret, narrow_b1]
  (try refine ⟨rfl, ?_⟩); (try refine ⟨rfl, ?_⟩)
  first | (intro acts; rw [hret _ acts rfl rfl rfl]) | rw [hret _ _ rfl rfl rfl]
  exact Steps.refl _
/-- what holds at the law's entry: the machine, the code, the tables' words (any of lw_tbl by 'hts w (by decide +kernel)'), the script of L ints xs at the cell b, what the Statement gives of the start (any of its parts by flat_of_before) -/
def lw_At (p : Program) (s : State) (m : MethodId) (meth : Method) (c : Code) (b L : Nat) (xs : Nat → Int32) : Prop :=
  p.tables.exec = Jvm.exec ∧ c.code = code ∧ meth.sig.returnType = ret ∧ c.maxLocals = 4 ∧ s.vm.findClass R_law = some m.cls ∧ (∀ w ∈ lw_tbl, w.before #[Value.ref b] s = true) ∧ va_X b L xs s s.heap ∧ b < s.heap.size ∧ meth.locks = false ∧ (Jvm.Cond.and given_1 narrow_1).before #[Value.ref b] s = true
theorem mz_w_inst {ci : Nat} {r : vw_C} (h : mzCl[ci]? = some r) : Jvm.Cond.instantiable r.1 r.2.2 ∈ mz_TB := by
  have hl : ci < 13 := (List.getElem?_eq_some_iff.mp h).1
  rcases (show ci = 0 ∨ ci = 1 ∨ ci = 2 ∨ ci = 3 ∨ ci = 4 ∨ ci = 5 ∨ ci = 6 ∨ ci = 7 ∨ ci = 8 ∨ ci = 9 ∨ ci = 10 ∨ ci = 11 ∨ ci = 12 by omega) with rfl | rfl | rfl | rfl | rfl | rfl | rfl | rfl | rfl | rfl | rfl | rfl | rfl
  · cases h; exact mz_wd (i := 2092) (by decide +kernel) rfl
  · cases h; exact mz_wd (i := 2032) (by decide +kernel) rfl
  · cases h; exact mz_wd (i := 1053) (by decide +kernel) rfl
  · cases h; exact mz_wd (i := 1214) (by decide +kernel) rfl
  · cases h; exact mz_wd (i := 1155) (by decide +kernel) rfl
  · cases h; exact mz_wd (i := 2052) (by decide +kernel) rfl
  · cases h; exact mz_wd (i := 1227) (by decide +kernel) rfl
  · cases h; exact mz_wd (i := 1031) (by decide +kernel) rfl
  · cases h; exact mz_wd (i := 1047) (by decide +kernel) rfl
  · cases h; exact mz_wd (i := 1161) (by decide +kernel) rfl
  · cases h; exact mz_wd (i := 2108) (by decide +kernel) rfl
  · cases h; exact mz_wd (i := 1023) (by decide +kernel) rfl
  · cases h; exact mz_wd (i := 5226) (by decide +kernel) rfl
def mz_h0 : MzH := (([(99, 0)], fun _ _ => none), (fun _ _ => 0, fun _ _ => 0))
theorem mz_291a : mz_xl 291 = 4 := by decide +kernel
theorem mz_291b : mz_cnm (mz_c 291) = R_law := by decide +kernel
theorem mz_291c : mz_rt 291 = ret := by decide +kernel
theorem mz_291d : mz_hg 291 = 11 := by decide +kernel
theorem mz_291e : ¬ (mz_y 291).name = "<init>" := by decide +kernel
theorem mz_291f : mz_b 291 = code := rfl
/-- the classes and array classes that the tables know -/
theorem mz_start_K {s : State} {args : Array Value} (hts : ∀ w ∈ lw_tbl, w.before args s = true) : ∃ (dC : Nat → ClassId) (dI : Nat → Nat → Nat) (dA : Nat → ClassId), ∀ sp : Nat → Nat, ∀ base : Nat, va_K (dC, dI) mzCl (mz_tys (dC, dI, dA, sp, base)) s := by
  have htb : ∀ w ∈ mz_TB, w.before args s = true := fun w hw => hts w (List.mem_filter.mp hw).1
  have h0 : ∀ k : Nat, ∃ q : ClassId × (Nat → Nat), ∀ r, mzCl[k]? = some r → u_Kn s r.1 r.2.1 r.2.2 q.1 q.2 := by
    intro k
    cases hk : mzCl[k]? with
    | none => exact ⟨(0, fun _ => 0), fun r h => by cases h⟩
    | some r =>
      obtain ⟨cC, iS, h⟩ := u_known (C := r.1) (T := r.2.1) (N := r.2.2) (n := r.2.2) htb (mz_U_in (mz_cls hk).1) (htb _ (mz_w_inst hk))
      exact ⟨(cC, iS), fun r' h' => by cases h'; exact h⟩
  obtain ⟨dd, hdd⟩ := Classical.axiomOfChoice h0
  have arr : ∀ t : ArrayType, mz_atag t < 5 → ∃ cA, ArrOfT s cA (newarray.typeOf t) ∧ s.vm.findClass ("[" ++ (newarray.typeOf t).toString) = some cA := by
    intro t ht
    obtain ⟨cA, kA, comp, h1, h2, h3⟩ := Cond.arrayClass_spec (htb _ (mz_w_arr t ht))
    exact ⟨cA, fun n z => ⟨fun k h => (by cases h), kA, h2, comp, h3⟩, h1⟩
  obtain ⟨a0, a0a, a0b⟩ := arr .int (by decide)
  obtain ⟨a1, a1a, a1b⟩ := arr .boolean (by decide)
  obtain ⟨a2, a2a, a2b⟩ := arr .byte (by decide)
  obtain ⟨a3, a3a, a3b⟩ := arr .short (by decide)
  obtain ⟨a4, a4a, a4b⟩ := arr .long (by decide)
  obtain ⟨comp, a5, k5, c1, -, c3, c4, c5⟩ := Cond.arrayOver_spec (hts _ mz_w_AO)
  refine ⟨fun k => (dd k).1, fun k => (dd k).2, fun t => match t with
    | 0 => a0
    | 1 => a1
    | 2 => a2
    | 3 => a3
    | 4 => a4
    | _ => a5, fun sp base => ⟨fun k r h => hdd k r h, ?_⟩⟩
  intro k q hk
  match k, hk with
  | 0, hk => cases hk; exact ⟨a0a, a0b⟩
  | 1, hk => cases hk; exact ⟨a1a, a1b⟩
  | 2, hk => cases hk; exact ⟨a2a, a2b⟩
  | 3, hk => cases hk; exact ⟨a3a, a3b⟩
  | 4, hk => cases hk; exact ⟨a4a, a4b⟩
  | 5, hk => cases hk; exact ⟨fun n z => ⟨fun k h => (by cases h), k5, c3, comp, c4⟩, k5, comp, c3, c4, c1, c5⟩
  | k + 6, hk => simp [mz_tys] at hk
/-- what is owed of the abstract machine: on every script the law ends with 1, in its room -/
def mz_Law : Prop := ∀ (xs : Nat → Int32) (L : Nat), L ≤ 3072 → ∃ (n : Nat) (h : MzH), mz_ex (some (xs, L)) n 8 291 0 (mz_en 4 [.ref 0]) [] mz_h0 = some ([.int 1], h) ∧ h.1.1.length ≤ 600000 ∧ mz_sz h.1 ≤ 7302250
/-! the text constants at the law's start -/
def js_tm (i : Nat) : Term := match i with
  | 0 => .string "MincedCases$Tokens" 77
  | _ => .string "MincedCases$Tokens" 65
theorem js_e0 : ∀ j : Nat, j < 168 → (flatC (Jvm.Cond.and given_1 narrow_1))[13 + j]? = some (Cond.eq (.elem (.field (.string "MincedCases$Tokens" 77) "java/lang/String" "value" "[B") (.int (Int32.ofNat j))) (.int ((js_byt.getD 0 []).getD j 0))) := by decide +kernel
theorem js_e1 : ∀ j : Nat, j < 9 → (flatC (Jvm.Cond.and given_1 narrow_1))[185 + j]? = some (Cond.eq (.elem (.field (.string "MincedCases$Tokens" 65) "java/lang/String" "value" "[B") (.int (Int32.ofNat j))) (.int ((js_byt.getD 1 []).getD j 0))) := by decide +kernel
theorem mz_start_S {s : State} {args : Array Value} (hts : ∀ w ∈ lw_tbl, w.before args s = true) (hgv : (Jvm.Cond.and given_1 narrow_1).before args s = true) : ∃ (adK adV : Nat → Nat) (fm : Option Nat), js_K (fun q => s.heap.size - 1 < q) adK adV fm s s.heap ∧ (∃ tx, vk_R "MincedCases$Tokens" 77 tx (adK 0) s) ∧ ∃ tx, vk_R "MincedCases$Tokens" 65 tx (adK 1) s := by
  have hs := flat_of_before _ hgv
  have hA : ∀ a : Nat, a < s.heap.size → ¬ (fun q => s.heap.size - 1 < q) a := fun a h z => by
    have z : s.heap.size - 1 < a := z
    omega
  have two : ∀ {P : Nat → Prop}, P 0 → P 1 → ∀ i : Nat, i < 2 → P i := by
    intro P h0 h1 i hi
    rcases (show i = 0 ∨ i = 1 by omega) with rfl | rfl
    · exact h0
    · exact h1
  have hx : ∀ (n : Nat) (w : Cond), (flatC (Jvm.Cond.and given_1 narrow_1))[n]? = some w → w.before args s = true := fun n w h => hs w (List.mem_of_getElem? h)
  obtain ⟨adK, adV, hS, hev⟩ := vk_Sof (args := args) (s := s) (N := 2) (tm := js_tm) (len := js_len) (byt := js_byt) (A := fun q => s.heap.size - 1 < q)
    (two (P := fun i => js_len.getD i 0 < 2 ^ 31) (by decide) (by decide))
    (two (P := fun i => (Cond.exactly (js_tm i) "java/lang/String").before args s = true) (hx 9 _ (by decide +kernel)) (hx 181 _ (by decide +kernel)))
    (two (P := fun i => (Cond.eq (.field (js_tm i) "java/lang/String" "coder" "B") (.int 0)).before args s = true) (hx 10 _ (by decide +kernel)) (hx 182 _ (by decide +kernel)))
    (two (P := fun i => (Cond.arrayOf (.field (js_tm i) "java/lang/String" "value" "[B") .byte).before args s = true) (hx 11 _ (by decide +kernel)) (hx 183 _ (by decide +kernel)))
    (two (P := fun i => (Cond.eq (.length (.field (js_tm i) "java/lang/String" "value" "[B")) (.int (Int32.ofNat (js_len.getD i 0)))).before args s = true) (hx 12 _ (by decide +kernel)) (hx 184 _ (by decide +kernel)))
    (two (P := fun i => ∀ j : Nat, j < js_len.getD i 0 → (Cond.eq (.elem (.field (js_tm i) "java/lang/String" "value" "[B") (.int (Int32.ofNat j))) (.int ((js_byt.getD i []).getD j 0))).before args s = true) (fun j hj => hx (13 + j) _ (js_e0 j hj)) (fun j hj => hx (185 + j) _ (js_e1 j hj)))
    (by
      have hn : (Cond.not (Cond.eq (js_tm 0) (js_tm 1))).before args s = true := hx 194 _ (by decide +kernel)
      intro i j hi hj hij
      rcases (show (i = 0 ∧ j = 1) ∨ (i = 1 ∧ j = 0) by omega) with ⟨rfl, rfl⟩ | ⟨rfl, rfl⟩
      · exact Or.inl hn
      · exact Or.inr hn) hA
  have hz : va_Z "java/lang/String" "COMPACT_STRINGS" "Z" (.int 1) (fun q => s.heap.size - 1 < q) s s.heap :=
    va_Zof (hts _ (mz_w_in (n := 3005) (by decide +kernel))) (hts _ (mz_w_in (n := 1014) (by decide +kernel))) (va_eqi (hx 4 _ (by decide +kernel))) hA
  have hq : va_Zq "jdk/internal/util/Preconditions" "SIOOBE_FORMATTER" "Ljava/util/function/BiFunction;" (fun q => s.heap.size - 1 < q) s s.heap :=
    va_Zqof (hts _ (mz_w_in (n := 3025) (by decide +kernel))) (hts _ (mz_w_in (n := 1016) (by decide +kernel))) (hx 5 _ (by decide +kernel)) hA
  have r1 : ∃ tx, vk_R "MincedCases$Tokens" 77 tx (adK 0) s := ⟨_, vk_R.of (hts _ (mz_w_in (n := 2235) rfl)) (hev 0 (by decide))⟩
  have r2 : ∃ tx, vk_R "MincedCases$Tokens" 65 tx (adK 1) s := ⟨_, vk_R.of (hts _ (mz_w_in (n := 3055) rfl)) (hev 1 (by decide))⟩
  rcases hq with hq | ⟨t, hq⟩
  · exact ⟨adK, adV, none, ⟨hS, hz, hq⟩, r1, r2⟩
  · exact ⟨adK, adV, some t, ⟨hS, hz, hq⟩, r1, r2⟩
def js_sp (b : Nat) (adK : Nat → Nat) (i : Nat) : Nat := match i with
  | 0 => b
  | i + 1 => adK i
theorem mz_whole (hLaw : mz_Law) {p : Program} {e : Env} {s : State} {m : MethodId} {below : List Frame} {meth : Method} {c : Code} (l : Launch) (hflags : l.flags = flags0) {b L : Nat} {xs : Nat → Int32} (hL : L ≤ 3072) (C0 : lw_At p s m meth c b L xs) : W p l e room_1 s m #[Value.ref b] below meth c s.heap [] 0 0 (lw_Z below #[Value.ref b] s) (entryFrame m ([Value.ref b] : List Value).toArray 4) := by
  obtain ⟨hx, hb, hr, hml, hown, hts, hX, hbl, hlocks, hgv⟩ := C0
  obtain ⟨dC, dI, dA, hK⟩ := mz_start_K hts
  obtain ⟨adK, adV, fm, sk1, sk2, sk3⟩ := mz_start_S hts hgv
  have hsk : js_sk (dC, dI, dA, js_sp b adK, s.heap.size - 1) s := ⟨adV, fm, sk1, sk2, sk3⟩
  obtain ⟨n, h, hex, hlen, hsz⟩ := hLaw xs L hL
  have htb : ∀ w ∈ mz_TB, w.before #[Value.ref b] s = true := fun w hw => hts w (List.mem_filter.mp hw).1
  have F : mz_fr (dC, dI, dA, js_sp b adK, s.heap.size - 1) 291 p room_1 s m #[Value.ref b] meth c :=
    ⟨hx, by rw [mz_291f]; exact hb, by rw [mz_291a]; exact hml, by rw [mz_291b]; exact hown, htb, fun w h1 h2 => va_Nw.of (mz_nest_on h2) (hts w h1), ⟨hts _ mz_w_AO, hsk, by decide, by decide⟩, hK _ _, hlocks, fun z => absurd z mz_291e, by rw [mz_291c]; exact hr, by decide, by decide⟩
  have hS := mz_sound (dC, dI, dA, js_sp b adK, s.heap.size - 1) (some (xs, L)) l n 8 291 0 _ _ _ _ hex p e room_1 s m #[Value.ref b] below meth c (lw_Z below #[Value.ref b] s) 1 0 F (by rw [mz_291d]; decide) (by rw [mz_291d]; decide) (by show h.1.1.length ≤ 600000 + 1; omega) (by show mz_sz h.1 ≤ 7302250 + 0; omega) ?_
  · rw [lg_entry_eq]
    have hlr := mz_lr_en (g := (dC, dI, dA, js_sp b adK, s.heap.size - 1)) (vs := [.ref 0]) (n := 4) (by decide)
    refine hS _ s.heap [] 0 0 (by rw [mz_291a]; exact hlr) ⟨?_, ⟨?_, by decide⟩, rfl, ?_, ?_, ?_⟩ va_S.rf rfl rfl
    · show s.heap.size = s.heap.size - 1 + 1
      omega
    · show b ≤ s.heap.size - 1
      omega
    · intro a q ha hq
      match a, hq with
      | 0, _ => exact absurd rfl ha
      | a + 1, hq => cases hq
    · intro a _ i
      exact ⟨rfl, rfl, rfl⟩
    · intro x hx
      cases hx
      exact hX
  · intro pc' ls H locs cells slots hd k1 k2 k3 k4
    refine va_forget (fun q hq => by have : s.heap.size - 1 < q.base := k2.2.2 q hq
                                     omega) ?_
    have k3 : cells + 1 = h.1.1.length := k3
    have k4 : slots + 0 = mz_sz h.1 := k4
    refine W.widen (k := 600000) (n := 7302250) (by omega) (by omega) ?_
    exact lw_ret hx hb hr hlocks (by rw [mz_291f] at hd; exact hd)
