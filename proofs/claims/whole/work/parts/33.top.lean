/-- the numbers behind the constructors -/
noncomputable def mz_m0 : MzM := Classical.choose (⟨mz_h2.2, rfl⟩ : ∃ m : MzM, m = mz_h2.2)
theorem mz_m0_eq : mz_m0 = mz_h2.2 := Classical.choose_spec (⟨mz_h2.2, rfl⟩ : ∃ m : MzM, m = mz_h2.2)
theorem mz_h2_eq : mz_h2 = (mz_S0, mz_m0) := by rw [mz_S0_eq, mz_m0_eq]
theorem mz_r1_eq : mz_r1 = some ([], mz_h1) := by
  have h := mz_r1_ok
  unfold mz_h1
  cases hr : mz_r1 with
  | none => rw [hr] at h; cases h
  | some u =>
    have hk := mz_ex_ko none _ _ _ _ _ _ _ _ hr
    rw [show mz_rt 115 = none from by decide +kernel] at hk
    obtain ⟨u1, u2⟩ := u
    rcases mz_ko_kind hk with z | ⟨v, z⟩ | ⟨v, z⟩
    · dsimp only at z
      rw [z]
    · dsimp only at z hk
      rw [z] at hk
      cases hk
    · dsimp only at z hk
      rw [z] at hk
      cases hk
theorem mz_r2_eq : mz_r2 = some ([], mz_h2) := by
  have h := mz_r2_ok
  unfold mz_h2
  cases hr : mz_r2 with
  | none => rw [hr] at h; cases h
  | some u =>
    have hk := mz_ex_ko none _ _ _ _ _ _ _ _ hr
    rw [show mz_rt 173 = none from by decide +kernel] at hk
    obtain ⟨u1, u2⟩ := u
    rcases mz_ko_kind hk with z | ⟨v, z⟩ | ⟨v, z⟩
    · dsimp only at z
      rw [z]
    · dsimp only at z hk
      rw [z] at hk
      cases hk
    · dsimp only at z hk
      rw [z] at hk
      cases hk
theorem mz_tag_new {h : MzH} {t n : Nat} : mz_tag (mz_new h t n).1 h.1.1.length = t := by
  unfold mz_tag mz_new
  simp
theorem lq_callV {x : (Nat → Int32) × Nat} {pc ln : Nat} {L : MzL} {st : List Value} {h h2 : MzH} {r : MzR} {ins : Instr} {rr : Nat × Nat × Nat} {N : Nat} {vs rest : List Value} (he : mz_fd (mz_code 291) pc = some (pc, ins, ln, rr, [])) (hi : mz_act (some x) ins rr pc L st h = some (.inr (.inl (N, vs, rest)))) (hdc : mz_dc 291 N 8 vs = some 8) (hr : mz_run (some x) 8 N vs h = some ([], h2)) (kk : mz_At (some x) 8 291 (pc + 3) L rest h2 = r) : mz_At (some x) 8 291 pc L st h = r := by
  rw [mz_At_cl (some x) he (q := (N, vs, rest)) (by show mz_act (some x) ins rr pc (mz_mask [] L) st h = _; rw [show mz_mask [] L = L from by cases L <;> rfl]; exact hi) hdc, hr]
  show mz_At (some x) 8 291 (pc + 3) (mz_mask [] L) rest h2 = r
  rw [show mz_mask [] L = L from by cases L <;> rfl]
  exact kk
theorem lq_new {x : (Nat → Int32) × Nat} {pc ln i ci n c a : Nat} {L : MzL} {st : List Value} {h : MzH} {r : MzR} (he : mz_fd (mz_code 291) pc = some (pc, .new i, ln, (ci, n, c), [])) (hl : h.1.1.length = a) (ha : a < 900000) (kk : mz_At (some x) 8 291 (pc + 3) L (.ref a :: st) (mz_new h (6 + ci) n) = r) : mz_At (some x) 8 291 pc L st h = r := by
  subst hl
  refine (mz_At_nx (some x) he (q := (pc + 3, L, .ref h.1.1.length :: st, mz_new h (6 + ci) n)) ?_).trans kk
  show (if h.1.1.length < 900000 then mz_nx (pc + 3) (mz_mask [] L) (.ref h.1.1.length :: st) (mz_new h (6 + ci) n) else none) = _
  rw [if_pos ha, show mz_mask [] L = L from by cases L <;> rfl]
  rfl
theorem mz_begin (x : (Nat → Int32) × Nat) : mz_At (some x) 8 291 0 (mz_en 4 [.ref 0]) [] mz_h0 = mz_LW x 0 mz_m0 := by
  show mz_At (some x) 8 291 0 [some (.ref 0), none, none, none] [] mz_h0 = _
  refine (mz_At_nx (some x) (mz_fe (e := (0, .new 7, 13, (11, 14, 0), [])) (by decide +kernel)) (q := (3, [some (.ref 0), none, none, none], [.ref 1], mz_new mz_h0 17 14)) rfl).trans ?_
  show mz_At (some x) 8 291 3 [some (.ref 0), none, none, none] [.ref 1] (mz_new mz_h0 17 14) = _
  refine lq_o (mz_fe (e := (3, .dup, 1, (0, 0, 0), [])) (by decide +kernel)) (pc2 := 4) (L2 := [some (.ref 0), none, none, none]) (st2 := [.ref 1, .ref 1]) rfl ?_
  refine lq_callV (N := 115) (vs := [.ref 1]) (rest := [.ref 1]) (h2 := mz_h1) (mz_fe (e := (4, .invokespecial 9, 240, (115, 1, 17), [])) (by decide +kernel)) (mz_inv_virt (N := 115) (k := 1) (t := 17) (st := [.ref 1, .ref 1]) (rest := [.ref 1]) (b := 1) (vs := []) (h := mz_new mz_h0 17 14) rfl rfl (by decide) (by decide) rfl (by decide)) (mz_dc_lt (n := 1) rfl (by decide +kernel) (by decide +kernel)) ((mz_At_iff (some x)).mpr ⟨4000, mz_ex_lift _ _ _ _ _ _ _ _ mz_r1_eq⟩) ?_
  refine lq_o (mz_fe (e := (7, .astore_n 1, 1, (0, 0, 0), [])) (by decide +kernel)) (pc2 := 8) (L2 := [some (.ref 0), some (.ref 1), none, none]) (st2 := []) rfl ?_
  refine lq_new (mz_fe (e := (8, .new 10, 14, (12, 70, 0), [])) (by decide +kernel)) mz_r1_len (by decide) ?_
  refine lq_o (mz_fe (e := (11, .dup, 1, (0, 0, 0), [])) (by decide +kernel)) (pc2 := 12) (L2 := [some (.ref 0), some (.ref 1), none, none]) (st2 := [.ref 239, .ref 239]) rfl ?_
  refine lq_callV (N := 173) (vs := [.ref 239]) (rest := [.ref 239]) (h2 := mz_h2) (mz_fe (e := (12, .invokespecial 12, 241, (173, 1, 18), [])) (by decide +kernel)) (mz_inv_virt (N := 173) (k := 1) (t := 18) (st := [.ref 239, .ref 239]) (rest := [.ref 239]) (b := 239) (vs := []) (h := mz_new mz_h1 18 70) rfl rfl (by decide) (by decide) (by have := mz_tag_new (h := mz_h1) (t := 18) (n := 70); rw [mz_r1_len] at this; exact this) (by decide)) (mz_dc_lt (n := 1) rfl (by decide +kernel) (by decide +kernel)) ((mz_At_iff (some x)).mpr ⟨4000, mz_ex_lift _ _ _ _ _ _ _ _ mz_r2_eq⟩) ?_
  rw [mz_h2_eq]
  refine lq_o (mz_fe (e := (15, .astore_n 2, 1, (0, 0, 0), [])) (by decide +kernel)) (pc2 := 16) (L2 := [some (.ref 0), some (.ref 1), some (.ref 239), none]) (st2 := []) rfl ?_
  refine lq_o (mz_fe (e := (16, .iconst 0, 1, (0, 0, 0), [])) (by decide +kernel)) (pc2 := 17) (L2 := [some (.ref 0), some (.ref 1), some (.ref 239), none]) (st2 := [.int (nI 0)]) rfl ?_
  exact lq_o (mz_fe (e := (17, .istore_n 3, 1, (0, 0, 0), [])) (by decide +kernel)) (pc2 := 18) (L2 := [some (.ref 0), some (.ref 1), some (.ref 239), some (.int (nI 0))]) (st2 := []) rfl rfl
/-- both answer feed alike, and stay alike: behind n calls -/
def mz_o_feed (I : Nat → MzM → Prop) : Prop := ∀ (n : Nat) (m : MzM) (a0 a1 a2 a3 a4 : Int32), n < 512 → I n m → ∃ v m1 m2, R_X11_feed 8 a0 a1 a2 a3 a4 m = some (v, m1) ∧ R_X12_feed 8 a0 a1 a2 a3 a4 m1 = some (v, m2) ∧ I (n + 1) m2
/-- both answer back alike, and stay alike: behind n calls -/
def mz_o_back (I : Nat → MzM → Prop) : Prop := ∀ (n : Nat) (m : MzM) (a0 : Int32), n < 512 → I n m → ∃ v m1 m2, R_X11_back 8 a0 m = some (v, m1) ∧ R_X12_back 8 a0 m1 = some (v, m2) ∧ I (n + 1) m2
/-- both answer read alike, and stay alike: behind n calls -/
def mz_o_read (I : Nat → MzM → Prop) : Prop := ∀ (n : Nat) (m : MzM), n < 512 → I n m → ∃ v m1 m2, R_X11_read 8  m = some (v, m1) ∧ R_X12_read 8  m1 = some (v, m2) ∧ I (n + 1) m2
/-- both answer place alike, and stay alike: behind n calls -/
def mz_o_place (I : Nat → MzM → Prop) : Prop := ∀ (n : Nat) (m : MzM), n < 512 → I n m → ∃ v m1 m2, R_X11_place 8  m = some (v, m1) ∧ R_X12_place 8  m1 = some (v, m2) ∧ I (n + 1) m2
/-- both answer person alike, and stay alike: behind n calls -/
def mz_o_person (I : Nat → MzM → Prop) : Prop := ∀ (n : Nat) (m : MzM) (a0 a1 : Int32), n < 512 → I n m → ∃ v m1 m2, R_X11_person 8 a0 a1 m = some (v, m1) ∧ R_X12_person 8 a0 a1 m1 = some (v, m2) ∧ I (n + 1) m2
/-- both answer screw alike, and stay alike: behind n calls -/
def mz_o_screw (I : Nat → MzM → Prop) : Prop := ∀ (n : Nat) (m : MzM) (a0 : Int32), n < 512 → I n m → ∃ v m1 m2, R_X11_screw 8 a0 m = some (v, m1) ∧ R_X12_screw 8 a0 m1 = some (v, m2) ∧ I (n + 1) m2
/-- both answer suit alike, and stay alike: behind n calls -/
def mz_o_suit (I : Nat → MzM → Prop) : Prop := ∀ (n : Nat) (m : MzM) (a0 a1 : Int32), n < 512 → I n m → ∃ v m1 m2, R_X11_suit 8 a0 a1 m = some (v, m1) ∧ R_X12_suit 8 a0 a1 m1 = some (v, m2) ∧ I (n + 1) m2
/-- both answer tells alike, and stay alike: behind n calls -/
def mz_o_tells (I : Nat → MzM → Prop) : Prop := ∀ (n : Nat) (m : MzM) (a0 a1 a2 : Int32), n < 512 → I n m → ∃ v m1 m2, R_X11_tells 8 a0 a1 a2 m = some (v, m1) ∧ R_X12_tells 8 a0 a1 a2 m1 = some (v, m2) ∧ I (n + 1) m2
/-- both answer put alike, and stay alike: behind n calls -/
def mz_o_put (I : Nat → MzM → Prop) : Prop := ∀ (n : Nat) (m : MzM) (a0 a1 : Int32), n < 512 → I n m → ∃ v m1 m2, R_X11_put 8 a0 a1 m = some (v, m1) ∧ R_X12_put 8 a0 a1 m1 = some (v, m2) ∧ I (n + 1) m2
/-- both answer bread alike, and stay alike: behind n calls -/
def mz_o_bread (I : Nat → MzM → Prop) : Prop := ∀ (n : Nat) (m : MzM) (a0 a1 : Int32), n < 512 → I n m → ∃ v m1 m2, R_X11_bread 8 a0 a1 m = some (v, m1) ∧ R_X12_bread 8 a0 a1 m1 = some (v, m2) ∧ I (n + 1) m2
/-- both answer plate alike, and stay alike: behind n calls -/
def mz_o_plate (I : Nat → MzM → Prop) : Prop := ∀ (n : Nat) (m : MzM) (a0 : Int32), n < 512 → I n m → ∃ v m1 m2, R_X11_plate 8 a0 m = some (v, m1) ∧ R_X12_plate 8 a0 m1 = some (v, m2) ∧ I (n + 1) m2
/-- both answer wash alike, and stay alike: behind n calls -/
def mz_o_wash (I : Nat → MzM → Prop) : Prop := ∀ (n : Nat) (m : MzM), n < 512 → I n m → ∃ v m1 m2, R_X11_wash 8  m = some (v, m1) ∧ R_X12_wash 8  m1 = some (v, m2) ∧ I (n + 1) m2
/-- both answer days alike, and stay alike: behind n calls -/
def mz_o_days (I : Nat → MzM → Prop) : Prop := ∀ (n : Nat) (m : MzM) (a0 : Int32), n < 512 → I n m → ∃ v m1 m2, R_X11_days 8 a0 m = some (v, m1) ∧ R_X12_days 8 a0 m1 = some (v, m2) ∧ I (n + 1) m2
/-- both answer undo alike, and stay alike: behind n calls -/
def mz_o_undo (I : Nat → MzM → Prop) : Prop := ∀ (n : Nat) (m : MzM), n < 512 → I n m → ∃ v m1 m2, R_X11_undo 8  m = some (v, m1) ∧ R_X12_undo 8  m1 = some (v, m2) ∧ I (n + 1) m2
/-- both answer calm alike, and stay alike: behind n calls -/
def mz_o_calm (I : Nat → MzM → Prop) : Prop := ∀ (n : Nat) (m : MzM) (a0 : Int32), n < 512 → I n m → ∃ v m1 m2, R_X11_calm 8 a0 m = some (v, m1) ∧ R_X12_calm 8 a0 m1 = some (v, m2) ∧ I (n + 1) m2
/-- both answer rich alike, and stay alike: behind n calls -/
def mz_o_rich (I : Nat → MzM → Prop) : Prop := ∀ (n : Nat) (m : MzM) (a0 a1 a2 a3 : Int32), n < 512 → I n m → ∃ v m1 m2, R_X11_rich 8 a0 a1 a2 a3 m = some (v, m1) ∧ R_X12_rich 8 a0 a1 a2 a3 m1 = some (v, m2) ∧ I (n + 1) m2
/-- both answer alike alike, and stay alike: behind n calls -/
def mz_o_alike (I : Nat → MzM → Prop) : Prop := ∀ (n : Nat) (m : MzM) (a0 a1 a2 : Int32), n < 512 → I n m → ∃ v m1 m2, R_X11_alike 8 a0 a1 a2 m = some (v, m1) ∧ R_X12_alike 8 a0 a1 a2 m1 = some (v, m2) ∧ I (n + 1) m2
/-- both answer best alike, and stay alike: behind n calls -/
def mz_o_best (I : Nat → MzM → Prop) : Prop := ∀ (n : Nat) (m : MzM) (a0 : Int32), n < 512 → I n m → ∃ v m1 m2, R_X11_best 8 a0 m = some (v, m1) ∧ R_X12_best 8 a0 m1 = some (v, m2) ∧ I (n + 1) m2
/-- both answer gain alike, and stay alike: behind n calls -/
def mz_o_gain (I : Nat → MzM → Prop) : Prop := ∀ (n : Nat) (m : MzM) (a0 a1 a2 : Int32), n < 512 → I n m → ∃ v m1 m2, R_X11_gain 8 a0 a1 a2 m = some (v, m1) ∧ R_X12_gain 8 a0 a1 a2 m1 = some (v, m2) ∧ I (n + 1) m2
/-- both answer plates alike, and stay alike: behind n calls -/
def mz_o_plates (I : Nat → MzM → Prop) : Prop := ∀ (n : Nat) (m : MzM) (a0 a1 a2 : Int32), n < 512 → I n m → ∃ v m1 m2, R_X11_plates 8 a0 a1 a2 m = some (v, m1) ∧ R_X12_plates 8 a0 a1 a2 m1 = some (v, m2) ∧ I (n + 1) m2
/-- both answer crumbs alike, and stay alike: behind n calls -/
def mz_o_crumbs (I : Nat → MzM → Prop) : Prop := ∀ (n : Nat) (m : MzM) (a0 a1 a2 a3 : Int32), n < 512 → I n m → ∃ v m1 m2, R_X11_crumbs 8 a0 a1 a2 a3 m = some (v, m1) ∧ R_X12_crumbs 8 a0 a1 a2 a3 m1 = some (v, m2) ∧ I (n + 1) m2
/-- both answer poorest alike, and stay alike: behind n calls -/
def mz_o_poorest (I : Nat → MzM → Prop) : Prop := ∀ (n : Nat) (m : MzM) (a0 : Int32), n < 512 → I n m → ∃ v m1 m2, R_X11_poorest 8 a0 m = some (v, m1) ∧ R_X12_poorest 8 a0 m1 = some (v, m2) ∧ I (n + 1) m2
/-- both answer foes alike, and stay alike: behind n calls -/
def mz_o_foes (I : Nat → MzM → Prop) : Prop := ∀ (n : Nat) (m : MzM) (a0 : Int32), n < 512 → I n m → ∃ v m1 m2, R_X11_foes 8 a0 m = some (v, m1) ∧ R_X12_foes 8 a0 m1 = some (v, m2) ∧ I (n + 1) m2
/-- both answer peace alike, and stay alike: behind n calls -/
def mz_o_peace (I : Nat → MzM → Prop) : Prop := ∀ (n : Nat) (m : MzM) (a0 : Int32), n < 512 → I n m → ∃ v m1 m2, R_X11_peace 8 a0 m = some (v, m1) ∧ R_X12_peace 8 a0 m1 = some (v, m2) ∧ I (n + 1) m2
/-- both answer paired alike, and stay alike: behind n calls -/
def mz_o_paired (I : Nat → MzM → Prop) : Prop := ∀ (n : Nat) (m : MzM) (a0 : Int32), n < 512 → I n m → ∃ v m1 m2, R_X11_paired 8 a0 m = some (v, m1) ∧ R_X12_paired 8 a0 m1 = some (v, m2) ∧ I (n + 1) m2
/-- both answer most alike, and stay alike: behind n calls -/
def mz_o_most (I : Nat → MzM → Prop) : Prop := ∀ (n : Nat) (m : MzM) (a0 a1 : Int32), n < 512 → I n m → ∃ v m1 m2, R_X11_most 8 a0 a1 m = some (v, m1) ∧ R_X12_most 8 a0 a1 m1 = some (v, m2) ∧ I (n + 1) m2
/-- both answer likest alike, and stay alike: behind n calls -/
def mz_o_likest (I : Nat → MzM → Prop) : Prop := ∀ (n : Nat) (m : MzM) (a0 : Int32), n < 512 → I n m → ∃ v m1 m2, R_X11_likest 8 a0 m = some (v, m1) ∧ R_X12_likest 8 a0 m1 = some (v, m2) ∧ I (n + 1) m2
/-- both answer fair alike, and stay alike: behind n calls -/
def mz_o_fair (I : Nat → MzM → Prop) : Prop := ∀ (n : Nat) (m : MzM) (a0 : Int32), n < 512 → I n m → ∃ v m1 m2, R_X11_fair 8 a0 m = some (v, m1) ∧ R_X12_fair 8 a0 m1 = some (v, m2) ∧ I (n + 1) m2
/-- both answer ends alike, and stay alike: behind n calls -/
def mz_o_ends (I : Nat → MzM → Prop) : Prop := ∀ (n : Nat) (m : MzM), n < 512 → I n m → ∃ v m1 m2, R_X11_ends 8  m = some (v, m1) ∧ R_X12_ends 8  m1 = some (v, m2) ∧ I (n + 1) m2
/-- both answer bill alike, and stay alike: behind n calls -/
def mz_o_bill (I : Nat → MzM → Prop) : Prop := ∀ (n : Nat) (m : MzM) (a0 : Int32), n < 512 → I n m → ∃ v m1 m2, R_X11_bill 8 a0 m = some (v, m1) ∧ R_X12_bill 8 a0 m1 = some (v, m2) ∧ I (n + 1) m2
/-- both answer then alike, and stay alike: behind n calls -/
def mz_o_then (I : Nat → MzM → Prop) : Prop := ∀ (n : Nat) (m : MzM) (a0 a1 a2 : Int32), n < 512 → I n m → ∃ v m1 m2, R_X11_then 8 a0 a1 a2 m = some (v, m1) ∧ R_X12_then 8 a0 a1 a2 m1 = some (v, m2) ∧ I (n + 1) m2
/-- both answer foesIn alike, and stay alike: behind n calls -/
def mz_o_foesIn (I : Nat → MzM → Prop) : Prop := ∀ (n : Nat) (m : MzM) (a0 a1 : Int32), n < 512 → I n m → ∃ v m1 m2, R_X11_foesIn 8 a0 a1 m = some (v, m1) ∧ R_X12_foesIn 8 a0 a1 m1 = some (v, m2) ∧ I (n + 1) m2
/-- both answer turnsIn alike, and stay alike: behind n calls -/
def mz_o_turnsIn (I : Nat → MzM → Prop) : Prop := ∀ (n : Nat) (m : MzM) (a0 : Int32), n < 512 → I n m → ∃ v m1 m2, R_X11_turnsIn 8 a0 m = some (v, m1) ∧ R_X12_turnsIn 8 a0 m1 = some (v, m2) ∧ I (n + 1) m2
/-- both answer year alike, and stay alike: behind n calls -/
def mz_o_year (I : Nat → MzM → Prop) : Prop := ∀ (n : Nat) (m : MzM) (a0 a1 a2 a3 : Int32), n < 512 → I n m → ∃ v m1 m2, R_X11_year 8 a0 a1 a2 a3 m = some (v, m1) ∧ R_X12_year 8 a0 a1 a2 a3 m1 = some (v, m2) ∧ I (n + 1) m2
/-- both answer tell alike, and stay alike: behind n calls -/
def mz_o_tell (I : Nat → MzM → Prop) : Prop := ∀ (n : Nat) (m : MzM) (a0 a1 a2 a3 : Int32), n < 512 → I n m → (a3 = 0 ∨ a3 = 1) → ∃ v m1 m2, R_X11_tell 8 a0 a1 a2 a3 m = some (v, m1) ∧ R_X12_tell 8 a0 a1 a2 a3 m1 = some (v, m2) ∧ I (n + 1) m2
/-- both answer forget alike, and stay alike: behind n calls -/
def mz_o_forget (I : Nat → MzM → Prop) : Prop := ∀ (n : Nat) (m : MzM), n < 512 → I n m → ∃ v m1 m2, R_X11_forget 8  m = some (v, m1) ∧ R_X12_forget 8  m1 = some (v, m2) ∧ I (n + 1) m2
/-- both answer two alike, and stay alike: behind n calls -/
def mz_o_two (I : Nat → MzM → Prop) : Prop := ∀ (n : Nat) (m : MzM) (a0 a1 : Int32), n < 512 → I n m → ∃ v m1 m2, R_X11_two 8 a0 a1 m = some (v, m1) ∧ R_X12_two 8 a0 a1 m1 = some (v, m2) ∧ I (n + 1) m2
/-- both answer ask alike, and stay alike: behind n calls -/
def mz_o_ask (I : Nat → MzM → Prop) : Prop := ∀ (n : Nat) (m : MzM) (a0 a1 : Int32), n < 512 → I n m → ∃ v m1 m2, R_X11_ask 8 a0 a1 m = some (v, m1) ∧ R_X12_ask 8 a0 a1 m1 = some (v, m2) ∧ I (n + 1) m2
/-- both answer hold alike, and stay alike: behind n calls -/
def mz_o_hold (I : Nat → MzM → Prop) : Prop := ∀ (n : Nat) (m : MzM) (a0 : Int32), n < 512 → I n m → ∃ v m1 m2, R_X11_hold 8 a0 m = some (v, m1) ∧ R_X12_hold 8 a0 m1 = some (v, m2) ∧ I (n + 1) m2
/-- both answer restore alike, and stay alike: behind n calls -/
def mz_o_restore (I : Nat → MzM → Prop) : Prop := ∀ (n : Nat) (m : MzM) (a0 : Int32), n < 512 → I n m → ∃ v m1 m2, R_X11_restore 8 a0 m = some (v, m1) ∧ R_X12_restore 8 a0 m1 = some (v, m2) ∧ I (n + 1) m2
/-- both answer count alike, and stay alike: behind n calls -/
def mz_o_count (I : Nat → MzM → Prop) : Prop := ∀ (n : Nat) (m : MzM) (a0 : Int32), n < 512 → I n m → ∃ v m1 m2, R_X11_count 8 a0 m = some (v, m1) ∧ R_X12_count 8 a0 m1 = some (v, m2) ∧ I (n + 1) m2
/-- IT IS ENOUGH: an invariant I of n calls, that holds at first, is kept by a call that is none, and by each pair of calls with one answer -/
theorem mz_law_of (I : Nat → MzM → Prop) (h0 : I 0 mz_m0) (hs : ∀ n m, n < 512 → I n m → I (n + 1) m) (h_feed : mz_o_feed I) (h_back : mz_o_back I) (h_read : mz_o_read I) (h_place : mz_o_place I) (h_person : mz_o_person I) (h_screw : mz_o_screw I) (h_suit : mz_o_suit I) (h_tells : mz_o_tells I) (h_put : mz_o_put I) (h_bread : mz_o_bread I) (h_plate : mz_o_plate I) (h_wash : mz_o_wash I) (h_days : mz_o_days I) (h_undo : mz_o_undo I) (h_calm : mz_o_calm I) (h_rich : mz_o_rich I) (h_alike : mz_o_alike I) (h_best : mz_o_best I) (h_gain : mz_o_gain I) (h_plates : mz_o_plates I) (h_crumbs : mz_o_crumbs I) (h_poorest : mz_o_poorest I) (h_foes : mz_o_foes I) (h_peace : mz_o_peace I) (h_paired : mz_o_paired I) (h_most : mz_o_most I) (h_likest : mz_o_likest I) (h_fair : mz_o_fair I) (h_ends : mz_o_ends I) (h_bill : mz_o_bill I) (h_then : mz_o_then I) (h_foesIn : mz_o_foesIn I) (h_turnsIn : mz_o_turnsIn I) (h_year : mz_o_year I) (h_tell : mz_o_tell I) (h_forget : mz_o_forget I) (h_two : mz_o_two I) (h_ask : mz_o_ask I) (h_hold : mz_o_hold I) (h_restore : mz_o_restore I) (h_count : mz_o_count I) : mz_Law := by
  intro xs L hL
  have key : ∀ (f k : Nat) (m : MzM), L < k + 6 * f → k ≤ L → I (k / 6) m → k % 6 = 0 → ∃ m2, mz_LW (xs, L) k m = some ([.int 1], (mz_S0, m2)) := by
    intro f
    induction f with
    | zero => intro k m h1 h2; omega
    | succ f ih =>
      intro k m h1 h2 hI h6
      by_cases hk : k + 6 ≤ L
      · have nx : ∀ m2, I (k / 6 + 1) m2 → ∃ m3, mz_LW (xs, L) (k + 6) m2 = some ([.int 1], (mz_S0, m3)) := fun m2 hi => by
          by_cases hk2 : k + 6 ≤ L
          · exact ih (k + 6) m2 (by omega) hk2 (by rw [show (k + 6) / 6 = k / 6 + 1 by omega]; exact hi) (by omega)
          · omega
        by_cases c0 : xs k &&& 63 = 0
        · obtain ⟨v, m1, m2, e1, e2, e3⟩ := h_feed (k / 6) m (xs (k + 1)) (xs (k + 2)) (xs (k + 3)) (xs (k + 4)) (xs (k + 5)) (by omega) hI
          rw [law_feed (x := (xs, L)) hL hk c0 e1 e2]
          exact nx m2 e3
        by_cases c1 : xs k &&& 63 = 1
        · obtain ⟨v, m1, m2, e1, e2, e3⟩ := h_back (k / 6) m (xs (k + 1)) (by omega) hI
          rw [law_back (x := (xs, L)) hL hk c1 e1 e2]
          exact nx m2 e3
        by_cases c2 : xs k &&& 63 = 2
        · obtain ⟨v, m1, m2, e1, e2, e3⟩ := h_read (k / 6) m  (by omega) hI
          rw [law_read (x := (xs, L)) hL hk c2 e1 e2]
          exact nx m2 e3
        by_cases c3 : xs k &&& 63 = 3
        · obtain ⟨v, m1, m2, e1, e2, e3⟩ := h_place (k / 6) m  (by omega) hI
          rw [law_place (x := (xs, L)) hL hk c3 e1 e2]
          exact nx m2 e3
        by_cases c4 : xs k &&& 63 = 4
        · obtain ⟨v, m1, m2, e1, e2, e3⟩ := h_person (k / 6) m (xs (k + 1)) (xs (k + 2)) (by omega) hI
          rw [law_person (x := (xs, L)) hL hk c4 e1 e2]
          exact nx m2 e3
        by_cases c5 : xs k &&& 63 = 5
        · obtain ⟨v, m1, m2, e1, e2, e3⟩ := h_screw (k / 6) m (xs (k + 1)) (by omega) hI
          rw [law_screw (x := (xs, L)) hL hk c5 e1 e2]
          exact nx m2 e3
        by_cases c6 : xs k &&& 63 = 6
        · obtain ⟨v, m1, m2, e1, e2, e3⟩ := h_suit (k / 6) m (xs (k + 1)) (xs (k + 2)) (by omega) hI
          rw [law_suit (x := (xs, L)) hL hk c6 e1 e2]
          exact nx m2 e3
        by_cases c7 : xs k &&& 63 = 7
        · obtain ⟨v, m1, m2, e1, e2, e3⟩ := h_tells (k / 6) m (xs (k + 1)) (xs (k + 2)) (xs (k + 3)) (by omega) hI
          rw [law_tells (x := (xs, L)) hL hk c7 e1 e2]
          exact nx m2 e3
        by_cases c8 : xs k &&& 63 = 8
        · obtain ⟨v, m1, m2, e1, e2, e3⟩ := h_put (k / 6) m (xs (k + 1)) (xs (k + 2)) (by omega) hI
          rw [law_put (x := (xs, L)) hL hk c8 e1 e2]
          exact nx m2 e3
        by_cases c9 : xs k &&& 63 = 9
        · obtain ⟨v, m1, m2, e1, e2, e3⟩ := h_bread (k / 6) m (xs (k + 1)) (xs (k + 2)) (by omega) hI
          rw [law_bread (x := (xs, L)) hL hk c9 e1 e2]
          exact nx m2 e3
        by_cases c10 : xs k &&& 63 = 10
        · obtain ⟨v, m1, m2, e1, e2, e3⟩ := h_plate (k / 6) m (xs (k + 1)) (by omega) hI
          rw [law_plate (x := (xs, L)) hL hk c10 e1 e2]
          exact nx m2 e3
        by_cases c11 : xs k &&& 63 = 11
        · obtain ⟨v, m1, m2, e1, e2, e3⟩ := h_wash (k / 6) m  (by omega) hI
          rw [law_wash (x := (xs, L)) hL hk c11 e1 e2]
          exact nx m2 e3
        by_cases c12 : xs k &&& 63 = 12
        · obtain ⟨v, m1, m2, e1, e2, e3⟩ := h_days (k / 6) m (xs (k + 1)) (by omega) hI
          rw [law_days (x := (xs, L)) hL hk c12 e1 e2]
          exact nx m2 e3
        by_cases c13 : xs k &&& 63 = 13
        · obtain ⟨v, m1, m2, e1, e2, e3⟩ := h_undo (k / 6) m  (by omega) hI
          rw [law_undo (x := (xs, L)) hL hk c13 e1 e2]
          exact nx m2 e3
        by_cases c14 : xs k &&& 63 = 14
        · obtain ⟨v, m1, m2, e1, e2, e3⟩ := h_calm (k / 6) m (xs (k + 1)) (by omega) hI
          rw [law_calm (x := (xs, L)) hL hk c14 e1 e2]
          exact nx m2 e3
        by_cases c15 : xs k &&& 63 = 15
        · obtain ⟨v, m1, m2, e1, e2, e3⟩ := h_rich (k / 6) m (xs (k + 1)) (xs (k + 2)) (xs (k + 3)) (xs (k + 4)) (by omega) hI
          rw [law_rich (x := (xs, L)) hL hk c15 e1 e2]
          exact nx m2 e3
        by_cases c16 : xs k &&& 63 = 16
        · obtain ⟨v, m1, m2, e1, e2, e3⟩ := h_alike (k / 6) m (xs (k + 1)) (xs (k + 2)) (xs (k + 3)) (by omega) hI
          rw [law_alike (x := (xs, L)) hL hk c16 e1 e2]
          exact nx m2 e3
        by_cases c17 : xs k &&& 63 = 17
        · obtain ⟨v, m1, m2, e1, e2, e3⟩ := h_best (k / 6) m (xs (k + 1)) (by omega) hI
          rw [law_best (x := (xs, L)) hL hk c17 e1 e2]
          exact nx m2 e3
        by_cases c18 : xs k &&& 63 = 18
        · obtain ⟨v, m1, m2, e1, e2, e3⟩ := h_gain (k / 6) m (xs (k + 1)) (xs (k + 2)) (xs (k + 3)) (by omega) hI
          rw [law_gain (x := (xs, L)) hL hk c18 e1 e2]
          exact nx m2 e3
        by_cases c19 : xs k &&& 63 = 19
        · obtain ⟨v, m1, m2, e1, e2, e3⟩ := h_plates (k / 6) m (xs (k + 1)) (xs (k + 2)) (xs (k + 3)) (by omega) hI
          rw [law_plates (x := (xs, L)) hL hk c19 e1 e2]
          exact nx m2 e3
        by_cases c20 : xs k &&& 63 = 20
        · obtain ⟨v, m1, m2, e1, e2, e3⟩ := h_crumbs (k / 6) m (xs (k + 1)) (xs (k + 2)) (xs (k + 3)) (xs (k + 4)) (by omega) hI
          rw [law_crumbs (x := (xs, L)) hL hk c20 e1 e2]
          exact nx m2 e3
        by_cases c21 : xs k &&& 63 = 21
        · obtain ⟨v, m1, m2, e1, e2, e3⟩ := h_poorest (k / 6) m (xs (k + 1)) (by omega) hI
          rw [law_poorest (x := (xs, L)) hL hk c21 e1 e2]
          exact nx m2 e3
        by_cases c22 : xs k &&& 63 = 22
        · obtain ⟨v, m1, m2, e1, e2, e3⟩ := h_foes (k / 6) m (xs (k + 1)) (by omega) hI
          rw [law_foes (x := (xs, L)) hL hk c22 e1 e2]
          exact nx m2 e3
        by_cases c23 : xs k &&& 63 = 23
        · obtain ⟨v, m1, m2, e1, e2, e3⟩ := h_peace (k / 6) m (xs (k + 1)) (by omega) hI
          rw [law_peace (x := (xs, L)) hL hk c23 e1 e2]
          exact nx m2 e3
        by_cases c24 : xs k &&& 63 = 24
        · obtain ⟨v, m1, m2, e1, e2, e3⟩ := h_paired (k / 6) m (xs (k + 1)) (by omega) hI
          rw [law_paired (x := (xs, L)) hL hk c24 e1 e2]
          exact nx m2 e3
        by_cases c25 : xs k &&& 63 = 25
        · obtain ⟨v, m1, m2, e1, e2, e3⟩ := h_most (k / 6) m (xs (k + 1)) (xs (k + 2)) (by omega) hI
          rw [law_most (x := (xs, L)) hL hk c25 e1 e2]
          exact nx m2 e3
        by_cases c26 : xs k &&& 63 = 26
        · obtain ⟨v, m1, m2, e1, e2, e3⟩ := h_likest (k / 6) m (xs (k + 1)) (by omega) hI
          rw [law_likest (x := (xs, L)) hL hk c26 e1 e2]
          exact nx m2 e3
        by_cases c27 : xs k &&& 63 = 27
        · obtain ⟨v, m1, m2, e1, e2, e3⟩ := h_fair (k / 6) m (xs (k + 1)) (by omega) hI
          rw [law_fair (x := (xs, L)) hL hk c27 e1 e2]
          exact nx m2 e3
        by_cases c28 : xs k &&& 63 = 28
        · obtain ⟨v, m1, m2, e1, e2, e3⟩ := h_ends (k / 6) m  (by omega) hI
          rw [law_ends (x := (xs, L)) hL hk c28 e1 e2]
          exact nx m2 e3
        by_cases c29 : xs k &&& 63 = 29
        · obtain ⟨v, m1, m2, e1, e2, e3⟩ := h_bill (k / 6) m (xs (k + 1)) (by omega) hI
          rw [law_bill (x := (xs, L)) hL hk c29 e1 e2]
          exact nx m2 e3
        by_cases c30 : xs k &&& 63 = 30
        · obtain ⟨v, m1, m2, e1, e2, e3⟩ := h_then (k / 6) m (xs (k + 1)) (xs (k + 2)) (xs (k + 3)) (by omega) hI
          rw [law_then (x := (xs, L)) hL hk c30 e1 e2]
          exact nx m2 e3
        by_cases c31 : xs k &&& 63 = 31
        · obtain ⟨v, m1, m2, e1, e2, e3⟩ := h_foesIn (k / 6) m (xs (k + 1)) (xs (k + 2)) (by omega) hI
          rw [law_foesIn (x := (xs, L)) hL hk c31 e1 e2]
          exact nx m2 e3
        by_cases c32 : xs k &&& 63 = 32
        · obtain ⟨v, m1, m2, e1, e2, e3⟩ := h_turnsIn (k / 6) m (xs (k + 1)) (by omega) hI
          rw [law_turnsIn (x := (xs, L)) hL hk c32 e1 e2]
          exact nx m2 e3
        by_cases c33 : xs k &&& 63 = 33
        · obtain ⟨v, m1, m2, e1, e2, e3⟩ := h_year (k / 6) m (xs (k + 1)) (xs (k + 2)) (xs (k + 3)) (xs (k + 4)) (by omega) hI
          rw [law_year (x := (xs, L)) hL hk c33 e1 e2]
          exact nx m2 e3
        by_cases c34 : xs k &&& 63 = 34
        · obtain ⟨v, m1, m2, e1, e2, e3⟩ := h_tell (k / 6) m (xs (k + 1)) (xs (k + 2)) (xs (k + 3)) (if xs (k + 4) = 0 then 0 else 1) (by omega) hI (by split <;> simp)
          rw [law_tell (x := (xs, L)) hL hk c34 e1 e2]
          exact nx m2 e3
        by_cases c35 : xs k &&& 63 = 35
        · obtain ⟨v, m1, m2, e1, e2, e3⟩ := h_forget (k / 6) m  (by omega) hI
          rw [law_forget (x := (xs, L)) hL hk c35 e1 e2]
          exact nx m2 e3
        by_cases c36 : xs k &&& 63 = 36
        · obtain ⟨v, m1, m2, e1, e2, e3⟩ := h_two (k / 6) m (xs (k + 1)) (xs (k + 2)) (by omega) hI
          rw [law_two (x := (xs, L)) hL hk c36 e1 e2]
          exact nx m2 e3
        by_cases c37 : xs k &&& 63 = 37
        · obtain ⟨v, m1, m2, e1, e2, e3⟩ := h_ask (k / 6) m (xs (k + 1)) (xs (k + 2)) (by omega) hI
          rw [law_ask (x := (xs, L)) hL hk c37 e1 e2]
          exact nx m2 e3
        by_cases c38 : xs k &&& 63 = 38
        · obtain ⟨v, m1, m2, e1, e2, e3⟩ := h_hold (k / 6) m (xs (k + 1)) (by omega) hI
          rw [law_hold (x := (xs, L)) hL hk c38 e1 e2]
          exact nx m2 e3
        by_cases c39 : xs k &&& 63 = 39
        · obtain ⟨v, m1, m2, e1, e2, e3⟩ := h_restore (k / 6) m (xs (k + 1)) (by omega) hI
          rw [law_restore (x := (xs, L)) hL hk c39 e1 e2]
          exact nx m2 e3
        by_cases c40 : xs k &&& 63 = 40
        · obtain ⟨v, m1, m2, e1, e2, e3⟩ := h_count (k / 6) m (xs (k + 1)) (by omega) hI
          rw [law_count (x := (xs, L)) hL hk c40 e1 e2]
          exact nx m2 e3
        · rw [law_none (x := (xs, L)) hL hk ?_]
          · exact nx m (hs _ _ (by omega) hI)
          · intro j hj
            simp only [List.mem_cons, List.not_mem_nil, or_false] at hj
            rcases hj with rfl | rfl | rfl | rfl | rfl | rfl | rfl | rfl | rfl | rfl | rfl | rfl | rfl | rfl | rfl | rfl | rfl | rfl | rfl | rfl | rfl | rfl | rfl | rfl | rfl | rfl | rfl | rfl | rfl | rfl | rfl | rfl | rfl | rfl | rfl | rfl | rfl | rfl | rfl | rfl | rfl
            · exact c0
            · exact c1
            · exact c2
            · exact c3
            · exact c4
            · exact c5
            · exact c6
            · exact c7
            · exact c8
            · exact c9
            · exact c10
            · exact c11
            · exact c12
            · exact c13
            · exact c14
            · exact c15
            · exact c16
            · exact c17
            · exact c18
            · exact c19
            · exact c20
            · exact c21
            · exact c22
            · exact c23
            · exact c24
            · exact c25
            · exact c26
            · exact c27
            · exact c28
            · exact c29
            · exact c30
            · exact c31
            · exact c32
            · exact c33
            · exact c34
            · exact c35
            · exact c36
            · exact c37
            · exact c38
            · exact c39
            · exact c40
      · exact ⟨m, law_out (x := (xs, L)) hL (by omega) hk⟩
  obtain ⟨m2, hm⟩ := key (L + 1) 0 mz_m0 (by omega) (by omega) h0 rfl
  rw [← mz_begin] at hm
  obtain ⟨n, hn⟩ := (mz_At_iff (some (xs, L))).mp hm
  refine ⟨n, _, hn, ?_, ?_⟩
  · show mz_S0.1.length ≤ 600000
    rw [mz_S0_eq, mz_r2_sh]
    decide +kernel
  · show mz_sz mz_S0 ≤ 7302250
    unfold mz_sz
    rw [mz_S0_eq, mz_r2_sh]
    decide +kernel
