/-! the reference reads an expression, by the grammar -/
def znz : ZR → ZR
  | .inl q => if q.2 ≤ 400 then .inl q else .inl (2, 400)
  | .inr q => if q.1 ≤ 400 then .inr q else .inl (2, 400)
def zROu (kd pl : Nat → Nat) (N sd d n c : Nat) (L W : List Nat) (j : Nat) (x : MzM) (h : Option MzM) : ZR → Prop
  | .inl q => zRX sd pl x h q.1 q.2
  | .inr q => ∃ x' L' E, h = H_X12_expression_96 d 0 x' ∧ zRs x' q.1 n (L' ++ W) (c + E.length) ∧ q.1 < N ∧ zCA x x' c E ∧ E ++ L'.map zoc = L.map zoc ++ q.2 ∧ zLk j L' ∧ zFr (zXR sd) x x' ∧ (1 ≤ j → kd q.1 ≠ 8 ∧ kd q.1 ≠ 9) ∧ (2 ≤ j → kd q.1 ≠ 6 ∧ kd q.1 ≠ 7)
def zME (kd vl nr pl : Nat → Nat) (N sd d j n t : Nat) (R : ZR) : Prop := n ≤ 6 → ∀ x W c, zTkR kd vl nr pl N x → zBk j W → W.length + j ≤ 3 * n + 2 → 420 * sd ≤ c → c ≤ 420 * sd + t → t < N → zRs x t n W c → zROu kd pl N sd d n c [] W j x (H_X12_expression_23 d 0 x) (znz R)
def zMO (kd vl nr pl : Nat → Nat) (N sd d j n t : Nat) (R : ZR) : Prop := n ≤ 6 → ∀ x W L c, zTkR kd vl nr pl N x → zLk (j + 1) L → zBk (j + 1) W → (j = 1 → kd t ≠ 8 ∧ kd t ≠ 9) → W.length + (j + 1) ≤ 3 * n + 2 → 420 * sd ≤ c → c + L.length ≤ 420 * sd + t → t < N → zRs x t n (L ++ W) c → zROu kd pl N sd d n c L W (j + 1) x (H_X12_expression_96 d 0 x) (znz R)
def zMR (kd vl nr pl : Nat → Nat) (N sd d md n t : Nat) (R : ZR) : Prop := ∀ j, (md = 2 * j → zME kd vl nr pl N sd d j n t R) ∧ (md = 2 * j + 1 → zMO kd vl nr pl N sd d j n t R)
noncomputable def zPush (d : Nat) (m : MzM) : Option MzM := mz_g (mz_ok (mz_rd m 239 11) 403) (mz_g (mz_ok (mz_rd m 239 43) 64) ((R_X12_goesOn d (mz_wr (mz_wr m 267 ((mz_rd m 239 43) : Int32).toNatClampNeg (mz_rd m 242 ((mz_rd m 239 11) : Int32).toNatClampNeg)) 239 43 ((mz_rd (mz_wr m 267 ((mz_rd m 239 43) : Int32).toNatClampNeg (mz_rd m 242 ((mz_rd m 239 11) : Int32).toNatClampNeg)) 239 43) + 1))).bind (fun m40 => H_X12_expression_12 d 0 1 m40)))
section ZRmain
variable {kd vl nr pl : Nat → Nat} {N sd d : Nat}
theorem znz_r {t : Nat} {P : ZP} (h : t ≤ 400) : znz (.inr (t, P)) = .inr (t, P) := if_pos h
theorem znz_o {t : Nat} {P : ZP} (h : ¬ t ≤ 400) : znz (.inr (t, P)) = .inl (2, 400) := if_neg h
theorem znz_l {e : Nat × Nat} (h : e.2 ≤ 400) : znz (.inl e) = .inl e := if_pos h
theorem znz_b {e : Nat × Nat} (h : ¬ e.2 ≤ 400) : znz (.inl e) = .inl (2, 400) := if_neg h
theorem r_uc (hs : sd < 2) {x : MzM} {t n c a b : Nat} {W : List Nat} (tk : zTkR kd vl nr pl N x) (ht : t < N) (hr : zRs x t n W c) (h1 : 420 * sd ≤ c) (h2 : c ≤ 420 * sd + t) (k0 : kd t ≠ 0) (k11 : kd t ≠ 11) (hu : R_X12_unit d x = (R_X12_emit d (nI a) (nI b) x).bind (fun m27 => (R_X12_goesOn d m27).bind (fun m30 => some m30))) : zROu kd pl N sd d n c [] W 0 x (H_X12_expression_23 d 0 x) (znz (.inr (t + 1, [(a, b)]))) := by
  have l := tk.2.1
  obtain ⟨r1, r2, r3, r4, r5, r6⟩ := hr
  have e := H_X12_expression_23_eq d 0 x
  rw [r_isF tk r1 r2 ht (y := 6) (k := 11) rfl (by omega) k11, Option.bind_some] at e
  dsimp only at e
  rw [if_pos rfl, hu, r_em r6 (by omega), Option.bind_some] at e
  obtain ⟨x1, hx⟩ : ∃ q : MzM, q = mz_wr (mz_wr (mz_wr x 265 c (nI a)) 266 c (nI b)) 239 39 (nI (c + 1)) := ⟨_, rfl⟩
  have A1 : zCA x x1 c [(a, b)] := by rw [hx]; exact r_emA
  have F1 : zFr (zXR sd) x x1 := by
    rw [hx]
    exact zFr_w2 (zFr_w2 (zFr_w (by unfold zXR; omega)) (by unfold zXR; omega)) (by unfold zXR; omega)
  rw [← hx] at e
  have s13 : mz_rd x1 239 13 = 0 := by rw [hx, m_ni (by omega), m_ne (by omega), m_ne (by omega)]; exact r1
  have s11 : mz_rd x1 239 11 = nI t := by rw [hx, m_ni (by omega), m_ne (by omega), m_ne (by omega)]; exact r2
  have s12 : mz_rd x1 239 12 = nI n := by rw [hx, m_ni (by omega), m_ne (by omega), m_ne (by omega)]; exact r3
  have s43 : mz_rd x1 239 43 = nI W.length := by rw [hx, m_ni (by omega), m_ne (by omega), m_ne (by omega)]; exact r4
  have s39 : mz_rd x1 239 39 = nI (c + 1) := by rw [hx, m_eq]
  have sw : zWt x1 W := zWt_f r5 (fun i _ => by rw [hx, m_ne (by omega), m_ne (by omega), m_ne (by omega)])
  by_cases c4 : t < 400
  · rw [r_go s11 c4, Option.bind_some, Option.bind_some, m_ni (show 13 ≠ 11 by omega), s13, if_pos (show (0 : Int32) ≤ 0 by decide)] at e
    rw [znz_r (by omega)]
    refine ⟨_, [], [(a, b)], e, ⟨?_, m_eq, ?_, ?_, zWt_f sw (fun i _ => m_ne (by omega)), ?_⟩, tk.2.2.2.1 t ht k0 c4, zCA_post A1 (fun p i z => m_ne (by omega)), rfl, Or.inl rfl, zFr_w2 F1 (by unfold zXR; omega), fun z => absurd z (by omega), fun z => absurd z (by omega)⟩
    · rw [m_ni (by omega)]; exact s13
    · rw [m_ni (by omega)]; exact s12
    · rw [m_ni (by omega)]; exact s43
    · rw [m_ni (by omega)]; exact s39
  · have t4 : t = 400 := by omega
    subst t4
    rw [r_go4 (zTkR_x tk F1) s13 s11 ht, Option.bind_some, Option.bind_some, m_ni (show 13 ≠ 14 by omega), m_eq, if_neg (show ¬ (2 : Int32) ≤ 0 by decide)] at e
    rw [znz_o (by omega)]
    exact ⟨_, e, by rw [m_ni (by omega), m_eq]; rfl, m_eq, zFr_w2 (zFr_w2 F1 (by unfold zXR; omega)) (by unfold zXR; omega)⟩
theorem r_unitI {x : MzM} {t n c : Nat} {W : List Nat} (tk : zTkR kd vl nr pl N x) (ht : t < N) (hr : zRs x t n W c) (k : kd t = 3) : R_X12_unit d x = (R_X12_emit d (nI 0) (nI (vl t)) x).bind (fun m27 => (R_X12_goesOn d m27).bind (fun m30 => some m30)) := by
  have l := tk.2.1
  obtain ⟨r1, r2, r3, r4, r5, r6⟩ := hr
  rw [R_X12_unit_eq, r_isT tk r1 r2 ht (y := 2) (k := 3) rfl k, Option.bind_some]
  dsimp only
  rw [if_neg (show ¬ (1 : Int32) = 0 by decide), r2, n_ok (by omega), n_gd (by omega), nI_clamp (by omega), (tk.2.2.2.2 t ht).2.2.1 k]
  rfl
theorem r_unitV {x : MzM} {t n c : Nat} {W : List Nat} (tk : zTkR kd vl nr pl N x) (ht : t < N) (hr : zRs x t n W c) (k : 25 ≤ kd t) (k' : kd t ≤ 33) : R_X12_unit d x = (R_X12_emit d (nI 1) (nI (kd t - 25)) x).bind (fun m27 => (R_X12_goesOn d m27).bind (fun m30 => some m30)) := by
  have l := tk.2.1
  obtain ⟨r1, r2, r3, r4, r5, r6⟩ := hr
  have z : zkr (kd t) = kd t + 7 := by unfold zkr; rw [if_pos (by omega)]
  have sb : nI (kd t + 7) - 32 = nI (kd t - 25) := by
    have := pk_sub (a := kd t + 7) (b := 32) (by omega)
    rw [show kd t + 7 - 32 = kd t - 25 by omega] at this
    exact this
  rw [R_X12_unit_eq, r_isF tk r1 r2 ht (y := 2) (k := 3) rfl (by omega) (by omega), Option.bind_some]
  dsimp only
  rw [if_pos rfl, if_neg (fun q => q r1), r2, n_ok (by omega), n_gd (by omega), nI_clamp (by omega), (tk.2.2.2.2 t ht).1, z, if_neg (show ¬ nI (kd t + 7) < 32 from nI_nlt (b := 32) (by omega) (by omega)), n_gd (by omega), if_neg (show ¬ (40 : Int32) < nI (kd t + 7) from nI_nlt (a := 40) (by omega) (by omega)), n_gd (by omega), sb]
  rfl
theorem r_96op {x : MzM} {j t n c : Nat} {W : List Nat} (tk : zTkR kd vl nr pl N x) (ht : t < N) (hr : zRs x t n W c) (hz : zop j (kd t)) : H_X12_expression_96 d 0 x = (R_X12_comesOut d (if j = 0 then 1 else 0) x).bind (fun m => zPush d m) := by
  obtain ⟨r1, r2, r3, r4, r5, r6⟩ := hr
  have i7 : R_X12_is d 7 x = some (0, x) := r_isF tk r1 r2 ht (k := 12) rfl (by omega) (by unfold zop at hz; omega)
  rw [H_X12_expression_96_eq, i7, Option.bind_some]
  dsimp only
  rw [if_pos rfl]
  rcases hz with ⟨rfl, k | k⟩ | ⟨rfl, k | k⟩
  · have i8 : R_X12_is d 8 x = some (0, x) := r_isF tk r1 r2 ht (k := 6) rfl (by omega) (by omega)
    have i9 : R_X12_is d 9 x = some (0, x) := r_isF tk r1 r2 ht (k := 7) rfl (by omega) (by omega)
    have i10 : R_X12_is d 10 x = some (1, x) := r_isT tk r1 r2 ht (k := 8) rfl k
    rw [i8, Option.bind_some]
    dsimp only
    rw [if_neg (fun z => z rfl), i9, Option.bind_some]
    dsimp only
    rw [if_neg (fun z => z rfl), i10, Option.bind_some]
    dsimp only
    rw [if_pos (show ¬ (1 : Int32) = 0 by decide), i10, Option.bind_some]
    dsimp only
    rw [if_pos (show ¬ (1 : Int32) = 0 by decide), if_pos rfl]
    rfl
  · have i8 : R_X12_is d 8 x = some (0, x) := r_isF tk r1 r2 ht (k := 6) rfl (by omega) (by omega)
    have i9 : R_X12_is d 9 x = some (0, x) := r_isF tk r1 r2 ht (k := 7) rfl (by omega) (by omega)
    have i10 : R_X12_is d 10 x = some (0, x) := r_isF tk r1 r2 ht (k := 8) rfl (by omega) (by omega)
    have i15 : R_X12_is d 15 x = some (1, x) := r_isT tk r1 r2 ht (k := 9) rfl k
    rw [i8, Option.bind_some]
    dsimp only
    rw [if_neg (fun z => z rfl), i9, Option.bind_some]
    dsimp only
    rw [if_neg (fun z => z rfl), i10, Option.bind_some]
    dsimp only
    rw [if_neg (fun z => z rfl), i15, Option.bind_some]
    dsimp only
    rw [if_neg (show ¬ (1 : Int32) = 0 by decide), i10, Option.bind_some]
    dsimp only
    rw [if_neg (fun z => z rfl), i15, Option.bind_some]
    dsimp only
    rw [if_neg (show ¬ (1 : Int32) = 0 by decide), if_pos rfl]
    rfl
  · have i8 : R_X12_is d 8 x = some (1, x) := r_isT tk r1 r2 ht (k := 6) rfl k
    have i10 : R_X12_is d 10 x = some (0, x) := r_isF tk r1 r2 ht (k := 8) rfl (by omega) (by omega)
    have i15 : R_X12_is d 15 x = some (0, x) := r_isF tk r1 r2 ht (k := 9) rfl (by omega) (by omega)
    rw [i8, Option.bind_some]
    dsimp only
    rw [if_pos (show ¬ (1 : Int32) = 0 by decide), i10, Option.bind_some]
    dsimp only
    rw [if_neg (fun z => z rfl), i15, Option.bind_some]
    dsimp only
    rw [if_pos rfl, if_neg (show ¬ 1 = 0 by omega)]
    rfl
  · have i8 : R_X12_is d 8 x = some (0, x) := r_isF tk r1 r2 ht (k := 6) rfl (by omega) (by omega)
    have i9 : R_X12_is d 9 x = some (1, x) := r_isT tk r1 r2 ht (k := 7) rfl k
    have i10 : R_X12_is d 10 x = some (0, x) := r_isF tk r1 r2 ht (k := 8) rfl (by omega) (by omega)
    have i15 : R_X12_is d 15 x = some (0, x) := r_isF tk r1 r2 ht (k := 9) rfl (by omega) (by omega)
    rw [i8, Option.bind_some]
    dsimp only
    rw [if_neg (fun z => z rfl), i9, Option.bind_some]
    dsimp only
    rw [if_pos (show ¬ (1 : Int32) = 0 by decide), i10, Option.bind_some]
    dsimp only
    rw [if_neg (fun z => z rfl), i15, Option.bind_some]
    dsimp only
    rw [if_pos rfl, if_neg (show ¬ 1 = 0 by omega)]
    rfl
theorem r_96cl {x : MzM} {t n c : Nat} {W : List Nat} (tk : zTkR kd vl nr pl N x) (ht : t < N) (hr : zRs x t (n + 1) W c) (hn : n < 10) (k : kd t = 12) : H_X12_expression_96 d 0 x = (R_X12_comesOut d 0 x).bind (fun m336 => (R_X12_goesOn d (mz_wr (mz_wr m336 239 43 ((mz_rd m336 239 43) - 1)) 239 12 ((mz_rd (mz_wr m336 239 43 ((mz_rd m336 239 43) - 1)) 239 12) - 1))).bind (fun m339 => H_X12_expression_96 d 0 m339)) := by
  obtain ⟨r1, r2, r3, r4, r5, r6⟩ := hr
  have i7 : R_X12_is d 7 x = some (1, x) := r_isT tk r1 r2 ht (k := 12) rfl k
  rw [H_X12_expression_96_eq, i7, Option.bind_some]
  dsimp only
  rw [if_neg (show ¬ (1 : Int32) = 0 by decide), r3, if_neg (nI_nle (by omega) (by omega))]
theorem r_96no {x : MzM} {t n c : Nat} {W : List Nat} (tk : zTkR kd vl nr pl N x) (ht : t < N) (hr : zRs x t n W c) (k6 : kd t ≠ 6 ∧ kd t ≠ 7) (k8 : kd t ≠ 8 ∧ kd t ≠ 9) (k : kd t = 12 → n = 0) : H_X12_expression_96 d 0 x = if nI n ≤ 0 then ((R_X12_comesOut d 0 x).bind (fun m => some m)) else ((R_X12_fail d 1 x).bind (fun m => (R_X12_comesOut d 0 m).bind (fun m => some m))) := by
  obtain ⟨r1, r2, r3, r4, r5, r6⟩ := hr
  have i8 : R_X12_is d 8 x = some (0, x) := r_isF tk r1 r2 ht (k := 6) rfl (by omega) (by omega)
  have i9 : R_X12_is d 9 x = some (0, x) := r_isF tk r1 r2 ht (k := 7) rfl (by omega) (by omega)
  have i10 : R_X12_is d 10 x = some (0, x) := r_isF tk r1 r2 ht (k := 8) rfl (by omega) (by omega)
  have i15 : R_X12_is d 15 x = some (0, x) := r_isF tk r1 r2 ht (k := 9) rfl (by omega) (by omega)
  by_cases c7 : kd t = 12
  · have i7 : R_X12_is d 7 x = some (1, x) := r_isT tk r1 r2 ht (k := 12) rfl c7
    have n0 := k c7
    subst n0
    rw [H_X12_expression_96_eq, i7, Option.bind_some]
    dsimp only
    rw [if_neg (show ¬ (1 : Int32) = 0 by decide), r3, if_pos (show nI 0 ≤ 0 by decide), i8, Option.bind_some]
    dsimp only
    rw [if_neg (fun z => z rfl), i9, Option.bind_some]
    dsimp only
    rw [if_neg (fun z => z rfl), i10, Option.bind_some]
    dsimp only
    rw [if_neg (fun z => z rfl), i15, Option.bind_some]
    dsimp only
    rw [if_pos rfl, r3]
  · have i7 : R_X12_is d 7 x = some (0, x) := r_isF tk r1 r2 ht (k := 12) rfl (by omega) c7
    rw [H_X12_expression_96_eq, i7, Option.bind_some]
    dsimp only
    rw [if_pos rfl, i8, Option.bind_some]
    dsimp only
    rw [if_neg (fun z => z rfl), i9, Option.bind_some]
    dsimp only
    rw [if_neg (fun z => z rfl), i10, Option.bind_some]
    dsimp only
    rw [if_neg (fun z => z rfl), i15, Option.bind_some]
    dsimp only
    rw [if_pos rfl, r3]
theorem zkr_op {j k : Nat} (h : zop j k) : (zkr k = 8 ∨ zkr k = 9 ∨ zkr k = 10 ∨ zkr k = 15) ∧ zoc (zkr k) = (k - 4, 0) ∧ (j = 0 → zkr k = 10 ∨ zkr k = 15) ∧ (j = 1 → zkr k = 8 ∨ zkr k = 9) := by
  rcases h with ⟨rfl, rfl | rfl⟩ | ⟨rfl, rfl | rfl⟩ <;> decide
/-- a sign: what waits comes out, the sign waits -/
theorem r_op (hs : sd < 2) {x : MzM} {j t n c : Nat} {L W : List Nat} (tk : zTkR kd vl nr pl N x) (ht : t < N) (hr : zRs x t n (L ++ W) c) (hz : zop j (kd t)) (hL : zLk (j + 1) L) (hB : zBk (j + 1) W) (hW : W.length ≤ 30) (h1 : 420 * sd ≤ c) (h2 : c + L.length ≤ 420 * sd + t) : (t < 400 ∧ ∃ x3, H_X12_expression_96 d 0 x = H_X12_expression_23 d 0 x3 ∧ zRs x3 (t + 1) n (zkr (kd t) :: W) (c + L.length) ∧ t + 1 < N ∧ zCA x x3 c (L.map zoc) ∧ zFr (zXR sd) x x3) ∨ (t = 400 ∧ zRX sd pl x (H_X12_expression_96 d 0 x) 2 400) := by
  have l := tk.2.1
  have e := r_96op (d := d) tk ht hr hz
  obtain ⟨r1, r2, r3, r4, r5, r6⟩ := hr
  have ll := zLk_l hL
  have j2 : j < 2 := by unfold zop at hz; omega
  have k0 : kd t ≠ 0 := by unfold zop at hz; omega
  have la : (L ++ W).length = L.length + W.length := List.length_append
  obtain ⟨x1, e1, f1, a1, a2, a3⟩ := r_out (d := d) (y := if j = 0 then 1 else 0) hs L W x c (zLk_op hL) (by
    rcases (show j = 0 ∨ j = 1 by omega) with rfl | rfl
    · exact Or.inr ⟨rfl, zLk_1 hL, hB⟩
    · exact Or.inl ⟨rfl, hB⟩) r4 r5 r6 h1 (by omega) (by omega)
  have g : ∀ i, i ≠ 39 → i ≠ 43 → mz_rd x1 239 i = mz_rd x 239 i := fun i p q => f1.1 239 i (by omega)
  have tk1 := zTkR_x tk (zXR_o f1)
  have kk := (zkr_op hz).1
  have s13 : mz_rd x1 239 13 = 0 := (g _ (by omega) (by omega)).trans r1
  have s11 : mz_rd x1 239 11 = nI t := (g _ (by omega) (by omega)).trans r2
  have s12 : mz_rd x1 239 12 = nI n := (g _ (by omega) (by omega)).trans r3
  rw [r_outE, e1, Option.bind_some] at e
  unfold zPush at e
  rw [s11, n_ok (by omega), n_gd (by omega), nI_clamp (show t < 2 ^ 31 by omega), (tk1.2.2.2.2 t ht).1, a1, n_ok (by omega), n_gd (by omega), nI_clamp (by omega), m_ne (show 239 ≠ 267 by omega), a1, nI_1] at e
  obtain ⟨x2, hx⟩ : ∃ q : MzM, q = mz_wr (mz_wr x1 267 W.length (nI (zkr (kd t)))) 239 43 (nI (W.length + 1)) := ⟨_, rfl⟩
  rw [← hx] at e
  have f2 : zFr (zXR sd) x x2 := by
    rw [hx]
    exact zFr_w2 (zFr_w2 (zXR_o f1) (by unfold zXR; omega)) (by unfold zXR; omega)
  have p13 : mz_rd x2 239 13 = 0 := by rw [hx, m_ni (by omega), m_ne (by omega)]; exact s13
  have p11 : mz_rd x2 239 11 = nI t := by rw [hx, m_ni (by omega), m_ne (by omega)]; exact s11
  have p12 : mz_rd x2 239 12 = nI n := by rw [hx, m_ni (by omega), m_ne (by omega)]; exact s12
  have p43 : mz_rd x2 239 43 = nI (W.length + 1) := by rw [hx, m_eq]
  have p39 : mz_rd x2 239 39 = nI (c + L.length) := by rw [hx, m_ni (by omega), m_ne (by omega)]; exact a2
  have pA : zCA x x2 c (L.map zoc) := zCA_post a3 (fun a i z => by rw [hx, m_ne (by omega), m_ne (by omega)])
  have wW : zWt x W := by
    clear e r4 la hL a3 a2 pA p39 h2 e1 ll
    induction L with
    | nil => exact r5
    | cons w L ih => exact ih r5.2.2
  have pW : zWt x2 (zkr (kd t) :: W) := by
    refine ⟨by omega, ?_, zWt_f wW (fun i hi => ?_)⟩
    · rw [hx, m_ne (by omega), m_eq]
    · rw [hx, m_ne (by omega), m_ni (by omega)]
      exact f1.1 267 i (by omega)
  by_cases c4 : t < 400
  · rw [r_go p11 c4, Option.bind_some, H_X12_expression_12_eq, if_neg (show ¬ (1 : Int32) = 0 by decide), m_ni (show 13 ≠ 11 by omega), if_neg (fun z => z p13)] at e
    refine Or.inl ⟨c4, _, e, ⟨?_, m_eq, ?_, ?_, zWt_f pW (fun i _ => m_ne (by omega)), ?_⟩, tk.2.2.2.1 t ht k0 c4, zCA_post pA (fun a i z => m_ne (by omega)), zFr_w2 f2 (by unfold zXR; omega)⟩
    · rw [m_ni (by omega)]; exact p13
    · rw [m_ni (by omega)]; exact p12
    · rw [m_ni (by omega)]; exact p43
    · rw [m_ni (by omega)]; exact p39
  · have t4 : t = 400 := by omega
    subst t4
    rw [r_go4 (zTkR_x tk f2) p13 p11 ht, Option.bind_some, H_X12_expression_12_eq, if_neg (show ¬ (1 : Int32) = 0 by decide), m_ni (show 13 ≠ 14 by omega), m_eq, if_pos (show ¬ (2 : Int32) = 0 by decide)] at e
    exact Or.inr ⟨rfl, _, e, by rw [m_ni (by omega), m_eq]; rfl, m_eq, zFr_w2 (zFr_w2 f2 (by unfold zXR; omega)) (by unfold zXR; omega)⟩
/-- an opening -/
theorem r_open (hs : sd < 2) {x : MzM} {t n c : Nat} {W : List Nat} (tk : zTkR kd vl nr pl N x) (ht : t < N) (hr : zRs x t n W c) (k : kd t = 11) (hn : n < 6) (hW : W.length ≤ 30) : (t < 400 ∧ ∃ x3, H_X12_expression_23 d 0 x = H_X12_expression_23 d 0 x3 ∧ zRs x3 (t + 1) (n + 1) (6 :: W) c ∧ t + 1 < N ∧ zFr (zXR sd) x x3 ∧ ∀ a i, a = 265 ∨ a = 266 → mz_rd x3 a i = mz_rd x a i) ∨ (t = 400 ∧ zRX sd pl x (H_X12_expression_23 d 0 x) 2 400) := by
  have l := tk.2.1
  obtain ⟨r1, r2, r3, r4, r5, r6⟩ := hr
  have e := H_X12_expression_23_eq d 0 x
  rw [r_isT tk r1 r2 ht (y := 6) (k := 11) rfl k, Option.bind_some] at e
  dsimp only at e
  rw [if_neg (show ¬ (1 : Int32) = 0 by decide), r3, if_pos (show ¬ nI n = 6 from k_ne (b := 6) (by omega) (by omega) (by omega)), nI_1] at e
  obtain ⟨x1, hx⟩ : ∃ q : MzM, q = mz_wr x 239 12 (nI (n + 1)) := ⟨_, rfl⟩
  rw [← hx] at e
  have f1 : zFr (zXR sd) x x1 := by rw [hx]; exact zFr_w (by unfold zXR; omega)
  have p13 : mz_rd x1 239 13 = 0 := by rw [hx, m_ni (by omega)]; exact r1
  have p11 : mz_rd x1 239 11 = nI t := by rw [hx, m_ni (by omega)]; exact r2
  have p43 : mz_rd x1 239 43 = nI W.length := by rw [hx, m_ni (by omega)]; exact r4
  by_cases c4 : t < 400
  · rw [r_go p11 c4, Option.bind_some, m_ni (show 43 ≠ 11 by omega), p43, n_ok (by omega), n_gd (by omega), nI_clamp (by omega), m_ne (show 239 ≠ 267 by omega), m_ni (show 43 ≠ 11 by omega), p43, nI_1] at e
    refine Or.inl ⟨c4, _, e, ⟨?_, ?_, ?_, m_eq, ⟨Or.inl rfl, ?_, zWt_f r5 (fun i hi => ?_)⟩, ?_⟩, tk.2.2.2.1 t ht (by omega) c4, zFr_w2 (zFr_w2 (zFr_w2 f1 (by unfold zXR; omega)) (by unfold zXR; omega)) (by unfold zXR; omega), fun a i z => ?_⟩
    · rw [m_ni (by omega), m_ne (by omega), m_ni (by omega)]; exact p13
    · rw [m_ni (by omega), m_ne (by omega), m_eq]
    · rw [m_ni (by omega), m_ne (by omega), m_ni (by omega), hx, m_eq]
    · rw [m_ne (by omega), m_eq]; rfl
    · rw [m_ne (by omega), m_ni (by omega), m_ne (by omega), hx, m_ne (by omega)]
    · rw [m_ni (by omega), m_ne (by omega), m_ni (by omega), hx, m_ni (by omega)]; exact r6
    · rw [m_ne (by omega), m_ne (by omega), m_ne (by omega), hx, m_ne (by omega)]
  · have t4 : t = 400 := by omega
    subst t4
    rw [r_go4 (zTkR_x tk f1) p13 p11 ht, Option.bind_some, m_ni (show 43 ≠ 14 by omega), m_ni (show 43 ≠ 13 by omega), p43, n_ok (by omega), n_gd (by omega), nI_clamp (by omega)] at e
    have e := e.trans (r_23D (f := 2) (by rw [m_ni (by omega), m_ne (by omega), m_ni (by omega), m_eq]; rfl) (Or.inr rfl))
    refine Or.inr ⟨rfl, _, e, ?_, ?_, zFr_w2 (zFr_w2 (zFr_w2 (zFr_w2 f1 (by unfold zXR; omega)) (by unfold zXR; omega)) (by unfold zXR; omega)) (by unfold zXR; omega)⟩
    · rw [m_ni (by omega), m_ne (by omega), m_ni (by omega), m_eq]; rfl
    · rw [m_ni (by omega), m_ne (by omega), m_eq]
/-- too many nested -/
theorem r_room {x : MzM} {t c : Nat} {W : List Nat} (tk : zTkR kd vl nr pl N x) (ht : t < N) (hr : zRs x t 6 W c) (k : kd t = 11) (hW : W.length ≤ 30) : zRX sd pl x (H_X12_expression_23 d 0 x) 2 t := by
  have l := tk.2.1
  obtain ⟨r1, r2, r3, r4, r5, r6⟩ := hr
  have e := H_X12_expression_23_eq d 0 x
  rw [r_isT tk r1 r2 ht (y := 6) (k := 11) rfl k, Option.bind_some] at e
  dsimp only at e
  rw [if_neg (show ¬ (1 : Int32) = 0 by decide), if_neg (fun z => z r3), r_fl tk r1 r2 ht, Option.bind_some] at e
  obtain ⟨x1, hx⟩ : ∃ q : MzM, q = mz_wr (mz_wr (mz_wr x 239 13 2) 239 14 (nI (pl t))) 239 12 (mz_rd (mz_wr (mz_wr x 239 13 2) 239 14 (nI (pl t))) 239 12 + 1) := ⟨_, rfl⟩
  rw [← hx] at e
  have p13 : mz_rd x1 239 13 = nI 2 := by rw [hx, m_ni (by omega), m_ni (by omega), m_eq]; rfl
  have p14 : mz_rd x1 239 14 = nI (pl t) := by rw [hx, m_ni (by omega), m_eq]
  have p11 : mz_rd x1 239 11 = nI t := by rw [hx, m_ni (by omega), m_ni (by omega), m_ni (by omega)]; exact r2
  have p43 : mz_rd x1 239 43 = nI W.length := by rw [hx, m_ni (by omega), m_ni (by omega), m_ni (by omega)]; exact r4
  have f1 : zFr (zXR sd) x x1 := by
    rw [hx]
    exact zFr_w2 (zFr_w2 (zFr_w (by unfold zXR; omega)) (by unfold zXR; omega)) (by unfold zXR; omega)
  obtain ⟨x2, e2, f2⟩ := r_goD (d := d) p13 (Or.inr rfl) p11 (by omega)
  rw [e2, Option.bind_some, f2.1 239 43 (by omega), p43, n_ok (by omega), n_gd (by omega), nI_clamp (by omega)] at e
  have e := e.trans (r_23D (f := 2) (by rw [m_ni (by omega), m_ne (by omega), f2.1 239 13 (by omega)]; exact p13) (Or.inr rfl))
  refine ⟨_, e, ?_, ?_, zFr_w2 (zFr_w2 (zFr_t f1 (zFr_m f2 (fun a i z => by unfold zXR; omega))) (by unfold zXR; omega)) (by unfold zXR; omega)⟩
  · rw [m_ni (by omega), m_ne (by omega), f2.1 239 13 (by omega)]; exact p13
  · rw [m_ni (by omega), m_ne (by omega), f2.1 239 14 (by omega)]; exact p14
/-- no unit -/
theorem r_nou {x : MzM} {t n c : Nat} {W : List Nat} (tk : zTkR kd vl nr pl N x) (ht : t < N) (hr : zRs x t n W c) (k3 : kd t ≠ 3) (kv : ¬ (25 ≤ kd t ∧ kd t ≤ 33)) (k11 : kd t ≠ 11) : zRX sd pl x (H_X12_expression_23 d 0 x) 1 t := by
  have l := tk.2.1
  have b := (tk.1 t).1
  have b2 := zkr_32 (kd t) (by omega)
  obtain ⟨r1, r2, r3, r4, r5, r6⟩ := hr
  have u := R_X12_unit_eq d x
  rw [r_isF tk r1 r2 ht (y := 2) (k := 3) rfl (by omega) k3, Option.bind_some] at u
  dsimp only at u
  rw [if_pos rfl, if_neg (fun q => q r1), r2, n_ok (by omega), n_gd (by omega), nI_clamp (by omega), (tk.2.2.2.2 t ht).1, if_pos (show nI (zkr (kd t)) < 32 from nI_lt (b := 32) b2 (by omega)), r_fl tk r1 r2 ht, Option.bind_some] at u
  have e := H_X12_expression_23_eq d 0 x
  rw [r_isF tk r1 r2 ht (y := 6) (k := 11) rfl (by omega) k11, Option.bind_some] at e
  dsimp only at e
  rw [if_pos rfl, u, Option.bind_some, m_ni (show 13 ≠ 14 by omega), m_eq, if_neg (show ¬ (1 : Int32) ≤ 0 by decide)] at e
  exact ⟨_, e, by rw [m_ni (by omega), m_eq]; rfl, m_eq, zFr_w2 (zFr_w (by unfold zXR; omega)) (by unfold zXR; omega)⟩
/-- a closing -/
theorem r_close (hs : sd < 2) {x : MzM} {t n c : Nat} {L W : List Nat} (tk : zTkR kd vl nr pl N x) (ht : t < N) (hr : zRs x t (n + 1) (L ++ 6 :: W) c) (k : kd t = 12) (hn : n < 10) (hL : zLk 2 L) (hW : W.length ≤ 20) (h1 : 420 * sd ≤ c) (h2 : c + L.length ≤ 420 * sd + t) : (t < 400 ∧ ∃ x3, H_X12_expression_96 d 0 x = H_X12_expression_96 d 0 x3 ∧ zRs x3 (t + 1) n W (c + L.length) ∧ t + 1 < N ∧ zCA x x3 c (L.map zoc) ∧ zFr (zXR sd) x x3) ∨ (t = 400 ∧ zRX sd pl x (H_X12_expression_96 d 0 x) 2 400) := by
  have l := tk.2.1
  have e := r_96cl (d := d) tk ht hr hn k
  obtain ⟨r1, r2, r3, r4, r5, r6⟩ := hr
  have ll := zLk_l hL
  have la : (L ++ 6 :: W).length = L.length + (W.length + 1) := List.length_append
  obtain ⟨x1, e1, f1, a1, a2, a3⟩ := r_out (d := d) (y := 0) hs L (6 :: W) x c (zLk_op hL) (Or.inl ⟨rfl, fun a W' q => ⟨fun z => absurd z (by omega), fun _ => ((List.cons.inj q).1).symm⟩⟩) r4 r5 r6 h1 (by omega) (by omega)
  have a1 : mz_rd x1 239 43 = nI (W.length + 1) := a1
  have g : ∀ i, i ≠ 39 → i ≠ 43 → mz_rd x1 239 i = mz_rd x 239 i := fun i p q => f1.1 239 i (by omega)
  rw [r_outE, e1, Option.bind_some, a1, nI_pred, m_ni (show 12 ≠ 43 by omega), (g 12 (by omega) (by omega)).trans r3, nI_pred] at e
  obtain ⟨x2, hx⟩ : ∃ q : MzM, q = mz_wr (mz_wr x1 239 43 (nI W.length)) 239 12 (nI n) := ⟨_, rfl⟩
  rw [← hx] at e
  have f2 : zFr (zXR sd) x x2 := by
    rw [hx]
    exact zFr_w2 (zFr_w2 (zXR_o f1) (by unfold zXR; omega)) (by unfold zXR; omega)
  have p13 : mz_rd x2 239 13 = 0 := by rw [hx, m_ni (by omega), m_ni (by omega)]; exact (g _ (by omega) (by omega)).trans r1
  have p11 : mz_rd x2 239 11 = nI t := by rw [hx, m_ni (by omega), m_ni (by omega)]; exact (g _ (by omega) (by omega)).trans r2
  have p12 : mz_rd x2 239 12 = nI n := by rw [hx, m_eq]
  have p43 : mz_rd x2 239 43 = nI W.length := by rw [hx, m_ni (by omega), m_eq]
  have p39 : mz_rd x2 239 39 = nI (c + L.length) := by rw [hx, m_ni (by omega), m_ni (by omega)]; exact a2
  have pA : zCA x x2 c (L.map zoc) := zCA_post a3 (fun a i z => by rw [hx, m_ne (by omega), m_ne (by omega)])
  have wW : zWt x W := by
    clear e r4 la hL a3 a2 pA p39 h2 e1 ll
    induction L with
    | nil => exact r5.2.2
    | cons w L ih => exact ih r5.2.2
  have pW : zWt x2 W := zWt_f wW (fun i hi => by
    rw [hx, m_ne (by omega), m_ne (by omega)]
    exact f1.1 267 i (by omega))
  by_cases c4 : t < 400
  · rw [r_go p11 c4, Option.bind_some] at e
    refine Or.inl ⟨c4, _, e, ⟨?_, m_eq, ?_, ?_, zWt_f pW (fun i _ => m_ne (by omega)), ?_⟩, tk.2.2.2.1 t ht (by omega) c4, zCA_post pA (fun a i z => m_ne (by omega)), zFr_w2 f2 (by unfold zXR; omega)⟩
    · rw [m_ni (by omega)]; exact p13
    · rw [m_ni (by omega)]; exact p12
    · rw [m_ni (by omega)]; exact p43
    · rw [m_ni (by omega)]; exact p39
  · have t4 : t = 400 := by omega
    subst t4
    obtain ⟨x3, hx3⟩ : ∃ q : MzM, q = mz_wr (mz_wr x2 239 13 2) 239 14 (nI (pl 400)) := ⟨_, rfl⟩
    have f3 : zFr (zXR sd) x x3 := by rw [hx3]; exact zFr_w2 (zFr_w2 f2 (by unfold zXR; omega)) (by unfold zXR; omega)
    have q13 : mz_rd x3 239 13 = nI 2 := by rw [hx3, m_ni (by omega), m_eq]; rfl
    obtain ⟨x4, e4, f4⟩ := r_96D (d := d) (W := W) hs q13 (Or.inr rfl) (by rw [hx3, m_ni (by omega), m_ni (by omega)]; exact p43) (zWt_f pW (fun i _ => by rw [hx3, m_ne (by omega), m_ne (by omega)])) (by rw [hx3, m_ni (by omega), m_ni (by omega)]; exact p39) (by omega) (by omega) (by omega)
    rw [r_go4 (zTkR_x tk f2) p13 p11 ht, Option.bind_some, ← hx3, e4] at e
    refine Or.inr ⟨rfl, x4, e, (f4.1 239 13 (by omega)).trans q13, (f4.1 239 14 (by omega)).trans ?_, zFr_t f3 (zXR_o f4)⟩
    rw [hx3, m_eq]
/-- not closed -/
theorem r_noclose (hs : sd < 2) {x : MzM} {t n c : Nat} {W : List Nat} (tk : zTkR kd vl nr pl N x) (ht : t < N) (hr : zRs x t (n + 1) W c) (k : kd t ≠ 12) (k6 : kd t ≠ 6 ∧ kd t ≠ 7) (k8 : kd t ≠ 8 ∧ kd t ≠ 9) (hn : n < 10) (hW : W.length ≤ 20) (h1 : 420 * sd ≤ c) (h2 : c ≤ 420 * sd + t) : zRX sd pl x (H_X12_expression_96 d 0 x) 1 t := by
  have l := tk.2.1
  have e := r_96no (d := d) tk ht hr k6 k8 (fun z => absurd z k)
  obtain ⟨r1, r2, r3, r4, r5, r6⟩ := hr
  rw [if_neg (nI_nle (by omega) (by omega)), r_fl tk r1 r2 ht, Option.bind_some] at e
  obtain ⟨x3, hx3⟩ : ∃ q : MzM, q = mz_wr (mz_wr x 239 13 1) 239 14 (nI (pl t)) := ⟨_, rfl⟩
  obtain ⟨x4, e4, f4⟩ := r_outD (d := d) (W := W) (x := x3) hs (by rw [hx3, m_ni (by omega), m_ni (by omega)]; exact r4) (zWt_f r5 (fun i _ => by rw [hx3, m_ne (by omega), m_ne (by omega)])) (by rw [hx3, m_ni (by omega), m_ni (by omega)]; exact r6) h1 (by omega) (by omega)
  rw [← hx3, e4, Option.bind_some] at e
  refine ⟨x4, e, (f4.1 239 13 (by omega)).trans ?_, (f4.1 239 14 (by omega)).trans ?_, zFr_t ?_ (zXR_o f4)⟩
  · rw [hx3, m_ni (by omega), m_eq]; rfl
  · rw [hx3, m_eq]
  · rw [hx3]
    exact zFr_w2 (zFr_w (by unfold zXR; omega)) (by unfold zXR; omega)
end ZRmain
