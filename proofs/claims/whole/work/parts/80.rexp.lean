/-! the reference reads an expression -/
/-- its kinds of tokens -/
def zkr (k : Nat) : Nat := if 13 ≤ k then k + 7 else match k with
  | 0 => 0
  | 1 => 3
  | 2 => 1
  | 3 => 2
  | 4 => 4
  | 5 => 5
  | 6 => 8
  | 7 => 9
  | 8 => 10
  | 9 => 15
  | 10 => 13
  | 11 => 6
  | _ => 7
theorem zkr_lt : ∀ k, k < 34 → zkr k < 41 := by decide +kernel
theorem zkr_inj : ∀ a, a < 34 → ∀ b, b < 34 → zkr a = zkr b → a = b := by decide +kernel
theorem zkr_32 : ∀ k, k < 25 → zkr k < 32 := by decide +kernel
def zTkR (kd vl nr pl : Nat → Nat) (N : Nat) (x : MzM) : Prop := (∀ i, kd i < 34 ∧ vl i < 10000) ∧ N ≤ 401 ∧ 0 < N ∧ (∀ i, i < N → kd i ≠ 0 → i < 400 → i + 1 < N) ∧ ∀ i, i < N → mz_rd x 242 i = nI (zkr (kd i)) ∧ mz_rd x 243 i = nI (pl i) ∧ (kd i = 3 → mz_rd x 244 i = nI (vl i)) ∧ (kd i = 2 → mz_rl x 245 i = lN (nr i))
/-- what waits, the top first -/
def zWt (x : MzM) : List Nat → Prop
  | [] => True
  | w :: W => (w = 6 ∨ w = 8 ∨ w = 9 ∨ w = 10 ∨ w = 15) ∧ mz_rd x 267 W.length = nI w ∧ zWt x W
def zRs (x : MzM) (t n : Nat) (W : List Nat) (c : Nat) : Prop := mz_rd x 239 13 = 0 ∧ mz_rd x 239 11 = nI t ∧ mz_rd x 239 12 = nI n ∧ mz_rd x 239 43 = nI W.length ∧ zWt x W ∧ mz_rd x 239 39 = nI c
def zXR (sd a i : Nat) : Prop := (a = 239 ∧ (i = 11 ∨ i = 12 ∨ i = 13 ∨ i = 14 ∨ i = 39 ∨ i = 43)) ∨ ((a = 265 ∨ a = 266) ∧ 420 * sd ≤ i ∧ i < 420 * sd + 420) ∨ a = 267
def zCA (x x' : MzM) (c : Nat) (E : ZP) : Prop := (∀ i q, E[i]? = some q → mz_rd x' 265 (c + i) = nI q.1 ∧ (q.1 ≤ 1 → mz_rd x' 266 (c + i) = nI q.2)) ∧ ∀ i, i < c → mz_rd x' 265 i = mz_rd x 265 i ∧ mz_rd x' 266 i = mz_rd x 266 i
def zoc (w : Nat) : Nat × Nat := (if w = 8 then 2 else if w = 9 then 3 else if w = 10 then 4 else 5, 0)
theorem zWt_f {x x' : MzM} : ∀ {W : List Nat}, zWt x W → (∀ i, i < W.length → mz_rd x' 267 i = mz_rd x 267 i) → zWt x' W := by
  intro W
  induction W with
  | nil => intro _ _; trivial
  | cons w W ih =>
    intro h g
    exact ⟨h.1, (g W.length (by rw [List.length_cons]; omega)).trans h.2.1, ih h.2.2 (fun i hi => g i (by rw [List.length_cons]; omega))⟩
theorem zCA_k {x x' : MzM} {c : Nat} (g : ∀ a i, a = 265 ∨ a = 266 → mz_rd x' a i = mz_rd x a i) : zCA x x' c [] := ⟨fun i q h => absurd (List.getElem?_eq_some_iff.mp h).1 (by simp), fun i _ => ⟨g _ _ (Or.inl rfl), g _ _ (Or.inr rfl)⟩⟩
theorem zCA_app {x x1 x2 : MzM} {c : Nat} {P Q : ZP} (h1 : zCA x x1 c P) (h2 : zCA x1 x2 (c + P.length) Q) : zCA x x2 c (P ++ Q) := by
  refine ⟨fun i q h => ?_, fun i hi => ⟨((h2.2 i (by omega)).1).trans (h1.2 i hi).1, ((h2.2 i (by omega)).2).trans (h1.2 i hi).2⟩⟩
  by_cases l : i < P.length
  · rw [List.getElem?_append_left l] at h
    have k := h1.1 i q h
    have g := h2.2 (c + i) (by omega)
    exact ⟨g.1.trans k.1, fun z => g.2.trans (k.2 z)⟩
  · rw [List.getElem?_append_right (by omega)] at h
    have k := h2.1 (i - P.length) q h
    rw [show c + P.length + (i - P.length) = c + i by omega] at k
    exact k
theorem zCA_post {x x1 x2 : MzM} {c : Nat} {P : ZP} (h1 : zCA x x1 c P) (g : ∀ a i, a = 265 ∨ a = 266 → mz_rd x2 a i = mz_rd x1 a i) : zCA x x2 c P := by
  have := zCA_app h1 (zCA_k (c := c + P.length) g)
  rw [List.append_nil] at this
  exact this
theorem zCA_pre {x x1 x2 : MzM} {c : Nat} {P : ZP} (g : ∀ a i, a = 265 ∨ a = 266 → mz_rd x1 a i = mz_rd x a i) (h1 : zCA x1 x2 c P) : zCA x x2 c P := by
  have := zCA_app (P := []) (zCA_k (c := c) g) h1
  exact this
def zLk (j : Nat) (L : List Nat) : Prop := L = [] ∨ (1 ≤ j ∧ ∃ s, (s = 10 ∨ s = 15) ∧ L = [s]) ∨ (2 ≤ j ∧ ∃ w, (w = 8 ∨ w = 9) ∧ (L = [w] ∨ ∃ s, (s = 10 ∨ s = 15) ∧ L = [s, w]))
def zBk (j : Nat) (W : List Nat) : Prop := ∀ h W', W = h :: W' → (j = 1 → h = 6 ∨ h = 8 ∨ h = 9) ∧ (j = 2 → h = 6)
theorem zLk_op {j : Nat} {L : List Nat} (h : zLk j L) : ∀ w, w ∈ L → w = 8 ∨ w = 9 ∨ w = 10 ∨ w = 15 := by
  intro w hw
  rcases h with rfl | ⟨_, s, hs, rfl⟩ | ⟨_, v, hv, rfl | ⟨s, hs, rfl⟩⟩
  · exact absurd hw (by simp)
  · have : w = s := by simpa using hw
    omega
  · have : w = v := by simpa using hw
    omega
  · have : w = s ∨ w = v := by simpa using hw
    omega
theorem zLk_1 {L : List Nat} (h : zLk 1 L) : ∀ w, w ∈ L → w = 10 ∨ w = 15 := by
  intro w hw
  rcases h with rfl | ⟨_, s, hs, rfl⟩ | ⟨z, _⟩
  · exact absurd hw (by simp)
  · have : w = s := by simpa using hw
    omega
  · omega
theorem zLk_l {j : Nat} {L : List Nat} (h : zLk j L) : L.length ≤ j ∧ L.length ≤ 2 := by
  rcases h with rfl | ⟨_, s, hs, rfl⟩ | ⟨_, v, hv, rfl | ⟨s, hs, rfl⟩⟩
  · exact ⟨Nat.zero_le _, Nat.zero_le _⟩
  · exact ⟨by show 1 ≤ j; omega, by show 1 ≤ 2; omega⟩
  · exact ⟨by show 1 ≤ j; omega, by show 1 ≤ 2; omega⟩
  · exact ⟨by show 2 ≤ j; omega, by show 2 ≤ 2; omega⟩
theorem zLk_m {j k : Nat} {L : List Nat} (h : zLk j L) (l : j ≤ k) : zLk k L := by
  rcases h with h | ⟨a, h⟩ | ⟨a, h⟩
  · exact Or.inl h
  · exact Or.inr (Or.inl ⟨by omega, h⟩)
  · exact Or.inr (Or.inr ⟨by omega, h⟩)
theorem zBk_d {j : Nat} {W : List Nat} (h : zBk (j + 1) W) (hj : j < 2) : zBk j W := by
  intro a W' e
  have k := h a W' e
  exact ⟨fun z => Or.inl (k.2 (by omega)), fun z => absurd z (by omega)⟩
theorem zWt_split {x : MzM} : ∀ {W : List Nat}, zWt x W → ∃ L V, W = L ++ V ∧ (∀ w, w ∈ L → w = 8 ∨ w = 9 ∨ w = 10 ∨ w = 15) ∧ zBk 2 V := by
  intro W
  induction W with
  | nil => intro _; exact ⟨[], [], rfl, fun _ h => absurd h (by simp), fun _ _ e => absurd e (by simp)⟩
  | cons w W ih =>
    intro h
    by_cases c : w = 6
    · refine ⟨[], w :: W, rfl, fun _ h => absurd h (by simp), fun a W' e => ?_⟩
      have : w = a := (List.cons.inj e).1
      exact ⟨fun z => absurd z (by omega), fun _ => by omega⟩
    · obtain ⟨L, V, e, h1, h2⟩ := ih h.2.2
      refine ⟨w :: L, V, by rw [e]; rfl, fun v hv => ?_, h2⟩
      rcases List.mem_cons.mp hv with e | e
      · have := h.1; omega
      · exact h1 v e
section ZRexp
variable {kd vl nr pl : Nat → Nat} {N sd d : Nat}
theorem zTkR_f {x x' : MzM} {F : Nat → Nat → Prop} (h : zTkR kd vl nr pl N x) (f : zFr F x x') (hF : ∀ a i, F a i → a < 242 ∨ 245 < a) : zTkR kd vl nr pl N x' := by
  obtain ⟨h1, h2, h3, h4, h5⟩ := h
  have g : ∀ a i, 242 ≤ a → a ≤ 245 → mz_rd x' a i = mz_rd x a i := fun a i p q => f.1 a i (fun z => by have := hF a i z; omega)
  have e : ∀ i, mz_rl x' 245 i = mz_rl x 245 i := fun i => by unfold mz_rl; rw [f.2]
  refine ⟨h1, h2, h3, h4, fun i hi => ?_⟩
  obtain ⟨a, b, c, q⟩ := h5 i hi
  exact ⟨(g _ _ (by omega) (by omega)).trans a, (g _ _ (by omega) (by omega)).trans b, fun z => (g _ _ (by omega) (by omega)).trans (c z), fun z => (e i).trans (q z)⟩
theorem zTkR_x {x x' : MzM} (h : zTkR kd vl nr pl N x) (f : zFr (zXR sd) x x') : zTkR kd vl nr pl N x' := zTkR_f h f (fun a i z => by unfold zXR at z; omega)
theorem r_isT {x : MzM} {t k : Nat} {y : Int32} (h : zTkR kd vl nr pl N x) (h13 : mz_rd x 239 13 = 0) (h11 : mz_rd x 239 11 = nI t) (ht : t < N) (hy : y = nI (zkr k)) (e : kd t = k) : R_X12_is d y x = some (1, x) := by
  have l := h.2.1
  rw [R_X12_is_eq, if_neg (fun z => z h13), h11, n_ok (by omega), n_gd (by omega), nI_clamp (by omega), (h.2.2.2.2 t ht).1, if_neg (fun z => z (by rw [e, hy]))]
theorem r_isF {x : MzM} {t k : Nat} {y : Int32} (h : zTkR kd vl nr pl N x) (h13 : mz_rd x 239 13 = 0) (h11 : mz_rd x 239 11 = nI t) (ht : t < N) (hy : y = nI (zkr k)) (hk : k < 34) (e : kd t ≠ k) : R_X12_is d y x = some (0, x) := by
  have l := h.2.1
  have b := (h.1 t).1
  have b1 := zkr_lt _ b
  have b2 := zkr_lt _ hk
  rw [R_X12_is_eq, if_neg (fun z => z h13), h11, n_ok (by omega), n_gd (by omega), nI_clamp (by omega), (h.2.2.2.2 t ht).1, if_pos (fun z => e (zkr_inj _ b _ hk ((nI_eq (by omega) (by omega)).mp (by rw [z, hy]))))]
theorem r_fd {f : Nat} (hf : f = 1 ∨ f = 2) : ¬ nI f = 0 ∧ ¬ nI f ≤ 0 ∧ 0 < nI f := by
  rcases hf with rfl | rfl
  · decide
  · decide
theorem r_isX {x : MzM} {f : Nat} {y : Int32} (h13 : mz_rd x 239 13 = nI f) (hf : f = 1 ∨ f = 2) : R_X12_is d y x = some (0, x) := by
  rw [R_X12_is_eq, h13, if_pos (r_fd hf).1]
theorem r_fl {x : MzM} {t : Nat} {y : Int32} (h : zTkR kd vl nr pl N x) (h13 : mz_rd x 239 13 = 0) (h11 : mz_rd x 239 11 = nI t) (ht : t < N) : R_X12_fail d y x = some (mz_wr (mz_wr x 239 13 y) 239 14 (nI (pl t))) := by
  have l := h.2.1
  rw [R_X12_fail_eq, h13, if_pos (show (0 : Int32) ≤ 0 by decide), m_ni (show 11 ≠ 13 by omega), h11, n_ok (by omega), n_gd (by omega), nI_clamp (by omega), m_ne (show 243 ≠ 239 by omega), (h.2.2.2.2 t ht).2.1]
theorem r_flD {x : MzM} {f : Nat} {y : Int32} (h13 : mz_rd x 239 13 = nI f) (hf : f = 1 ∨ f = 2) : R_X12_fail d y x = some x := by
  rw [R_X12_fail_eq, h13, if_neg (r_fd hf).2.1]
theorem r_go {x : MzM} {t : Nat} (h11 : mz_rd x 239 11 = nI t) (ht : t < 400) : R_X12_goesOn d x = some (mz_wr x 239 11 (nI (t + 1))) := by
  rw [R_X12_goesOn_eq, h11, if_pos (show ¬ nI t = 400 from k_ne (b := 400) (by omega) (by omega) (by omega)), nI_1]
theorem r_go4 {x : MzM} (h : zTkR kd vl nr pl N x) (h13 : mz_rd x 239 13 = 0) (h11 : mz_rd x 239 11 = nI 400) (ht : 400 < N) : R_X12_goesOn d x = some (mz_wr (mz_wr x 239 13 2) 239 14 (nI (pl 400))) := by
  rw [R_X12_goesOn_eq, if_neg (fun z => z h11), r_fl h h13 h11 ht, Option.bind_some]
theorem r_goD {x : MzM} {f t : Nat} (h13 : mz_rd x 239 13 = nI f) (hf : f = 1 ∨ f = 2) (h11 : mz_rd x 239 11 = nI t) (ht : t ≤ 400) : ∃ x', R_X12_goesOn d x = some x' ∧ zFr (fun a i => a = 239 ∧ i = 11) x x' := by
  by_cases c : t = 400
  · subst c
    refine ⟨x, ?_, zFr_r⟩
    rw [R_X12_goesOn_eq, if_neg (fun z => z h11), r_flD h13 hf, Option.bind_some]
  · exact ⟨_, r_go h11 (by omega), zFr_w ⟨rfl, rfl⟩⟩
theorem r_em {x : MzM} {c : Nat} {a b : Int32} (h : mz_rd x 239 39 = nI c) (hc : c < 840) : R_X12_emit d a b x = some (mz_wr (mz_wr (mz_wr x 265 c a) 266 c b) 239 39 (nI (c + 1))) := by
  rw [R_X12_emit_eq, h, n_ok (by omega), n_gd hc, nI_clamp (by omega), m_ne (show 239 ≠ 265 by omega), h, n_ok (by omega), n_gd hc, nI_clamp (by omega), m_ne (show 239 ≠ 266 by omega), m_ne (show 239 ≠ 265 by omega), h, nI_1]
theorem r_emA {x : MzM} {c a b : Nat} : zCA x (mz_wr (mz_wr (mz_wr x 265 c (nI a)) 266 c (nI b)) 239 39 (nI (c + 1))) c [(a, b)] := by
  refine ⟨fun i q h => ?_, fun i hi => ?_⟩
  · have li : i < 1 := (List.getElem?_eq_some_iff.mp h).1
    have : i = 0 := by omega
    subst this
    have hc : (a, b) = q := Option.some.inj h
    rw [← hc]
    refine ⟨?_, fun _ => ?_⟩
    · rw [m_ne (by omega), m_ne (by omega)]; exact m_eq
    · rw [m_ne (by omega)]; exact m_eq
  · refine ⟨?_, ?_⟩
    · rw [m_ne (by omega), m_ne (by omega), m_ni (by omega)]
    · rw [m_ne (by omega), m_ni (by omega), m_ne (by omega)]
theorem zoc_e {w : Nat} (h : w = 8 ∨ w = 9 ∨ w = 10 ∨ w = 15) {x : MzM} {β : Type} (G : MzM → Option β) : (if ¬ nI w = 8 then (if ¬ nI w = 9 then (if ¬ nI w = 10 then ((R_X12_emit d 5 0 x).bind G) else ((R_X12_emit d 4 0 x).bind G)) else ((R_X12_emit d 3 0 x).bind G)) else ((R_X12_emit d 2 0 x).bind G)) = (R_X12_emit d (nI (zoc w).1) (nI (zoc w).2) x).bind G := by
  rcases h with rfl | rfl | rfl | rfl
  · rw [if_neg (show ¬ ¬ nI 8 = 8 from fun z => z rfl)]; rfl
  · rw [if_pos (show ¬ nI 9 = 8 by decide), if_neg (show ¬ ¬ nI 9 = 9 from fun z => z rfl)]; rfl
  · rw [if_pos (show ¬ nI 10 = 8 by decide), if_pos (show ¬ nI 10 = 9 by decide), if_neg (show ¬ ¬ nI 10 = 10 from fun z => z rfl)]; rfl
  · rw [if_pos (show ¬ nI 15 = 8 by decide), if_pos (show ¬ nI 15 = 9 by decide), if_pos (show ¬ nI 15 = 10 by decide)]; rfl
/-- signs that wait come out -/
theorem r_out {y : Int32} (hs : sd < 2) : ∀ (L W : List Nat) (x : MzM) (c : Nat), (∀ w, w ∈ L → w = 8 ∨ w = 9 ∨ w = 10 ∨ w = 15) → ((y = 0 ∧ zBk 2 W) ∨ (y = 1 ∧ (∀ w, w ∈ L → w = 10 ∨ w = 15) ∧ zBk 1 W)) → mz_rd x 239 43 = nI (L ++ W).length → zWt x (L ++ W) → mz_rd x 239 39 = nI c → 420 * sd ≤ c → c + L.length ≤ 420 * sd + 420 → (L ++ W).length ≤ 40 → ∃ x', H_X12_comesOut_0 d y x = some x' ∧ zFr (fun a i => (a = 239 ∧ (i = 39 ∨ i = 43)) ∨ ((a = 265 ∨ a = 266) ∧ 420 * sd ≤ i ∧ i < 420 * sd + 420)) x x' ∧ mz_rd x' 239 43 = nI W.length ∧ mz_rd x' 239 39 = nI (c + L.length) ∧ zCA x x' c (L.map zoc) := by
  intro L
  induction L with
  | nil =>
    intro W x c hL hy hw hW hc h1 h2 h3
    refine ⟨x, ?_, zFr_r, hw, hc, zCA_k (fun _ _ _ => rfl)⟩
    rw [H_X12_comesOut_0_eq]
    match W, hy, hw, hW, h3 with
    | [], hy, hw, hW, h3 =>
      have hw : mz_rd x 239 43 = 0 := hw
      rw [hw, if_pos (show (0 : Int32) ≤ 0 by decide)]
    | h :: W', hy, hw, hW, h3 =>
      have hw : mz_rd x 239 43 = nI (W'.length + 1) := hw
      have h3 : W'.length + 1 ≤ 40 := h3
      have hW2 : mz_rd x 267 W'.length = nI h := hW.2.1
      rw [hw, if_neg (nI_nle (by omega) (by omega)), nI_pred, n_ok (by omega), n_gd (by omega), nI_clamp (by omega), hW2]
      rcases hy with ⟨rfl, hb⟩ | ⟨rfl, _, hb⟩
      · have : h = 6 := (hb h W' rfl).2 rfl
        rw [this, if_pos (show nI 6 = (6 : Int32) from rfl)]
      · have : h = 6 ∨ h = 8 ∨ h = 9 := (hb h W' rfl).1 rfl
        rcases this with rfl | rfl | rfl
        · rw [if_pos (show nI 6 = (6 : Int32) from rfl)]
        · rw [if_neg (show ¬ nI 8 = (6 : Int32) by decide), if_neg (show ¬ (1 : Int32) = 0 by decide), if_pos (show nI 8 = (8 : Int32) from rfl)]
        · rw [if_neg (show ¬ nI 9 = (6 : Int32) by decide), if_neg (show ¬ (1 : Int32) = 0 by decide), if_neg (show ¬ nI 9 = (8 : Int32) by decide), if_neg (show ¬ ¬ nI 9 = (9 : Int32) from fun z => z rfl)]
  | cons w L ih =>
    intro W x c hL hy hw hW hc h1 h2 h3
    have hw : mz_rd x 239 43 = nI ((L ++ W).length + 1) := hw
    have h3 : (L ++ W).length + 1 ≤ 40 := h3
    have h2 : c + (L.length + 1) ≤ 420 * sd + 420 := h2
    have hW2 : mz_rd x 267 (L ++ W).length = nI w := hW.2.1
    have hW3 : zWt x (L ++ W) := hW.2.2
    have ow := hL w (List.mem_cons_self ..)
    have n6 : ¬ nI w = 6 := by rcases ow with rfl | rfl | rfl | rfl <;> decide
    obtain ⟨x1, hx⟩ : ∃ q : MzM, q = mz_wr x 239 43 (nI (L ++ W).length) := ⟨_, rfl⟩
    have c1 : mz_rd x1 239 39 = nI c := by rw [hx, m_ni (by omega)]; exact hc
    have em := r_em (d := d) (a := nI (zoc w).1) (b := nI (zoc w).2) c1 (by omega)
    obtain ⟨x2, hx2⟩ : ∃ q : MzM, q = mz_wr (mz_wr (mz_wr x1 265 c (nI (zoc w).1)) 266 c (nI (zoc w).2)) 239 39 (nI (c + 1)) := ⟨_, rfl⟩
    rw [← hx2] at em
    have st : H_X12_comesOut_0 d y x = H_X12_comesOut_0 d y x2 := by
      rw [H_X12_comesOut_0_eq d y x, hw, if_neg (nI_nle (by omega) (by omega)), nI_pred, n_ok (by omega), n_gd (by omega), nI_clamp (by omega), hW2, if_neg n6, ← hx]
      rcases hy with ⟨rfl, hb⟩ | ⟨rfl, hl, hb⟩
      · rw [if_pos rfl, zoc_e ow, em, Option.bind_some]
      · have q := hl w (List.mem_cons_self ..)
        have n8 : ¬ nI w = 8 := by rcases q with rfl | rfl <;> decide
        have n9 : ¬ nI w = 9 := by rcases q with rfl | rfl <;> decide
        rw [if_neg (show ¬ (1 : Int32) = 0 by decide), if_neg n8, if_pos n9, zoc_e ow, em, Option.bind_some]
    have fr1 : zFr (fun a i => (a = 239 ∧ (i = 39 ∨ i = 43)) ∨ ((a = 265 ∨ a = 266) ∧ 420 * sd ≤ i ∧ i < 420 * sd + 420)) x x2 := by
      rw [hx2, hx]
      exact zFr_w2 (zFr_w2 (zFr_w2 (zFr_w (by omega)) (by omega)) (by omega)) (by omega)
    obtain ⟨x', e', f', a1, a2, a3⟩ := ih W x2 (c + 1) (fun v hv => hL v (List.mem_cons_of_mem _ hv)) (by
      rcases hy with hy | ⟨a, b, c⟩
      · exact Or.inl hy
      · exact Or.inr ⟨a, fun v hv => b v (List.mem_cons_of_mem _ hv), c⟩) (by rw [hx2, m_ni (by omega), m_ne (by omega), m_ne (by omega), hx, m_eq]) (zWt_f hW3 (fun i _ => fr1.1 267 i (by omega))) (by rw [hx2, m_eq]) (by omega) (by omega) (by omega)
    refine ⟨x', st.trans e', zFr_t fr1 f', a1, ?_, ?_⟩
    · rw [a2, List.length_cons]
      congr 1
      omega
    · have k : zCA x x2 c [zoc w] := by
        rw [hx2]
        exact zCA_pre (x1 := x1) (fun a i z => by rw [hx, m_ne (by omega)]) r_emA
      exact zCA_app k a3
theorem r_outE {y : Int32} {x : MzM} : R_X12_comesOut d y x = H_X12_comesOut_0 d y x := by
  rw [R_X12_comesOut_eq, H_X12_comesOut_0_eq]
/-- whatever waits: it ends -/
theorem r_outD (hs : sd < 2) {W : List Nat} {x : MzM} {c : Nat} (hw : mz_rd x 239 43 = nI W.length) (hW : zWt x W) (hc : mz_rd x 239 39 = nI c) (h1 : 420 * sd ≤ c) (h2 : c + W.length ≤ 420 * sd + 420) (h3 : W.length ≤ 40) : ∃ x', R_X12_comesOut d 0 x = some x' ∧ zFr (fun a i => (a = 239 ∧ (i = 39 ∨ i = 43)) ∨ ((a = 265 ∨ a = 266) ∧ 420 * sd ≤ i ∧ i < 420 * sd + 420)) x x' := by
  obtain ⟨L, V, rfl, k1, k2⟩ := zWt_split hW
  have l : (L ++ V).length = L.length + V.length := List.length_append
  obtain ⟨x', e, f, _⟩ := r_out (d := d) (y := 0) hs L V x c k1 (Or.inl ⟨rfl, k2⟩) hw hW hc h1 (by omega) h3
  exact ⟨x', r_outE.trans e, f⟩
theorem zXR_o {x x' : MzM} (f : zFr (fun a i => (a = 239 ∧ (i = 39 ∨ i = 43)) ∨ ((a = 265 ∨ a = 266) ∧ 420 * sd ≤ i ∧ i < 420 * sd + 420)) x x') : zFr (zXR sd) x x' := zFr_m f (fun a i z => by unfold zXR; omega)
def zRX (sd : Nat) (pl : Nat → Nat) (x : MzM) (h : Option MzM) (f e : Nat) : Prop := ∃ x', h = some x' ∧ mz_rd x' 239 13 = nI f ∧ mz_rd x' 239 14 = nI (pl e) ∧ zFr (zXR sd) x x'
theorem zRX_t {x x1 : MzM} {h h' : Option MzM} {f e : Nat} (g : zFr (zXR sd) x x1) (q : h = h') (k : zRX sd pl x1 h' f e) : zRX sd pl x h f e := by
  obtain ⟨x', a, b, c, f⟩ := k
  exact ⟨x', q.trans a, b, c, zFr_t g f⟩
theorem r_unitD {x : MzM} {f : Nat} (h13 : mz_rd x 239 13 = nI f) (hf : f = 1 ∨ f = 2) : R_X12_unit d x = some x := by
  rw [R_X12_unit_eq, r_isX h13 hf, Option.bind_some]
  dsimp only
  rw [if_pos rfl, h13, if_pos (r_fd hf).1, r_flD h13 hf, Option.bind_some]
theorem r_23D {x : MzM} {f : Nat} (h13 : mz_rd x 239 13 = nI f) (hf : f = 1 ∨ f = 2) : H_X12_expression_23 d 0 x = some x := by
  rw [H_X12_expression_23_eq, r_isX h13 hf, Option.bind_some]
  dsimp only
  rw [if_pos rfl, r_unitD h13 hf, Option.bind_some, h13, if_neg (r_fd hf).2.1]
theorem r_96D (hs : sd < 2) {x : MzM} {f c : Nat} {W : List Nat} (h13 : mz_rd x 239 13 = nI f) (hf : f = 1 ∨ f = 2) (hw : mz_rd x 239 43 = nI W.length) (hW : zWt x W) (hc : mz_rd x 239 39 = nI c) (h1 : 420 * sd ≤ c) (h2 : c + W.length ≤ 420 * sd + 420) (h3 : W.length ≤ 40) : ∃ x', H_X12_expression_96 d 0 x = some x' ∧ zFr (fun a i => (a = 239 ∧ (i = 39 ∨ i = 43)) ∨ ((a = 265 ∨ a = 266) ∧ 420 * sd ≤ i ∧ i < 420 * sd + 420)) x x' := by
  obtain ⟨x', e, fr⟩ := r_outD (d := d) hs hw hW hc h1 h2 h3
  refine ⟨x', ?_, fr⟩
  rw [H_X12_expression_96_eq, r_isX h13 hf, Option.bind_some]
  dsimp only
  rw [if_pos rfl, r_isX h13 hf, Option.bind_some]
  dsimp only
  rw [if_neg (fun z => z rfl), r_isX h13 hf, Option.bind_some]
  dsimp only
  rw [if_neg (fun z => z rfl), r_isX h13 hf, Option.bind_some]
  dsimp only
  rw [if_neg (fun z => z rfl), r_isX h13 hf, Option.bind_some]
  dsimp only
  rw [if_pos rfl, r_flD h13 hf, Option.bind_some, e, Option.bind_some]
  by_cases q : mz_rd x 239 12 ≤ 0
  · rw [if_pos q]
  · rw [if_neg q]
end ZRexp
