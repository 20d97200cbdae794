/-! the reference cuts a tape -/
def zByR (x : MzM) (b : Nat → Nat) (s : Nat) : Prop := s ≤ 2000 ∧ mz_rd x 239 4 = nI s ∧ (∀ i, b i < 256) ∧ ∀ i, i < s → mz_rd x 241 i &&& 255 = nI (b i)
def zTr (x : MzM) (b : Nat → Nat) (s j : Nat) : Prop := mz_rd x 239 10 = nI j ∧ ∀ i, i < j → mz_rd x 242 i = nI (zkr (zkq b s (zplc b s i))) ∧ mz_rd x 243 i = nI (zplc b s i) ∧ (zkq b s (zplc b s i) = 3 → mz_rd x 244 i = nI (zvq b s (zplc b s i))) ∧ (zkq b s (zplc b s i) = 2 → mz_rl x 245 i = lN (znm 27 b s i))
def zFu (x x' : MzM) : Prop := (∀ a i, ¬ ((a = 239 ∧ i = 10) ∨ a = 242 ∨ a = 243 ∨ a = 244) → mz_rd x' a i = mz_rd x a i) ∧ ∀ a, a ≠ 245 → x'.2 a = x.2 a
theorem zkey_63 : ∀ k, k < 21 → zkey k < 2 ^ 63 := by decide +kernel
section ZRcut
variable {b : Nat → Nat} {s d : Nat}
theorem zFu_r {x : MzM} : zFu x x := ⟨fun _ _ _ => rfl, fun _ _ => rfl⟩
theorem zFu_t {x x1 x2 : MzM} (h : zFu x x1) (g : zFu x1 x2) : zFu x x2 := ⟨fun a i z => (g.1 a i z).trans (h.1 a i z), fun a z => (g.2 a z).trans (h.2 a z)⟩
theorem zByR_f {x x' : MzM} (h : zByR x b s) (f : zFu x x') : zByR x' b s := ⟨h.1, (f.1 _ _ (by omega)).trans h.2.1, h.2.2.1, fun i hi => by rw [f.1 241 i (by omega)]; exact h.2.2.2 i hi⟩
theorem r_byte {x : MzM} {p : Nat} (h : zByR x b s) (hp : p < 2 ^ 31) : R_X12_byteAt d (nI p) x = some (nI (if p < s then b p else 0), x) := by
  have h1 := h.1
  by_cases c : p < s
  · rw [R_X12_byteAt_eq, h.2.1, if_neg (nI_ge c (by omega)), n_ok hp, n_gd (by omega), nI_clamp hp, h.2.2.2 p c, if_pos c]
  · rw [R_X12_byteAt_eq, h.2.1, if_pos (nI_le (by omega) hp), if_neg c]
    rfl
theorem r_isLt {x : MzM} {c : Nat} (hc : c < 256) : R_X12_isLetter d (nI c) x = some (if zle c = true then 1 else 0, x) := by
  rw [R_X12_isLetter_eq]
  unfold zle
  by_cases c1 : c < 97
  · rw [if_pos (show nI c < 97 from nI_lt (b := 97) c1 (by omega)), if_neg (fun z => by have := of_decide_eq_true z; omega)]
  · rw [if_neg (show ¬ nI c < 97 from nI_nlt (b := 97) (by omega) (by omega))]
    by_cases c2 : 122 < c
    · rw [if_pos (show (122 : Int32) < nI c from nI_lt (a := 122) c2 (by omega)), if_neg (fun z => by have := of_decide_eq_true z; omega)]
    · rw [if_neg (show ¬ (122 : Int32) < nI c from nI_nlt (a := 122) (by omega) (by omega)), if_pos (decide_eq_true (by omega))]
theorem r_isDg {x : MzM} {c : Nat} (hc : c < 256) : R_X12_isDigit d (nI c) x = some (if zdi c = true then 1 else 0, x) := by
  rw [R_X12_isDigit_eq]
  unfold zdi
  by_cases c1 : c < 48
  · rw [if_pos (show nI c < 48 from nI_lt (b := 48) c1 (by omega)), if_neg (fun z => by have := of_decide_eq_true z; omega)]
  · rw [if_neg (show ¬ nI c < 48 from nI_nlt (b := 48) (by omega) (by omega))]
    by_cases c2 : 57 < c
    · rw [if_pos (show (57 : Int32) < nI c from nI_lt (a := 57) c2 (by omega)), if_neg (fun z => by have := of_decide_eq_true z; omega)]
    · rw [if_neg (show ¬ (57 : Int32) < nI c from nI_nlt (a := 57) (by omega) (by omega)), if_pos (decide_eq_true (by omega))]
theorem r_tok {x : MzM} {j : Nat} {k w v : Int32} {n : Int64} (h : mz_rd x 239 10 = nI j) (hj : j < 403) : R_X12_token d k w v n x = some (mz_wr (mz_wl (mz_wr (mz_wr (mz_wr x 242 j k) 243 j w) 244 j v) 245 j n) 239 10 (nI (j + 1))) := by
  rw [R_X12_token_eq, h, n_ok (by omega), n_gd (by omega), nI_clamp (by omega), m_ne (show 239 ≠ 242 by omega), h, n_ok (by omega), n_gd (by omega), nI_clamp (by omega), m_ne (show 239 ≠ 243 by omega), m_ne (show 239 ≠ 242 by omega), h, n_ok (by omega), n_gd (by omega), nI_clamp (by omega), m_ne (show 239 ≠ 244 by omega), m_ne (show 239 ≠ 243 by omega), m_ne (show 239 ≠ 242 by omega), h, n_ok (by omega), n_gd (by omega), nI_clamp (by omega), m_rwl, m_ne (show 239 ≠ 244 by omega), m_ne (show 239 ≠ 243 by omega), m_ne (show 239 ≠ 242 by omega), h, nI_1]
theorem zTr_tok {x x' : MzM} {j : Nat} {v : Int32} {n : Int64} (t : zTr x b s j) (v3 : zkq b s (zplc b s j) = 3 → v = nI (zvq b s (zplc b s j))) (v2 : zkq b s (zplc b s j) = 2 → n = lN (znm 27 b s j)) (hx : x' = mz_wr (mz_wl (mz_wr (mz_wr (mz_wr x 242 j (nI (zkr (zkq b s (zplc b s j))))) 243 j (nI (zplc b s j))) 244 j v) 245 j n) 239 10 (nI (j + 1))) : zTr x' b s (j + 1) ∧ zFu x x' := by
  have r : ∀ a i, mz_rd x' a i = if a = 239 ∧ i = 10 then nI (j + 1) else if a = 244 ∧ i = j then v else if a = 243 ∧ i = j then nI (zplc b s j) else if a = 242 ∧ i = j then nI (zkr (zkq b s (zplc b s j))) else mz_rd x a i := fun a i => by
    rw [hx, m_rw, m_rwl, m_rw, m_rw, m_rw]
  have rl : ∀ i, mz_rl x' 245 i = if i = j then n else mz_rl x 245 i := fun i => by
    rw [hx, m_lw, m_lwl, m_lw, m_lw, m_lw]
    by_cases c : i = j
    · rw [if_pos ⟨rfl, c⟩, if_pos c]
    · rw [if_neg (fun z => c z.2), if_neg c]
  refine ⟨⟨?_, fun i hi => ?_⟩, fun a i z => ?_, fun a z => ?_⟩
  · rw [r, if_pos ⟨rfl, rfl⟩]
  · by_cases c : i = j
    · subst c
      refine ⟨?_, ?_, fun z => ?_, fun z => ?_⟩
      · rw [r, if_neg (by omega), if_neg (by omega), if_neg (by omega), if_pos ⟨rfl, rfl⟩]
      · rw [r, if_neg (by omega), if_neg (by omega), if_pos ⟨rfl, rfl⟩]
      · rw [r, if_neg (by omega), if_pos ⟨rfl, rfl⟩]; exact v3 z
      · rw [rl, if_pos rfl]; exact v2 z
    · obtain ⟨a1, a2, a3, a4⟩ := t.2 i (by omega)
      have g : ∀ a, a = 242 ∨ a = 243 ∨ a = 244 → mz_rd x' a i = mz_rd x a i := fun a z => by
        rw [r, if_neg (by omega), if_neg (by omega), if_neg (by omega), if_neg (by omega)]
      refine ⟨(g _ (by omega)).trans a1, (g _ (by omega)).trans a2, fun z => (g _ (by omega)).trans (a3 z), fun z => ?_⟩
      rw [rl, if_neg c]; exact a4 z
  · rw [r, if_neg (by omega), if_neg (by omega), if_neg (by omega), if_neg (by omega)]
  · rw [hx]
    show (fun i' => if a = 245 ∧ i' = j then n else x.2 a i') = x.2 a
    funext i
    rw [if_neg (fun w => z w.1)]
theorem r_skip {x : MzM} {j : Nat} (h : zByR x b s) (hj : mz_rd x 239 10 = nI j) (j4 : j ≤ 400) : ∀ (f p : Nat), s - p = f → p ≤ s → H_X12_cut_7 d (nI p) x = H_X12_cut_7 d (nI (zRe zbl b s p)) x := by
  have s2 := h.1
  intro f
  induction f with
  | zero => intro p e hp; rw [zRe_no (by omega)]
  | succ f ih =>
    intro p e hp
    have ps : p < s := by omega
    by_cases c : zbl (b p) = true
    · have cc := of_decide_eq_true c
      have bb := h.2.2.1 p
      have ne : ∀ k, k < 256 → b p ≠ k → ¬ nI (b p) = nI k := fun k hk z => k_ne (by omega) (by omega) z
      rw [zRe_go ps c, ← ih (p + 1) (by omega) (by omega), H_X12_cut_7_eq d (nI p) x, hj, if_neg (show ¬ (400 : Int32) < nI j from nI_nlt (a := 400) (by omega) (by omega)), r_byte h (by omega), Option.bind_some]
      dsimp only
      rw [if_pos ps, h.2.1, if_pos (nI_lt ps (by omega)), nI_1]
      by_cases c9 : b p = 9
      · rw [if_pos (show nI (b p) = 9 by rw [c9]; rfl)]
      · rw [if_neg (show ¬ nI (b p) = 9 from ne 9 (by omega) c9)]
        by_cases c10 : b p = 10
        · rw [if_pos (show nI (b p) = 10 by rw [c10]; rfl)]
        · rw [if_neg (show ¬ nI (b p) = 10 from ne 10 (by omega) c10)]
          by_cases c13 : b p = 13
          · rw [if_pos (show nI (b p) = 13 by rw [c13]; rfl)]
          · rw [if_neg (show ¬ nI (b p) = 13 from ne 13 (by omega) c13), if_neg (show ¬ ¬ nI (b p) = 32 from fun z => z (by rw [show b p = 32 by omega]; rfl))]
    · rw [zRe_no (fun z => c z.2)]
/-- the word's number -/
theorem r_146 {x : MzM} {c : Nat} {y1 y3 : Int32} (hky : ∀ k, k < 21 → mz_rl x 246 k = lN (zkey k)) (hc : c < 2 ^ 63) : ∀ (f k : Nat) (y6 : Int32), k + f = 21 → H_X12_cut_146 d y1 y3 (lN c) y6 (nI k) x = (R_X12_token d (match zff (fun k => decide (zkey k = c)) f k with | some j => nI (20 + j) | none => y6) y1 0 (lN c) x).bind (fun m69 => H_X12_cut_7 d (y1 + y3) m69) := by
  intro f
  induction f with
  | zero =>
    intro k y6 e
    rw [H_X12_cut_146_eq, if_pos (show (21 : Int32) ≤ nI k from nI_le (a := 21) (by omega) (by omega))]
    rfl
  | succ f ih =>
    intro k y6 e
    rw [H_X12_cut_146_eq, if_neg (show ¬ (21 : Int32) ≤ nI k from nI_ge (b := 21) (by omega) (by omega)), n_ok (by omega), n_gd (by omega), nI_clamp (by omega), hky k (by omega), nI_1]
    by_cases q : zkey k = c
    · rw [if_neg (fun z => z (lg_eq.mpr (by rw [q]))), ih (k + 1) _ (by omega)]
      have no : zff (fun k => decide (zkey k = c)) f (k + 1) = none := by
        match ho : zff (fun k => decide (zkey k = c)) f (k + 1) with
        | none => rfl
        | some j =>
          have a := zff_lt f (k + 1) j ho
          have a3 := of_decide_eq_true a.2.2
          have := zkey_inj k (by omega) j (by omega) (by rw [q, a3])
          omega
      have ye : zff (fun k => decide (zkey k = c)) (f + 1) k = some k := by
        unfold zff
        rw [if_pos (decide_eq_true q)]
      rw [no, ye, show (20 : Int32) + nI k = nI (20 + k) from nI_add 20 k]
    · have ye : zff (fun k => decide (zkey k = c)) (f + 1) k = zff (fun k => decide (zkey k = c)) f (k + 1) := by
        show (if decide (zkey k = c) = true then some k else zff (fun k => decide (zkey k = c)) f (k + 1)) = _
        rw [if_neg (fun z => q (of_decide_eq_true z))]
      rw [if_pos (fun z => q ((pk_lEQ (zkey_63 k (by omega)) hc).mp (lg_eq.mp z))), ih (k + 1) _ (by omega), ye]
theorem r_85 {x : MzM} {q : Nat} (h : zByR x b s) (hq : q ≤ s) : ∀ (f n : Nat), s - (q + n) = f → q + n ≤ s → ∃ n', n' = zRe zle b s (q + n) - q ∧ n ≤ n' ∧ H_X12_cut_85 d (nI q) (nI n) (lN (zcode 27 b q (if n ≤ 8 then n else 8))) x = (if n' ≤ 8 then H_X12_cut_146 d (nI q) (nI n') (lN (zcode 27 b q n')) 1 0 x else (R_X12_token d 3 (nI q) 0 (lN (zcode 27 b q 8)) x).bind (fun m58 => H_X12_cut_7 d (nI q + nI n') m58)) := by
  have s2 := h.1
  have stop : ∀ n, q + n ≤ s → ¬ (q + n < s ∧ zle (b (q + n)) = true) → H_X12_cut_85 d (nI q) (nI n) (lN (zcode 27 b q (if n ≤ 8 then n else 8))) x = (if n ≤ 8 then H_X12_cut_146 d (nI q) (nI n) (lN (zcode 27 b q n)) 1 0 x else (R_X12_token d 3 (nI q) 0 (lN (zcode 27 b q 8)) x).bind (fun m58 => H_X12_cut_7 d (nI q + nI n) m58)) := by
    intro n hn c
    have nl : zle (if q + n < s then b (q + n) else 0) = false := by
      by_cases c1 : q + n < s
      · rw [if_pos c1]
        exact Bool.eq_false_iff.mpr (fun z => c ⟨c1, z⟩)
      · rw [if_neg c1]; rfl
    have bb : (if q + n < s then b (q + n) else 0) < 256 := by
      by_cases c1 : q + n < s
      · rw [if_pos c1]; exact h.2.2.1 _
      · rw [if_neg c1]; omega
    rw [H_X12_cut_85_eq, nI_add, r_byte h (by omega), Option.bind_some]
    dsimp only
    rw [r_isLt bb, nl, Option.bind_some]
    dsimp only
    rw [if_pos (show (if false = true then (1 : Int32) else 0) = 0 from rfl)]
    by_cases c8 : n ≤ 8
    · rw [if_pos (show nI n ≤ 8 from nI_le (b := 8) c8 (by omega)), if_neg (show ¬ (8 : Int32) < nI n from nI_nlt (a := 8) c8 (by omega)), if_pos c8, if_pos c8]
    · rw [if_neg (show ¬ nI n ≤ 8 from nI_ge (a := 8) (by omega) (by omega)), if_pos (show (8 : Int32) < nI n from nI_lt (a := 8) (by omega) (by omega)), if_neg c8, if_neg c8]
  intro f
  induction f with
  | zero =>
    intro n e hn
    have c : ¬ (q + n < s ∧ zle (b (q + n)) = true) := by omega
    refine ⟨n, by rw [zRe_no c]; omega, Nat.le_refl _, stop n hn c⟩
  | succ f ih =>
    intro n e hn
    by_cases c : q + n < s ∧ zle (b (q + n)) = true
    · obtain ⟨n', h1, h2, h3⟩ := ih (n + 1) (by omega) (by omega)
      have ps := c.1
      have cc := of_decide_eq_true c.2
      have bb := h.2.2.1 (q + n)
      refine ⟨n', by rw [zRe_go c.1 c.2, h1, show q + n + 1 = q + (n + 1) by omega], by omega, ?_⟩
      rw [← h3, H_X12_cut_85_eq d (nI q) (nI n), nI_add, r_byte h (by omega), if_pos ps, Option.bind_some]
      dsimp only
      rw [r_isLt bb, if_pos c.2, Option.bind_some]
      dsimp only
      rw [if_neg (show ¬ (1 : Int32) = 0 by decide), nI_1]
      by_cases c8 : 8 ≤ n
      · rw [if_pos (show (8 : Int32) ≤ nI n from nI_le (a := 8) c8 (by omega)), if_neg (show ¬ n + 1 ≤ 8 by omega)]
        by_cases c9 : n ≤ 8
        · rw [if_pos c9, show n = 8 by omega]
        · rw [if_neg c9]
      · have cd : (27 : Int64) * lN (zcode 27 b q n) + ((nI (b (q + n)) - 97) + 1 : Int32).toInt64 = lN (zcode 27 b q (n + 1)) := by
          rw [show nI (b (q + n)) - 97 = nI (b (q + n) - 97) from pk_sub (b := 97) cc.1, nI_1, nI_l (by omega), show (27 : Int64) * lN (zcode 27 b q n) = lN (27 * zcode 27 b q n) from lN_mul 27 _, lN_add]
          show lN (27 * zcode 27 b q n + (b (q + n) - 97 + 1)) = lN (zcode 27 b q n * 27 + (b (q + n) - 96))
          congr 1
          omega
        rw [if_neg (show ¬ (8 : Int32) ≤ nI n from nI_ge (b := 8) (by omega) (by omega)), r_byte h (by omega), if_pos ps, Option.bind_some]
        dsimp only
        rw [if_pos (show n ≤ 8 by omega), if_pos (show n + 1 ≤ 8 by omega), R_X12_appends_eq, if_pos (show ¬ nI (b (q + n)) = 0 from k_ne (b := 0) (by omega) (by omega) (by omega)), Option.bind_some]
        dsimp only
        rw [cd]
    · exact ⟨n, by rw [zRe_no c]; omega, Nat.le_refl _, stop n hn c⟩
theorem r_208 {x : MzM} {q : Nat} (h : zByR x b s) (hq : q ≤ s) : ∀ (f n : Nat), s - (q + n) = f → q + n ≤ s → ∃ n', n' = zRe zdi b s (q + n) - q ∧ n ≤ n' ∧ H_X12_cut_208 d (nI q) (nI n) (nI (znum b q (if n ≤ 4 then n else 4))) x = (if n' ≤ 4 then (R_X12_token d 2 (nI q) (nI (znum b q n')) 0 x).bind (fun m35 => H_X12_cut_7 d (nI q + nI n') m35) else (R_X12_token d 3 (nI q) (nI (znum b q 4)) 0 x).bind (fun m38 => H_X12_cut_7 d (nI q + nI n') m38)) := by
  have s2 := h.1
  have stop : ∀ n, q + n ≤ s → ¬ (q + n < s ∧ zdi (b (q + n)) = true) → H_X12_cut_208 d (nI q) (nI n) (nI (znum b q (if n ≤ 4 then n else 4))) x = (if n ≤ 4 then (R_X12_token d 2 (nI q) (nI (znum b q n)) 0 x).bind (fun m35 => H_X12_cut_7 d (nI q + nI n) m35) else (R_X12_token d 3 (nI q) (nI (znum b q 4)) 0 x).bind (fun m38 => H_X12_cut_7 d (nI q + nI n) m38)) := by
    intro n hn c
    have nl : zdi (if q + n < s then b (q + n) else 0) = false := by
      by_cases c1 : q + n < s
      · rw [if_pos c1]
        exact Bool.eq_false_iff.mpr (fun z => c ⟨c1, z⟩)
      · rw [if_neg c1]; rfl
    have bb : (if q + n < s then b (q + n) else 0) < 256 := by
      by_cases c1 : q + n < s
      · rw [if_pos c1]; exact h.2.2.1 _
      · rw [if_neg c1]; omega
    rw [H_X12_cut_208_eq, nI_add, r_byte h (by omega), Option.bind_some]
    dsimp only
    rw [r_isDg bb, nl, Option.bind_some]
    dsimp only
    rw [if_pos (show (if false = true then (1 : Int32) else 0) = 0 from rfl)]
    by_cases c4 : n ≤ 4
    · rw [if_pos (show nI n ≤ 4 from nI_le (b := 4) c4 (by omega)), if_pos c4, if_pos c4]
    · rw [if_neg (show ¬ nI n ≤ 4 from nI_ge (a := 4) (by omega) (by omega)), if_neg c4, if_neg c4]
  intro f
  induction f with
  | zero =>
    intro n e hn
    have c : ¬ (q + n < s ∧ zdi (b (q + n)) = true) := by omega
    refine ⟨n, by rw [zRe_no c]; omega, Nat.le_refl _, stop n hn c⟩
  | succ f ih =>
    intro n e hn
    by_cases c : q + n < s ∧ zdi (b (q + n)) = true
    · obtain ⟨n', h1, h2, h3⟩ := ih (n + 1) (by omega) (by omega)
      have ps := c.1
      have cc := of_decide_eq_true c.2
      have bb := h.2.2.1 (q + n)
      refine ⟨n', by rw [zRe_go c.1 c.2, h1, show q + n + 1 = q + (n + 1) by omega], by omega, ?_⟩
      rw [← h3, H_X12_cut_208_eq d (nI q) (nI n), nI_add, r_byte h (by omega), if_pos ps, Option.bind_some]
      dsimp only
      rw [r_isDg bb, if_pos c.2, Option.bind_some]
      dsimp only
      rw [if_neg (show ¬ (1 : Int32) = 0 by decide), nI_1]
      by_cases c4 : 4 ≤ n
      · rw [if_pos (show (4 : Int32) ≤ nI n from nI_le (a := 4) c4 (by omega)), if_neg (show ¬ n + 1 ≤ 4 by omega)]
        by_cases c5 : n ≤ 4
        · rw [if_pos c5, show n = 4 by omega]
        · rw [if_neg c5]
      · have cd : (10 : Int32) * nI (znum b q n) + nI (b (q + n)) - 48 = nI (znum b q (n + 1)) := by
          rw [show (10 : Int32) * nI (znum b q n) = nI (10 * znum b q n) from pk_mul 10 _, nI_add, show nI (10 * znum b q n + b (q + n)) - 48 = nI (10 * znum b q n + b (q + n) - 48) from pk_sub (b := 48) (by omega)]
          show nI (10 * znum b q n + b (q + n) - 48) = nI (znum b q n * 10 + (b (q + n) - 48))
          congr 1
          omega
        rw [if_neg (show ¬ (4 : Int32) ≤ nI n from nI_ge (b := 4) (by omega) (by omega)), r_byte h (by omega), if_pos ps, Option.bind_some]
        dsimp only
        rw [if_pos (show n ≤ 4 by omega), if_pos (show n + 1 ≤ 4 by omega), cd]
    · exact ⟨n, by rw [zRe_no c]; omega, Nat.le_refl _, stop n hn c⟩
theorem r_sign {x : MzM} {c : Nat} {y z : Int32} (hc : c < 256) : R_X12_sign d y (nI c) z x = (R_X12_token d (nI (zkr (zsg c))) y 0 0 x).bind (fun m => some (1, m)) := by
  have p : ∀ k, k < 256 → c ≠ k → ¬ nI c = nI k := fun k hk q => k_ne (by omega) (by omega) q
  rw [R_X12_sign_eq]
  by_cases c59 : c = 59
  · subst c59
    rw [if_neg (show ¬ ¬ nI 59 = 59 from fun q => q rfl), if_pos (show ¬ nI 59 = 43 by decide), if_pos (show ¬ nI 59 = 45 by decide), if_pos (show ¬ nI 59 = 42 by decide), if_pos (show ¬ nI 59 = 47 by decide), if_pos (show ¬ nI 59 = 60 by decide)]
    rfl
  by_cases c61 : c = 61
  · subst c61
    rw [if_pos (show ¬ nI 61 = 59 by decide), if_neg (show ¬ ¬ nI 61 = 61 from fun q => q rfl), if_pos (show ¬ nI 61 = 43 by decide), if_pos (show ¬ nI 61 = 45 by decide), if_pos (show ¬ nI 61 = 42 by decide), if_pos (show ¬ nI 61 = 47 by decide), if_pos (show ¬ nI 61 = 60 by decide)]
    rfl
  rw [if_pos (show ¬ nI c = 59 from p 59 (by omega) c59), if_pos (show ¬ nI c = 61 from p 61 (by omega) c61)]
  by_cases c40 : c = 40
  · subst c40
    rw [if_neg (show ¬ ¬ nI 40 = 40 from fun q => q rfl), if_pos (show ¬ nI 40 = 43 by decide), if_pos (show ¬ nI 40 = 45 by decide), if_pos (show ¬ nI 40 = 42 by decide), if_pos (show ¬ nI 40 = 47 by decide), if_pos (show ¬ nI 40 = 60 by decide)]
    rfl
  rw [if_pos (show ¬ nI c = 40 from p 40 (by omega) c40)]
  by_cases c41 : c = 41
  · subst c41
    rw [if_neg (show ¬ ¬ nI 41 = 41 from fun q => q rfl), if_pos (show ¬ nI 41 = 43 by decide), if_pos (show ¬ nI 41 = 45 by decide), if_pos (show ¬ nI 41 = 42 by decide), if_pos (show ¬ nI 41 = 47 by decide), if_pos (show ¬ nI 41 = 60 by decide)]
    rfl
  rw [if_pos (show ¬ nI c = 41 from p 41 (by omega) c41)]
  by_cases c43 : c = 43
  · subst c43
    rw [if_neg (show ¬ ¬ nI 43 = 43 from fun q => q rfl), if_pos (show ¬ nI 43 = 45 by decide), if_pos (show ¬ nI 43 = 42 by decide), if_pos (show ¬ nI 43 = 47 by decide), if_pos (show ¬ nI 43 = 60 by decide)]
    rfl
  rw [if_pos (show ¬ nI c = 43 from p 43 (by omega) c43)]
  by_cases c45 : c = 45
  · subst c45
    rw [if_neg (show ¬ ¬ nI 45 = 45 from fun q => q rfl), if_pos (show ¬ nI 45 = 42 by decide), if_pos (show ¬ nI 45 = 47 by decide), if_pos (show ¬ nI 45 = 60 by decide)]
    rfl
  rw [if_pos (show ¬ nI c = 45 from p 45 (by omega) c45)]
  by_cases c42 : c = 42
  · subst c42
    rw [if_neg (show ¬ ¬ nI 42 = 42 from fun q => q rfl), if_pos (show ¬ nI 42 = 47 by decide), if_pos (show ¬ nI 42 = 60 by decide)]
    rfl
  rw [if_pos (show ¬ nI c = 42 from p 42 (by omega) c42)]
  by_cases c47 : c = 47
  · subst c47
    rw [if_neg (show ¬ ¬ nI 47 = 47 from fun q => q rfl), if_pos (show ¬ nI 47 = 60 by decide)]
    rfl
  rw [if_pos (show ¬ nI c = 47 from p 47 (by omega) c47)]
  by_cases c60 : c = 60
  · subst c60
    rw [if_neg (show ¬ ¬ nI 60 = 60 from fun q => q rfl)]
    rfl
  rw [if_pos (show ¬ nI c = 60 from p 60 (by omega) c60)]
  have z1 : zsg c = 1 := by
    unfold zsg
    rw [if_neg c59, if_neg c61, if_neg c43, if_neg c45, if_neg c42, if_neg c47, if_neg c60, if_neg c40, if_neg c41]
  rw [z1]
  rfl
theorem zkr_w {k : Nat} : zkr (13 + k) = 20 + k := by
  unfold zkr
  rw [if_pos (by omega)]
  omega
/-- one token -/
theorem r_one {x : MzM} {j : Nat} (h : zByR x b s) (hky : ∀ k, k < 21 → mz_rl x 246 k = lN (zkey k)) (t : zTr x b s j) (j4 : j ≤ 400) : ∃ x', (zkq b s (zplc b s j) = 0 → H_X12_cut_7 d (nI (zplc b s j)) x = some x') ∧ (zkq b s (zplc b s j) ≠ 0 → H_X12_cut_7 d (nI (zplc b s j)) x = H_X12_cut_7 d (nI (zps b s (j + 1))) x') ∧ zTr x' b s (j + 1) ∧ zFu x x' := by
  obtain ⟨q, hq⟩ : ∃ q, q = zplc b s j := ⟨_, rfl⟩
  have qs : q ≤ s := by rw [hq]; exact zplc_le
  have s2 := h.1
  have bb := h.2.2.1 q
  have nx : zps b s (j + 1) = znx b s q := by rw [hq]; rfl
  have e := H_X12_cut_7_eq d (nI q) x
  rw [t.1, if_neg (show ¬ (400 : Int32) < nI j from nI_nlt (a := 400) (by omega) (by omega)), r_byte h (by omega), Option.bind_some] at e
  dsimp only at e
  rw [← hq, nx]
  by_cases c : s ≤ q
  · have z0 : zkq b s q = 0 := zkq_0.mpr c
    have qe : q = s := by omega
    rw [h.2.1, if_neg (nI_nlt c (by omega)), r_tok t.1 (by omega), Option.bind_some] at e
    refine ⟨_, fun _ => e, fun z => absurd z0 z, zTr_tok t (v := 0) (n := 0) (fun z => by rw [← hq, z0] at z; omega) (fun z => by rw [← hq, z0] at z; omega) ?_⟩
    rw [← hq, z0, qe]
    rfl
  · have qs' : q < s := by omega
    have kne : zkq b s q ≠ 0 := fun z => c (zkq_0.mp z)
    have kq : zkq b s q = if zle (b q) = true then (if 8 < zRe zle b s q - q then 1 else zwk (zwn (zcode 27 b q (zRe zle b s q - q)))) else if zdi (b q) = true then (if 4 < zRe zdi b s q - q then 1 else 3) else zsg (b q) := if_neg c
    have nq : znx b s q = if zle (b q) = true then zRe zle b s q else if zdi (b q) = true then zRe zdi b s q else q + 1 := if_neg c
    have nb : ¬ zbl (b q) = true := by
      have := (zRe_b (P := zbl) (b := b) (s := s) _ (zps b s j) rfl).2.2.2
      intro z
      refine this ⟨?_, ?_⟩
      · show zplc b s j < s
        rw [← hq]; exact qs'
      · show zbl (b (zplc b s j)) = true
        rw [← hq]; exact z
    have nb' : ¬ (b q = 9 ∨ b q = 10 ∨ b q = 13 ∨ b q = 32) := fun z => nb (decide_eq_true z)
    have ne : ∀ k, k < 256 → b q ≠ k → ¬ nI (b q) = nI k := fun k hk z => k_ne (by omega) (by omega) z
    rw [if_pos qs', h.2.1, if_pos (nI_lt qs' (by omega)), if_neg (show ¬ nI (b q) = 9 from ne 9 (by omega) (by omega)), if_neg (show ¬ nI (b q) = 10 from ne 10 (by omega) (by omega)), if_neg (show ¬ nI (b q) = 13 from ne 13 (by omega) (by omega)), if_pos (show ¬ nI (b q) = 32 from ne 32 (by omega) (by omega)), r_isLt bb, Option.bind_some] at e
    dsimp only at e
    by_cases cl : zle (b q) = true
    · rw [if_pos cl] at kq nq
      rw [if_pos cl, if_neg (show ¬ (1 : Int32) = 0 by decide)] at e
      obtain ⟨n, hn, _, e1⟩ := r_85 (d := d) h qs _ 0 rfl qs
      have e1 : H_X12_cut_85 d (nI q) 0 0 x = _ := e1
      rw [Nat.add_zero] at hn
      have r1 := zRe_1 (P := zle) (b := b) (s := s) (p := q)
      have r2 := zRe_2 (P := zle) (b := b) qs
      rw [e1] at e
      have pe : nI q + nI n = nI (zRe zle b s q) := by rw [nI_add, hn, show q + (zRe zle b s q - q) = zRe zle b s q by omega]
      by_cases c8 : n ≤ 8
      · rw [if_neg (show ¬ 8 < zRe zle b s q - q by omega), ← hn] at kq
        have lt63 := (zcode_63 (b := b) (q := q) (n := n) (fun i hi => (zRe_3 (s := s) (p := q) (by omega) (by omega)).2) c8).2
        have w := r_146 (d := d) (y1 := nI q) (y3 := nI n) hky lt63 21 0 1 (by omega)
        have w : H_X12_cut_146 d (nI q) (nI n) (lN (zcode 27 b q n)) 1 0 x = (R_X12_token d (match zwn (zcode 27 b q n) with | some j => nI (20 + j) | none => 1) (nI q) 0 (lN (zcode 27 b q n)) x).bind (fun m69 => H_X12_cut_7 d (nI q + nI n) m69) := w
        have ke : (match zwn (zcode 27 b q n) with | some j => nI (20 + j) | none => (1 : Int32)) = nI (zkr (zkq b s q)) := by
          rw [kq]
          match zwn (zcode 27 b q n) with
          | none => rfl
          | some k =>
            show nI (20 + k) = nI (zkr (13 + k))
            rw [zkr_w]
        rw [if_pos c8, w, ke, r_tok t.1 (by omega), Option.bind_some, pe, ← nq] at e
        refine ⟨_, fun z => absurd z kne, fun _ => e, zTr_tok t (v := 0) (n := lN (zcode 27 b q n)) (fun z => ?_) (fun z => ?_) (by rw [← hq])⟩
        · rw [← hq, kq] at z
          match ho : zwn (zcode 27 b q n) with
          | none => rw [ho] at z; exact absurd z (by decide)
          | some k =>
            rw [ho] at z
            have z : 13 + k = 3 := z
            omega
        · unfold znm
          rw [← hq, hn]
      · rw [if_pos (show 8 < zRe zle b s q - q by omega)] at kq
        rw [if_neg c8, r_tok t.1 (by omega), Option.bind_some, pe, ← nq] at e
        refine ⟨_, fun z => absurd z kne, fun _ => e, zTr_tok t (v := 0) (n := lN (zcode 27 b q 8)) (fun z => by rw [← hq, kq] at z; omega) (fun z => by rw [← hq, kq] at z; omega) ?_⟩
        rw [← hq, kq]
        rfl
    · rw [if_neg cl] at kq nq
      rw [if_neg cl, if_pos rfl, r_isDg bb, Option.bind_some] at e
      dsimp only at e
      by_cases cd : zdi (b q) = true
      · rw [if_pos cd] at kq nq
        rw [if_pos cd, if_neg (show ¬ (1 : Int32) = 0 by decide)] at e
        obtain ⟨n, hn, _, e1⟩ := r_208 (d := d) h qs _ 0 rfl qs
        have e1 : H_X12_cut_208 d (nI q) 0 0 x = _ := e1
        rw [Nat.add_zero] at hn
        have r1 := zRe_1 (P := zdi) (b := b) (s := s) (p := q)
        have r2 := zRe_2 (P := zdi) (b := b) qs
        rw [e1] at e
        have pe : nI q + nI n = nI (zRe zdi b s q) := by rw [nI_add, hn, show q + (zRe zdi b s q - q) = zRe zdi b s q by omega]
        by_cases c4 : n ≤ 4
        · rw [if_neg (show ¬ 4 < zRe zdi b s q - q by omega)] at kq
          have vq : zvq b s q = znum b q n := by
            rw [hn]
            exact if_pos (by omega)
          rw [if_pos c4, r_tok t.1 (by omega), Option.bind_some, pe, ← nq] at e
          refine ⟨_, fun z => absurd z kne, fun _ => e, zTr_tok t (v := nI (znum b q n)) (n := 0) (fun z => by rw [← hq, vq]) (fun z => by rw [← hq, kq] at z; omega) ?_⟩
          rw [← hq, kq]
          rfl
        · rw [if_pos (show 4 < zRe zdi b s q - q by omega)] at kq
          rw [if_neg c4, r_tok t.1 (by omega), Option.bind_some, pe, ← nq] at e
          refine ⟨_, fun z => absurd z kne, fun _ => e, zTr_tok t (v := nI (znum b q 4)) (n := 0) (fun z => by rw [← hq, kq] at z; omega) (fun z => by rw [← hq, kq] at z; omega) ?_⟩
          rw [← hq, kq]
          rfl
      · rw [if_neg cd] at kq nq
        have sl := zsg_lt (c := b q)
        have s23 : zsg (b q) ≠ 2 ∧ zsg (b q) ≠ 3 := by
          unfold zsg
          repeat' split
          all_goals omega
        rw [if_neg cd, if_pos rfl, nI_1, r_byte h (by omega), Option.bind_some] at e
        dsimp only at e
        rw [r_sign bb, r_tok t.1 (by omega), Option.bind_some, Option.bind_some] at e
        dsimp only at e
        rw [nI_1, ← nq] at e
        refine ⟨_, fun z => absurd z kne, fun _ => e, zTr_tok t (v := 0) (n := 0) (fun z => by rw [← hq, kq] at z; omega) (fun z => by rw [← hq, kq] at z; omega) ?_⟩
        rw [← hq, kq]
/-- the whole tape -/
theorem r_cut {x0 : MzM} (h0 : zByR x0 b s) (hky : ∀ k, k < 21 → mz_rl x0 246 k = lN (zkey k)) : ∃ x' N, R_X12_cut d x0 = some x' ∧ zFu x0 x' ∧ N ≤ 401 ∧ 0 < N ∧ (∀ i, i + 1 < N → zkq b s (zplc b s i) ≠ 0) ∧ (N = 401 ∨ zkq b s (zplc b s (N - 1)) = 0) ∧ zTr x' b s N := by
  have go : ∀ (n j : Nat) (x : MzM), j + n = 401 → zFu x0 x → zTr x b s j → (∀ i, i < j → zkq b s (zplc b s i) ≠ 0) → ∃ x' N, H_X12_cut_7 d (nI (zps b s j)) x = some x' ∧ zFu x0 x' ∧ N ≤ 401 ∧ 0 < N ∧ (∀ i, i + 1 < N → zkq b s (zplc b s i) ≠ 0) ∧ (N = 401 ∨ zkq b s (zplc b s (N - 1)) = 0) ∧ zTr x' b s N := by
    intro n
    induction n with
    | zero =>
      intro j x e f t k
      refine ⟨x, j, ?_, f, by omega, by omega, fun i hi => k i (by omega), Or.inl (by omega), t⟩
      rw [H_X12_cut_7_eq, t.1, if_pos (show (400 : Int32) < nI j from nI_lt (a := 400) (by omega) (by omega))]
    | succ n ih =>
      intro j x e f t k
      have h : zByR x b s := zByR_f h0 f
      have hy : ∀ k, k < 21 → mz_rl x 246 k = lN (zkey k) := fun k hk => by
        unfold mz_rl
        rw [f.2 246 (by omega)]
        exact hky k hk
      obtain ⟨x1, e1, e2, t1, f1⟩ := r_one (d := d) h hy t (by omega)
      have sk := r_skip (d := d) h t.1 (by omega) _ (zps b s j) rfl (zps_le j)
      have sk : H_X12_cut_7 d (nI (zps b s j)) x = H_X12_cut_7 d (nI (zplc b s j)) x := sk
      by_cases c : zkq b s (zplc b s j) = 0
      · refine ⟨x1, j + 1, sk.trans (e1 c), zFu_t f f1, by omega, by omega, fun i hi => k i (by omega), Or.inr ?_, t1⟩
        rw [show j + 1 - 1 = j by omega]
        exact c
      · obtain ⟨x2, N, r⟩ := ih (j + 1) x1 (by omega) (zFu_t f f1) t1 (fun i hi => by
          by_cases q : i = j
          · rw [q]; exact c
          · exact k i (by omega))
        obtain ⟨r1, r2⟩ := r
        exact ⟨x2, N, (sk.trans (e2 c)).trans r1, r2⟩
  obtain ⟨x1, hx⟩ : ∃ q : MzM, q = mz_wr x0 239 10 0 := ⟨_, rfl⟩
  obtain ⟨x2, N, e2, r2⟩ := go 401 0 x1 (by omega) ⟨fun a i z => by rw [hx, m_rw, if_neg (by omega)], fun a z => by rw [hx]; rfl⟩ ⟨by rw [hx, m_eq]; rfl, fun i hi => absurd hi (by omega)⟩ (fun i hi => absurd hi (by omega))
  refine ⟨x2, N, ?_, r2⟩
  rw [R_X12_cut_eq, ← hx]
  exact e2
end ZRcut
