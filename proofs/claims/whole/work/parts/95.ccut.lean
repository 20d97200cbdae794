/-! the class cuts a tape -/
def zBy (m : MzM) (b : Nat → Nat) (s : Nat) : Prop := s ≤ 2000 ∧ mz_rd m 2 1 = nI s ∧ (∀ i, b i < 256) ∧ ∀ i, i < s → mz_rd m 3 i &&& 255 = nI (b i)
def zFt (m m' : MzM) : Prop := (∀ a i, ¬ (a = 23 ∨ a = 24 ∨ a = 25) → mz_rd m' a i = mz_rd m a i) ∧ ∀ a, a ≠ 26 → m'.2 a = m.2 a
def zTs (m : MzM) (b : Nat → Nat) (s j : Nat) : Prop := mz_rd m 23 4 = nI j ∧ mz_rd m 23 5 = nI (zps b s j) ∧ ∀ i, i < j → mz_rd m 24 i = nI (zkq b s (zplc b s i)) ∧ mz_rd m 25 i = nI (zplc b s i) ∧ (zkq b s (zplc b s i) = 3 → mz_rl m 26 i = lN (zvq b s (zplc b s i))) ∧ (zkq b s (zplc b s i) = 2 → mz_rl m 26 i = lN (znm 32 b s i))
def zmt (b : Nat → Nat) (q n k : Nat) : Nat → Nat → Bool
  | 0, _ => true
  | f + 1, i => decide (zcol k i = if i < n then b (q + i) else 32) && zmt b q n k f (i + 1)
noncomputable def zCutB (d : Nat) (m : MzM) : Option MzM := ((R_X7_byteAt d (mz_rd m 23 5) m).bind (fun u68 => if ¬ u68.1 = (-1) then ((R_X9_isLetter d u68.1 u68.2).bind (fun u72 => if u72.1 = 0 then ((R_X9_isDigit d u68.1 u72.2).bind (fun u76 => if u76.1 = 0 then (if (0 : Int32) ≤ (mz_ixF (((u68.1 : Int32).toUInt32 % 65536).toInt32) (mz_sb 1000002) 0) then ((R_X9_keep d ((4 : Int32) + (mz_ixF (((u68.1 : Int32).toUInt32 % 65536).toInt32) (mz_sb 1000002) 0)) (mz_rd m 23 5) 0 (mz_wr u76.2 23 5 ((mz_rd u76.2 23 5) + 1))).bind (fun m79 => some m79)) else ((R_X9_keep d 1 (mz_rd m 23 5) 0 (mz_wr u76.2 23 5 ((mz_rd u76.2 23 5) + 1))).bind (fun m82 => some m82))) else ((R_X9_cutInt d (mz_rd m 23 5) u76.2).bind (fun m85 => some m85)))) else ((R_X9_cutWord d (mz_rd m 23 5) u72.2).bind (fun m88 => some m88)))) else ((R_X9_keep d 0 (mz_rd m 23 5) 0 u68.2).bind (fun m91 => some m91))))
noncomputable def zWend (d : Nat) (y1 : Int32) (y2 : Int64) (m : MzM) : Option MzM := (if ((mz_rd m 23 5) - y1) ≤ 8 then ((R_X9_wordNumber d y1 m).bind (fun u5 => if (0 : Int32) ≤ u5.1 then ((R_X9_keep d ((13 : Int32) + u5.1) y1 y2 u5.2).bind (fun m7 => some m7)) else ((R_X9_keep d 2 y1 y2 u5.2).bind (fun m10 => some m10)))) else ((R_X9_keep d 1 y1 0 m).bind (fun m13 => some m13)))
theorem z_ix : ∀ c, c < 256 → mz_ixF (nI c) (mz_sb 1000002) 0 = if zsg c = 1 then -1 else nI (zsg c - 4) := by decide +kernel
theorem z_nb : ∀ k, k < 128 → vp_nar .byte ((nI k : Int32).toInt8.toInt32) = nI k := by decide +kernel
theorem z_ns {p : Nat} (h : p < 32768) : vp_nar .short ((nI p : Int32).toInt16.toInt32) = nI p := by
  rw [pk_vs]
  apply Int32.toInt_inj.mp
  rw [Int16.toInt_toInt32, Int32.toInt_toInt16, nI_toInt (by omega)]
  exact Int.bmod_eq_of_le (by omega) (by omega)
section ZCcut
variable {b : Nat → Nat} {s d : Nat}
theorem zBy_f {m m' : MzM} (h : zBy m b s) (g : ∀ a i, a = 2 ∨ a = 3 → mz_rd m' a i = mz_rd m a i) : zBy m' b s := ⟨h.1, (g _ _ (Or.inl rfl)).trans h.2.1, h.2.2.1, fun i hi => by rw [g 3 i (Or.inr rfl)]; exact h.2.2.2 i hi⟩
theorem c_byte {m : MzM} {p : Nat} (h : zBy m b s) (hp : p < s) : R_X7_byteAt d (nI p) m = some (nI (b p), m) := by
  have h1 := h.1
  rw [R_X7_byteAt_eq, if_neg (nI_pos (by omega)), h.2.1, if_neg (nI_ge hp (by omega)), n_ok (by omega), n_gd (by omega), nI_clamp (by omega), h.2.2.2 p hp]
theorem c_byteN {m : MzM} {p : Nat} (h : zBy m b s) (hp : s ≤ p) (h2 : p < 2 ^ 31) : R_X7_byteAt d (nI p) m = some (-1, m) := by
  rw [R_X7_byteAt_eq, if_neg (nI_pos h2), h.2.1, if_pos (nI_le hp h2)]
theorem c_isB {m : MzM} {c : Nat} (hc : c < 256) : R_X9_isBlank d (nI c) m = some (if zbl c = true then 1 else 0, m) := by
  have ne : ∀ k, k < 256 → c ≠ k → ¬ nI c = nI k := fun k hk z => k_ne (by omega) (by omega) z
  rw [R_X9_isBlank_eq]
  unfold zbl
  by_cases c9 : c = 9
  · rw [if_pos (show nI c = 9 by rw [c9]; rfl), if_pos (decide_eq_true (Or.inl c9))]
  · rw [if_neg (show ¬ nI c = 9 from ne 9 (by omega) c9)]
    by_cases c10 : c = 10
    · rw [if_pos (show nI c = 10 by rw [c10]; rfl), if_pos (decide_eq_true (by omega))]
    · rw [if_neg (show ¬ nI c = 10 from ne 10 (by omega) c10)]
      by_cases c13 : c = 13
      · rw [if_pos (show nI c = 13 by rw [c13]; rfl), if_pos (decide_eq_true (by omega))]
      · rw [if_neg (show ¬ nI c = 13 from ne 13 (by omega) c13)]
        by_cases c32 : c = 32
        · rw [if_neg (show ¬ ¬ nI c = 32 from fun z => z (by rw [c32]; rfl)), if_pos (decide_eq_true (by omega))]
        · rw [if_pos (show ¬ nI c = 32 from ne 32 (by omega) c32), if_neg (fun z => by have := of_decide_eq_true z; omega)]
theorem c_isLt {m : MzM} {c : Nat} (hc : c < 256) : R_X9_isLetter d (nI c) m = some (if zle c = true then 1 else 0, m) := by
  rw [R_X9_isLetter_eq]
  unfold zle
  by_cases c1 : c < 97
  · rw [if_pos (show nI c < 97 from nI_lt (b := 97) c1 (by omega)), if_neg (fun z => by have := of_decide_eq_true z; omega)]
  · rw [if_neg (show ¬ nI c < 97 from nI_nlt (b := 97) (by omega) (by omega))]
    by_cases c2 : 122 < c
    · rw [if_pos (show (122 : Int32) < nI c from nI_lt (a := 122) c2 (by omega)), if_neg (fun z => by have := of_decide_eq_true z; omega)]
    · rw [if_neg (show ¬ (122 : Int32) < nI c from nI_nlt (a := 122) (by omega) (by omega)), if_pos (decide_eq_true (by omega))]
theorem c_isDg {m : MzM} {c : Nat} (hc : c < 256) : R_X9_isDigit d (nI c) m = some (if zdi c = true then 1 else 0, m) := by
  rw [R_X9_isDigit_eq]
  unfold zdi
  by_cases c1 : c < 48
  · rw [if_pos (show nI c < 48 from nI_lt (b := 48) c1 (by omega)), if_neg (fun z => by have := of_decide_eq_true z; omega)]
  · rw [if_neg (show ¬ nI c < 48 from nI_nlt (b := 48) (by omega) (by omega))]
    by_cases c2 : 57 < c
    · rw [if_pos (show (57 : Int32) < nI c from nI_lt (a := 57) c2 (by omega)), if_neg (fun z => by have := of_decide_eq_true z; omega)]
    · rw [if_neg (show ¬ (57 : Int32) < nI c from nI_nlt (a := 57) (by omega) (by omega)), if_pos (decide_eq_true (by omega))]
theorem c_keep {m : MzM} {k p j : Nat} {v : Int64} (h : mz_rd m 23 4 = nI j) (hj : j < 402) (hk : k < 128) (hp : p < 32768) : R_X9_keep d (nI k) (nI p) v m = some (mz_wr (mz_wl (mz_wr (mz_wr m 24 j (nI k)) 25 j (nI p)) 26 j v) 23 4 (nI (j + 1))) := by
  rw [R_X9_keep_eq, h, if_neg (show ¬ (402 : Int32) ≤ nI j from nI_ge (b := 402) hj (by omega)), n_ok (by omega), n_gd (by omega), nI_clamp (by omega), z_nb k hk, z_ns hp, m_ne (show 23 ≠ 24 by omega), h, n_ok (by omega), n_gd (by omega), nI_clamp (by omega), m_ne (show 23 ≠ 25 by omega), m_ne (show 23 ≠ 24 by omega), h, n_ok (by omega), n_gd (by omega), nI_clamp (by omega), m_rwl, m_ne (show 23 ≠ 25 by omega), m_ne (show 23 ≠ 24 by omega), h, nI_1]
theorem zmt_iff {q n k : Nat} : ∀ f i, zmt b q n k f i = true ↔ ∀ i', i ≤ i' → i' < i + f → zcol k i' = if i' < n then b (q + i') else 32 := by
  intro f
  induction f with
  | zero => intro i; exact ⟨fun _ i' a c => absurd c (by omega), fun _ => rfl⟩
  | succ f ih =>
    intro i
    unfold zmt
    rw [Bool.and_eq_true, ih (i + 1)]
    refine ⟨fun ⟨a, c⟩ i' p q => ?_, fun g => ⟨decide_eq_true (g i (Nat.le_refl _) (by omega)), fun i' p q => g i' (by omega) (by omega)⟩⟩
    by_cases e : i' = i
    · rw [e]; exact of_decide_eq_true a
    · exact c i' (by omega) (by omega)
theorem c_isW {m : MzM} {q n k : Nat} (h : zBy m b s) (hk : k < 21) (h5 : mz_rd m 23 5 = nI (q + n)) (hq : q + n ≤ s) : ∀ f i, i + f = 8 → H_X9_isWord_2 d (nI (8 * k)) (nI q) (nI i) m = some (if zmt b q n k f i = true then 1 else 0, m) := by
  have s2 := h.1
  intro f
  induction f with
  | zero =>
    intro i e
    rw [H_X9_isWord_2_eq, if_pos (show (8 : Int32) ≤ nI i from nI_le (a := 8) (by omega) (by omega))]
    rfl
  | succ f ih =>
    intro i e
    obtain ⟨z1, z2, z3⟩ := zcol_ok k hk i (by omega)
    have zb : zcol k i < 256 := by
      rcases Nat.lt_or_ge i (zwl k) with c | c
      · have := z2 c; omega
      · have := z3 c; omega
    rw [H_X9_isWord_2_eq, if_neg (show ¬ (8 : Int32) ≤ nI i from nI_ge (b := 8) (by omega) (by omega)), h5, nI_add, nI_add, nI_1, n_ok (show 8 * k + i < 2 ^ 31 by omega), nI_clamp (show 8 * k + i < 2 ^ 31 by omega), z1]
    unfold zmt
    by_cases c : i < n
    · rw [if_neg (nI_ge (by omega) (by omega)), c_byte h (show q + i < s by omega), Option.bind_some]
      dsimp only
      rw [n_gd (by omega), if_pos c]
      have bb := h.2.2.1 (q + i)
      by_cases e2 : zcol k i = b (q + i)
      · rw [if_pos (by rw [e2]), ih (i + 1) (by omega), decide_eq_true e2, Bool.true_and]
      · rw [if_neg (k_ne (by omega) (by omega) e2), decide_eq_false e2, Bool.false_and]
        rfl
    · rw [if_pos (nI_le (by omega) (by omega)), n_gd (by omega), if_neg c]
      by_cases e2 : zcol k i = 32
      · rw [if_pos (show nI (zcol k i) = 32 by rw [e2]; rfl), ih (i + 1) (by omega), decide_eq_true e2, Bool.true_and]
      · rw [if_neg (show ¬ nI (zcol k i) = 32 from k_ne (b := 32) (by omega) (by omega) e2), decide_eq_false e2, Bool.false_and]
        rfl
theorem c_wordN {m : MzM} {q n : Nat} (h : zBy m b s) (h5 : mz_rd m 23 5 = nI (q + n)) (hq : q + n ≤ s) (n8 : n ≤ 8) (hl : ∀ i, i < n → zle (b (q + i)) = true) : ∀ f k, k + f = 21 → H_X9_wordNumber_2 d (nI q) (nI (8 * k)) m = some (zfi (zff (fun k => decide (zkey k = zcode 27 b q n)) f k), m) := by
  intro f
  induction f with
  | zero =>
    intro k e
    rw [H_X9_wordNumber_2_eq, show nI (8 * k) + 8 = nI (8 * k + 8) from nI_add _ 8, if_pos (nI_lt (by omega) (by omega))]
    rfl
  | succ f ih =>
    intro k e
    have w := c_isW (d := d) h (show k < 21 by omega) h5 hq 8 0 (by omega)
    have w : H_X9_isWord_2 d (nI (8 * k)) (nI q) 0 m = _ := w
    have mi := (zmt_iff (b := b) (q := q) (n := n) (k := k) 8 0)
    have ki := zkey_iff (b := b) (q := q) (n := n) (show k < 21 by omega) hl n8
    have eq : zmt b q n k 8 0 = true ↔ zkey k = zcode 27 b q n := by
      rw [← ki, mi]
      exact ⟨fun g i hi => g i (by omega) (by omega), fun g i _ hi => g i (by omega)⟩
    rw [H_X9_wordNumber_2_eq, show nI (8 * k) + 8 = nI (8 * k + 8) from nI_add _ 8, if_neg (nI_nlt (by omega) (by omega)), R_X9_isWord_eq, w, Option.bind_some]
    dsimp only
    unfold zff
    by_cases c : zkey k = zcode 27 b q n
    · rw [if_pos (eq.mpr c), if_neg (show ¬ (1 : Int32) = 0 by decide), if_pos (decide_eq_true c), show nI (8 * k) / 8 = nI (8 * k / 8) from pk_div (d := 8) (by omega) (by omega) (by omega), show 8 * k / 8 = k by omega]
      rfl
    · rw [if_neg (fun z => c (eq.mp z)), if_pos rfl, if_neg (fun z => c (of_decide_eq_true z)), show 8 * k + 8 = 8 * (k + 1) by omega]
      exact ih (k + 1) (by omega)
theorem c_word {q : Nat} : ∀ (f p : Nat) (m : MzM), s - p = f → q ≤ p → p ≤ s → zBy m b s → mz_rd m 23 5 = nI p → ∃ m', H_X9_cutWord_2 d (nI q) (lN (zcode 32 b q (p - q))) m = zWend d (nI q) (lN (zcode 32 b q (zRe zle b s p - q))) m' ∧ zFr (fun a i => a = 23 ∧ i = 5) m m' ∧ mz_rd m' 23 5 = nI (zRe zle b s p) := by
  intro f
  induction f with
  | zero =>
    intro p m e hq hp h h5
    have s2 := h.1
    rw [zRe_no (by omega)]
    refine ⟨m, ?_, zFr_r, h5⟩
    rw [H_X9_cutWord_2_eq, h.2.1, h5, if_pos (nI_le (by omega) (by omega))]
    unfold zWend
    rw [h5]
  | succ f ih =>
    intro p m e hq hp h h5
    have s2 := h.1
    have bb := h.2.2.1 p
    have ps : p < s := by omega
    rw [H_X9_cutWord_2_eq, h.2.1, h5, if_neg (nI_ge ps (by omega)), c_byte h ps, Option.bind_some]
    dsimp only
    rw [c_isLt bb, Option.bind_some]
    dsimp only
    by_cases c : zle (b p) = true
    · have cc := of_decide_eq_true c
      obtain ⟨m1, hm⟩ : ∃ q : MzM, q = mz_wr m 23 5 (nI (p + 1)) := ⟨_, rfl⟩
      have F1 : zFr (fun a i => a = 23 ∧ i = 5) m m1 := by rw [hm]; exact zFr_w ⟨rfl, rfl⟩
      obtain ⟨m2, e2, f2, g2⟩ := ih (p + 1) m1 (by omega) (by omega) (by omega) (zBy_f h (fun a i z => F1.1 a i (by omega))) (by rw [hm, m_eq])
      have cd : lN (zcode 32 b q (p - q)) * 32 + ((nI (b p) - 97) + 1 : Int32).toInt64 = lN (zcode 32 b q (p + 1 - q)) := by
        rw [show nI (b p) - 97 = nI (b p - 97) from pk_sub (b := 97) cc.1, nI_1, nI_l (by omega), show lN (zcode 32 b q (p - q)) * 32 = lN (zcode 32 b q (p - q) * 32) from lN_mul _ 32, lN_add, show p + 1 - q = (p - q) + 1 by omega]
        show lN (zcode 32 b q (p - q) * 32 + (b p - 97 + 1)) = lN (zcode 32 b q (p - q) * 32 + (b (q + (p - q)) - 96))
        rw [show q + (p - q) = p by omega, show b p - 97 + 1 = b p - 96 by omega]
      rw [if_pos c, if_neg (show ¬ (1 : Int32) = 0 by decide), h5, c_byte h ps, Option.bind_some]
      dsimp only
      rw [cd, h5, nI_1, ← hm, zRe_go ps c]
      exact ⟨m2, e2, zFr_t F1 f2, g2⟩
    · rw [if_neg c, if_pos rfl, h5, zRe_no (fun z => c z.2)]
      refine ⟨m, ?_, zFr_r, h5⟩
      unfold zWend
      rw [h5]
noncomputable def zIend (d : Nat) (y1 y2 : Int32) (m : MzM) : Option MzM := (if ((mz_rd m 23 5) - y1) ≤ 4 then ((R_X9_keep d 3 y1 ((y2 : Int32).toInt64) m).bind (fun m3 => some m3)) else ((R_X9_keep d 1 y1 ((y2 : Int32).toInt64) m).bind (fun m6 => some m6)))
theorem c_intg {q : Nat} : ∀ (f p : Nat) (m : MzM), s - p = f → q ≤ p → p ≤ s → zBy m b s → mz_rd m 23 5 = nI p → ∃ m', H_X9_cutInt_2 d (nI q) (nI (znum b q (p - q))) m = zIend d (nI q) (nI (znum b q (zRe zdi b s p - q))) m' ∧ zFr (fun a i => a = 23 ∧ i = 5) m m' ∧ mz_rd m' 23 5 = nI (zRe zdi b s p) := by
  intro f
  induction f with
  | zero =>
    intro p m e hq hp h h5
    have s2 := h.1
    rw [zRe_no (by omega)]
    refine ⟨m, ?_, zFr_r, h5⟩
    rw [H_X9_cutInt_2_eq, h.2.1, h5, if_pos (nI_le (by omega) (by omega))]
    unfold zIend
    rw [h5]
  | succ f ih =>
    intro p m e hq hp h h5
    have s2 := h.1
    have bb := h.2.2.1 p
    have ps : p < s := by omega
    rw [H_X9_cutInt_2_eq, h.2.1, h5, if_neg (nI_ge ps (by omega)), c_byte h ps, Option.bind_some]
    dsimp only
    rw [c_isDg bb, Option.bind_some]
    dsimp only
    by_cases c : zdi (b p) = true
    · have cc := of_decide_eq_true c
      obtain ⟨m1, hm⟩ : ∃ q : MzM, q = mz_wr m 23 5 (nI (p + 1)) := ⟨_, rfl⟩
      have F1 : zFr (fun a i => a = 23 ∧ i = 5) m m1 := by rw [hm]; exact zFr_w ⟨rfl, rfl⟩
      obtain ⟨m2, e2, f2, g2⟩ := ih (p + 1) m1 (by omega) (by omega) (by omega) (zBy_f h (fun a i z => F1.1 a i (by omega))) (by rw [hm, m_eq])
      have cd : nI (znum b q (p - q)) * 10 + (nI (b p) - 48) = nI (znum b q (p + 1 - q)) := by
        rw [show nI (b p) - 48 = nI (b p - 48) from pk_sub (b := 48) cc.1, show nI (znum b q (p - q)) * 10 = nI (znum b q (p - q) * 10) from pk_mul _ 10, nI_add, show p + 1 - q = (p - q) + 1 by omega]
        show nI (znum b q (p - q) * 10 + (b p - 48)) = nI (znum b q (p - q) * 10 + (b (q + (p - q)) - 48))
        rw [show q + (p - q) = p by omega]
      rw [if_pos c, if_neg (show ¬ (1 : Int32) = 0 by decide), h5, c_byte h ps, Option.bind_some]
      dsimp only
      rw [cd, h5, nI_1, ← hm, zRe_go ps c]
      exact ⟨m2, e2, zFr_t F1 f2, g2⟩
    · rw [if_neg c, if_pos rfl, h5, zRe_no (fun z => c z.2)]
      refine ⟨m, ?_, zFr_r, h5⟩
      unfold zIend
      rw [h5]
/-- a token kept: what stands there -/
theorem zTs_keep {m m0 m' : MzM} {j k q : Nat} {v : Int64} (h : zTs m b s j) (w : zFr (fun a i => a = 23 ∧ i = 5) m m0) (h5 : mz_rd m0 23 5 = nI (znx b s (zplc b s j))) (hk : k = zkq b s (zplc b s j)) (hq : q = zplc b s j) (v3 : k = 3 → v = lN (zvq b s (zplc b s j))) (v2 : k = 2 → v = lN (znm 32 b s j)) (hm : m' = mz_wr (mz_wl (mz_wr (mz_wr m0 24 j (nI k)) 25 j (nI q)) 26 j v) 23 4 (nI (j + 1))) : zTs m' b s (j + 1) ∧ zFt m m' := by
  have r : ∀ a i, mz_rd m' a i = if a = 23 ∧ i = 4 then nI (j + 1) else if a = 25 ∧ i = j then nI q else if a = 24 ∧ i = j then nI k else mz_rd m0 a i := fun a i => by
    rw [hm, m_rw, m_rwl, m_rw, m_rw]
  have rl : ∀ i, mz_rl m' 26 i = if i = j then v else mz_rl m 26 i := fun i => by
    rw [hm, m_lw, m_lwl, m_lw, m_lw]
    unfold mz_rl
    rw [w.2]
    by_cases c : i = j
    · rw [if_pos ⟨rfl, c⟩, if_pos c]
    · rw [if_neg (fun z => c z.2), if_neg c]
  refine ⟨⟨?_, ?_, fun i hi => ?_⟩, fun a i z => ?_, fun a z => ?_⟩
  · rw [r, if_pos ⟨rfl, rfl⟩]
  · rw [r, if_neg (by omega), if_neg (by omega), if_neg (by omega), h5]
    rfl
  · by_cases c : i = j
    · subst c
      refine ⟨?_, ?_, fun z => ?_, fun z => ?_⟩
      · rw [r, if_neg (by omega), if_neg (by omega), if_pos ⟨rfl, rfl⟩, hk]
      · rw [r, if_neg (by omega), if_pos ⟨rfl, rfl⟩, hq]
      · rw [rl, if_pos rfl]; exact v3 (by omega)
      · rw [rl, if_pos rfl]; exact v2 (by omega)
    · obtain ⟨a1, a2, a3, a4⟩ := h.2.2 i (by omega)
      have g : ∀ a, a = 24 ∨ a = 25 → mz_rd m' a i = mz_rd m a i := fun a z => by
        rw [r, if_neg (by omega), if_neg (by omega), if_neg (by omega)]
        exact w.1 a i (by omega)
      refine ⟨(g _ (by omega)).trans a1, (g _ (by omega)).trans a2, fun z => ?_, fun z => ?_⟩
      · rw [rl, if_neg c]; exact a3 z
      · rw [rl, if_neg c]; exact a4 z
  · rw [r, if_neg (by omega), if_neg (by omega), if_neg (by omega)]
    exact w.1 a i (by omega)
  · rw [hm]
    show (fun i' => if a = 26 ∧ i' = j then v else m0.2 a i') = m.2 a
    rw [w.2]
    funext i
    rw [if_neg (fun w => z w.1)]
theorem c_oneB {m m0 : MzM} {j : Nat} (h : zBy m b s) (t : zTs m b s j) (hj : j < 402) (w : zFr (fun a i => a = 23 ∧ i = 5) m m0) (h5 : mz_rd m0 23 5 = nI (zplc b s j)) : ∃ m', zCutB d m0 = some m' ∧ zTs m' b s (j + 1) ∧ zFt m m' := by
  obtain ⟨q, hq⟩ : ∃ q, q = zplc b s j := ⟨_, rfl⟩
  have qs : q ≤ s := by rw [hq]; exact zplc_le
  have s2 := h.1
  have h0 : zBy m0 b s := zBy_f h (fun a i z => w.1 a i (by omega))
  have h40 : mz_rd m0 23 4 = nI j := (w.1 _ _ (by omega)).trans t.1
  have bb := h.2.2.1 q
  rw [← hq] at h5
  unfold zCutB
  rw [h5]
  by_cases c : s ≤ q
  · rw [c_byteN h0 c (by omega), Option.bind_some]
    dsimp only
    have kp := c_keep (d := d) (m := m0) (k := 0) (p := q) (v := 0) h40 hj (by omega) (by omega)
    have kp : R_X9_keep d 0 (nI q) 0 m0 = _ := kp
    rw [if_neg (fun z => z rfl), kp, Option.bind_some]
    exact ⟨_, rfl, zTs_keep t w (by rw [h5, hq, show znx b s (zplc b s j) = zplc b s j from if_pos (by rw [← hq]; exact c)]) (by rw [zkq_0.mpr (by rw [← hq]; exact c)]) hq (fun z => absurd z (by omega)) (fun z => absurd z (by omega)) rfl⟩
  · have qs' : q < s := by omega
    have ne1 : ¬ nI (b q) = -1 := fun z => absurd (show nI (b q) < 0 by rw [z]; decide) (nI_pos (by omega))
    rw [c_byte h0 qs', Option.bind_some]
    dsimp only
    rw [if_pos ne1, c_isLt bb, Option.bind_some]
    dsimp only
    have kq : zkq b s q = if zle (b q) = true then (if 8 < zRe zle b s q - q then 1 else zwk (zwn (zcode 27 b q (zRe zle b s q - q)))) else if zdi (b q) = true then (if 4 < zRe zdi b s q - q then 1 else 3) else zsg (b q) := if_neg c
    have nq : znx b s q = if zle (b q) = true then zRe zle b s q else if zdi (b q) = true then zRe zdi b s q else q + 1 := if_neg c
    by_cases cl : zle (b q) = true
    · rw [if_pos cl] at kq nq
      rw [if_pos cl, if_neg (show ¬ (1 : Int32) = 0 by decide), R_X9_cutWord_eq]
      obtain ⟨m1, e1, f1, g1⟩ := c_word (d := d) (q := q) _ q m0 rfl (Nat.le_refl _) qs h0 h5
      rw [Nat.sub_self] at e1
      have e1 : H_X9_cutWord_2 d (nI q) 0 m0 = _ := e1
      rw [e1]
      have r1 := zRe_1 (P := zle) (b := b) (s := s) (p := q)
      have r2 := zRe_2 (P := zle) (b := b) qs
      have f1' := zFr_t w f1
      have h41 : mz_rd m1 23 4 = nI j := (f1.1 _ _ (by omega)).trans h40
      have h1 : zBy m1 b s := zBy_f h0 (fun a i z => f1.1 a i (by omega))
      unfold zWend
      rw [g1, pk_sub r1]
      by_cases c8 : zRe zle b s q - q ≤ 8
      · rw [if_neg (show ¬ 8 < zRe zle b s q - q by omega)] at kq
        have wn := c_wordN (d := d) (q := q) (n := zRe zle b s q - q) h1 (by rw [g1]; congr 1; omega) (by omega) c8 (fun i hi => (zRe_3 (s := s) (p := q) (by omega) (by omega)).2) 21 0 (by omega)
        have wn : H_X9_wordNumber_2 d (nI q) 0 m1 = some (zfi (zwn (zcode 27 b q (zRe zle b s q - q))), m1) := wn
        rw [if_pos (show nI (zRe zle b s q - q) ≤ 8 from nI_le (b := 8) c8 (by omega)), R_X9_wordNumber_eq, wn, Option.bind_some]
        dsimp only
        obtain ⟨o, ho⟩ : ∃ o, zwn (zcode 27 b q (zRe zle b s q - q)) = o := ⟨_, rfl⟩
        cases o with
        | none =>
          rw [ho] at kq
          have kp := c_keep (d := d) (m := m1) (k := 2) (p := q) (v := lN (zcode 32 b q (zRe zle b s q - q))) h41 hj (by omega) (by omega)
          have kp : R_X9_keep d 2 (nI q) (lN (zcode 32 b q (zRe zle b s q - q))) m1 = _ := kp
          rw [ho, if_neg (show ¬ (0 : Int32) ≤ zfi none by decide), kp, Option.bind_some]
          exact ⟨_, rfl, zTs_keep t f1' (by rw [g1, ← hq, nq]) (by rw [← hq, kq]; rfl) hq (fun z => absurd z (by omega)) (fun _ => by unfold znm; rw [← hq]) rfl⟩
        | some k =>
          have k21 := (zwn_lt ho).1
          rw [ho] at kq
          have kq : zkq b s q = 13 + k := kq
          have kp := c_keep (d := d) (m := m1) (k := 13 + k) (p := q) (v := lN (zcode 32 b q (zRe zle b s q - q))) h41 hj (by omega) (by omega)
          have k13 : (13 : Int32) + zfi (some k) = nI (13 + k) := nI_add 13 k
          rw [ho, if_pos (show (0 : Int32) ≤ zfi (some k) from nI_pos' (by omega)), k13, kp, Option.bind_some]
          exact ⟨_, rfl, zTs_keep t f1' (by rw [g1, ← hq, nq]) (by rw [← hq, kq]) hq (fun z => absurd z (by omega)) (fun z => absurd z (by omega)) rfl⟩
      · rw [if_pos (show 8 < zRe zle b s q - q by omega)] at kq
        have kp := c_keep (d := d) (m := m1) (k := 1) (p := q) (v := 0) h41 hj (by omega) (by omega)
        have kp : R_X9_keep d 1 (nI q) 0 m1 = _ := kp
        rw [if_neg (show ¬ nI (zRe zle b s q - q) ≤ 8 from nI_ge (a := 8) (by omega) (by omega)), kp, Option.bind_some]
        exact ⟨_, rfl, zTs_keep t f1' (by rw [g1, ← hq, nq]) (by rw [← hq, kq]) hq (fun z => absurd z (by omega)) (fun z => absurd z (by omega)) rfl⟩
    · rw [if_neg cl] at kq nq
      rw [if_neg cl, if_pos rfl, c_isDg bb, Option.bind_some]
      dsimp only
      by_cases cd : zdi (b q) = true
      · rw [if_pos cd] at kq nq
        rw [if_pos cd, if_neg (show ¬ (1 : Int32) = 0 by decide), R_X9_cutInt_eq]
        obtain ⟨m1, e1, f1, g1⟩ := c_intg (d := d) (q := q) _ q m0 rfl (Nat.le_refl _) qs h0 h5
        rw [Nat.sub_self] at e1
        have e1 : H_X9_cutInt_2 d (nI q) 0 m0 = _ := e1
        rw [e1]
        have r1 := zRe_1 (P := zdi) (b := b) (s := s) (p := q)
        have r2 := zRe_2 (P := zdi) (b := b) qs
        have f1' := zFr_t w f1
        have h41 : mz_rd m1 23 4 = nI j := (f1.1 _ _ (by omega)).trans h40
        unfold zIend
        rw [g1, pk_sub r1]
        by_cases c4 : zRe zdi b s q - q ≤ 4
        · rw [if_neg (show ¬ 4 < zRe zdi b s q - q by omega)] at kq
          have vq : zvq b s q = znum b q (zRe zdi b s q - q) := if_pos c4
          have vlt := zvq_lt (b := b) (s := s) (q := q)
          have kp := c_keep (d := d) (m := m1) (k := 3) (p := q) (v := (nI (znum b q (zRe zdi b s q - q)) : Int32).toInt64) h41 hj (by omega) (by omega)
          have kp : R_X9_keep d 3 (nI q) ((nI (znum b q (zRe zdi b s q - q)) : Int32).toInt64) m1 = _ := kp
          rw [if_pos (show nI (zRe zdi b s q - q) ≤ 4 from nI_le (b := 4) c4 (by omega)), kp, Option.bind_some]
          exact ⟨_, rfl, zTs_keep t f1' (by rw [g1, ← hq, nq]) (by rw [← hq, kq]) hq (fun _ => by rw [nI_l (by omega), ← hq, vq]) (fun z => absurd z (by omega)) rfl⟩
        · rw [if_pos (show 4 < zRe zdi b s q - q by omega)] at kq
          have kp := c_keep (d := d) (m := m1) (k := 1) (p := q) (v := (nI (znum b q (zRe zdi b s q - q)) : Int32).toInt64) h41 hj (by omega) (by omega)
          have kp : R_X9_keep d 1 (nI q) ((nI (znum b q (zRe zdi b s q - q)) : Int32).toInt64) m1 = _ := kp
          rw [if_neg (show ¬ nI (zRe zdi b s q - q) ≤ 4 from nI_ge (a := 4) (by omega) (by omega)), kp, Option.bind_some]
          exact ⟨_, rfl, zTs_keep t f1' (by rw [g1, ← hq, nq]) (by rw [← hq, kq]) hq (fun z => absurd z (by omega)) (fun z => absurd z (by omega)) rfl⟩
      · rw [if_neg cd] at kq nq
        have ch : ((nI (b q) : Int32).toUInt32 % 65536).toInt32 = nI (b q) := (sb_byte (b q) bb).2.1
        have sl := zsg_lt (c := b q)
        obtain ⟨m1, hm1⟩ : ∃ x : MzM, x = mz_wr m0 23 5 (nI (q + 1)) := ⟨_, rfl⟩
        have f1 : zFr (fun a i => a = 23 ∧ i = 5) m0 m1 := by rw [hm1]; exact zFr_w ⟨rfl, rfl⟩
        have f1' := zFr_t w f1
        have h41 : mz_rd m1 23 4 = nI j := (f1.1 _ _ (by omega)).trans h40
        have g1 : mz_rd m1 23 5 = nI (q + 1) := by rw [hm1, m_eq]
        rw [if_neg cd, if_pos rfl, ch, z_ix (b q) bb, h5, nI_1, ← hm1]
        by_cases c1 : zsg (b q) = 1
        · have kp := c_keep (d := d) (m := m1) (k := 1) (p := q) (v := 0) h41 hj (by omega) (by omega)
          have kp : R_X9_keep d 1 (nI q) 0 m1 = _ := kp
          rw [if_pos c1, if_neg (show ¬ (0 : Int32) ≤ -1 by decide), kp, Option.bind_some]
          exact ⟨_, rfl, zTs_keep t f1' (by rw [g1, ← hq, nq]) (by rw [← hq, kq, c1]) hq (fun z => absurd z (by omega)) (fun z => absurd z (by omega)) rfl⟩
        · have s4 : 4 ≤ zsg (b q) := by
            unfold zsg at c1 ⊢
            repeat' split
            all_goals first | omega | (exfalso; apply c1; simp_all)
          have kp := c_keep (d := d) (m := m1) (k := zsg (b q)) (p := q) (v := 0) h41 hj (by omega) (by omega)
          have k4 : (4 : Int32) + nI (zsg (b q) - 4) = nI (zsg (b q)) := by
            rw [show (4 : Int32) + nI (zsg (b q) - 4) = nI (4 + (zsg (b q) - 4)) from nI_add 4 _, show 4 + (zsg (b q) - 4) = zsg (b q) by omega]
          rw [if_neg c1, if_pos (nI_pos' (by omega)), k4, kp, Option.bind_some]
          exact ⟨_, rfl, zTs_keep t f1' (by rw [g1, ← hq, nq]) (by rw [← hq, kq]) hq (fun z => absurd z (by omega)) (fun z => absurd z (by omega)) rfl⟩
theorem c_skip {m : MzM} (h : zBy m b s) : ∀ (f p : Nat) (m0 : MzM), s - p = f → p ≤ s → zFr (fun a i => a = 23 ∧ i = 5) m m0 → mz_rd m0 23 5 = nI p → ∃ m', H_X9_cutOne_0 d m0 = zCutB d m' ∧ zFr (fun a i => a = 23 ∧ i = 5) m m' ∧ mz_rd m' 23 5 = nI (zRe zbl b s p) := by
  intro f
  induction f with
  | zero =>
    intro p m0 e hp w h5
    have s2 := h.1
    have h0 : zBy m0 b s := zBy_f h (fun a i z => w.1 a i (by omega))
    rw [zRe_no (by omega)]
    refine ⟨m0, ?_, w, h5⟩
    rw [H_X9_cutOne_0_eq, if_pos (show mz_rd m0 2 1 ≤ mz_rd m0 23 5 by rw [h0.2.1, h5]; exact nI_le (by omega) (by omega))]
    rfl
  | succ f ih =>
    intro p m0 e hp w h5
    have s2 := h.1
    have h0 : zBy m0 b s := zBy_f h (fun a i z => w.1 a i (by omega))
    have ps : p < s := by omega
    have x := H_X9_cutOne_0_eq d m0
    rw [if_neg (show ¬ mz_rd m0 2 1 ≤ mz_rd m0 23 5 by rw [h0.2.1, h5]; exact nI_ge ps (by omega))] at x
    by_cases c : zbl (b p) = true
    · obtain ⟨m1, hm1⟩ : ∃ x : MzM, x = mz_wr m0 23 5 (nI (p + 1)) := ⟨_, rfl⟩
      have f1 : zFr (fun a i => a = 23 ∧ i = 5) m0 m1 := by rw [hm1]; exact zFr_w ⟨rfl, rfl⟩
      rw [h5, c_byte h0 ps, Option.bind_some] at x
      dsimp only at x
      rw [c_isB (h.2.2.1 p), if_pos c, Option.bind_some] at x
      dsimp only at x
      rw [if_neg (show ¬ (1 : Int32) = 0 by decide), h5, nI_1, ← hm1] at x
      obtain ⟨m2, e2, f2, g2⟩ := ih (p + 1) m1 (by omega) (by omega) (zFr_t w f1) (by rw [hm1, m_eq])
      rw [zRe_go ps c]
      exact ⟨m2, x.trans e2, f2, g2⟩
    · rw [zRe_no (fun z => c z.2)]
      refine ⟨m0, ?_, w, h5⟩
      have y : (R_X7_byteAt d (mz_rd m0 23 5) m0) = some (nI (b p), m0) := by rw [h5]; exact c_byte h0 ps
      rw [y, Option.bind_some] at x
      dsimp only at x
      rw [c_isB (h.2.2.1 p), if_neg c, Option.bind_some] at x
      dsimp only at x
      rw [if_pos rfl] at x
      exact x
theorem c_one {m : MzM} {j : Nat} (h : zBy m b s) (t : zTs m b s j) (hj : j < 402) : ∃ m', R_X9_cutOne d m = some m' ∧ zTs m' b s (j + 1) ∧ zFt m m' := by
  have e : R_X9_cutOne d m = H_X9_cutOne_0 d m := by rw [R_X9_cutOne_eq, H_X9_cutOne_0_eq]
  obtain ⟨m1, e1, f1, g1⟩ := c_skip (d := d) h _ (zps b s j) m rfl (zps_le j) zFr_r t.2.1
  obtain ⟨m2, e2, t2, f2⟩ := c_oneB (d := d) h t hj f1 g1
  exact ⟨m2, (e.trans e1).trans e2, t2, f2⟩
theorem zFt_t {m m1 m2 : MzM} (h : zFt m m1) (g : zFt m1 m2) : zFt m m2 := ⟨fun a i z => (g.1 a i z).trans (h.1 a i z), fun a z => (g.2 a z).trans (h.2 a z)⟩
/-- the whole tape -/
theorem c_cut {m0 : MzM} (h0 : zBy m0 b s) : ∃ m' sz, R_X9_cut d m0 = some m' ∧ zFt m0 m' ∧ (sz ≤ 402 ∧ (sz = 402 ∨ (0 < sz ∧ zkd b s (sz - 1) = 0))) ∧ zTs m' b s sz := by
  have go : ∀ (n j : Nat) (m : MzM), j + n = 402 → zFt m0 m → zTs m b s j → ∃ m' sz, H_X9_cut_14 d 0 (nI j) m = some m' ∧ zFt m0 m' ∧ (sz ≤ 402 ∧ (sz = 402 ∨ (0 < sz ∧ zkd b s (sz - 1) = 0))) ∧ zTs m' b s sz := by
    intro n
    induction n with
    | zero =>
      intro j m e f t
      refine ⟨m, j, ?_, f, ⟨by omega, Or.inl (by omega)⟩, t⟩
      rw [H_X9_cut_14_eq, if_pos (show (402 : Int32) ≤ nI j from nI_le (a := 402) (by omega) (by omega))]
    | succ n ih =>
      intro j m e f t
      have h : zBy m b s := zBy_f h0 (fun a i z => f.1 a i (by omega))
      obtain ⟨m1, e1, t1, f1⟩ := c_one (d := d) h t (by omega)
      have k1 := (t1.2.2 j (by omega)).1
      have kl := zkq_lt (b := b) (s := s) (q := zplc b s j)
      have x := H_X9_cut_14_eq d 0 (nI j) m
      rw [if_neg (show ¬ (402 : Int32) ≤ nI j from nI_ge (b := 402) (by omega) (by omega)), if_neg (show ¬ ¬ (0 : Int32) = 0 from fun z => z rfl), e1, Option.bind_some, n_ok (by omega), n_gd (by omega), nI_clamp (by omega), k1, nI_1] at x
      by_cases c : zkq b s (zplc b s j) = 0
      · rw [if_neg (show ¬ ¬ nI (zkq b s (zplc b s j)) = 0 from fun z => z (by rw [c]; rfl)), H_X9_cut_14_eq d 1 (nI (j + 1)) m1, if_pos (show ¬ (1 : Int32) = 0 by decide)] at x
        refine ⟨m1, j + 1, ?_, zFt_t f f1, ⟨by omega, Or.inr ⟨by omega, ?_⟩⟩, t1⟩
        · rw [x]
          by_cases q : (402 : Int32) ≤ nI (j + 1)
          · rw [if_pos q]
          · rw [if_neg q]
        · rw [show j + 1 - 1 = j by omega]
          unfold zkd
          rw [if_pos (by omega)]
          exact c
      · rw [if_pos (show ¬ nI (zkq b s (zplc b s j)) = 0 from k_ne (b := 0) (by omega) (by omega) c)] at x
        obtain ⟨m2, sz, e2, r2⟩ := ih (j + 1) m1 (by omega) (zFt_t f f1) t1
        exact ⟨m2, sz, x.trans e2, r2⟩
  obtain ⟨m1, hm1⟩ : ∃ x : MzM, x = mz_wr (mz_wr m0 23 5 0) 23 4 0 := ⟨_, rfl⟩
  obtain ⟨m2, sz, e2, r2⟩ := go 402 0 m1 (by omega) ⟨fun a i z => by rw [hm1, m_ne (by omega), m_ne (by omega)], fun a z => by rw [hm1]; rfl⟩ ⟨by rw [hm1, m_eq]; rfl, by rw [hm1, m_ni (by omega), m_eq]; rfl, fun i hi => absurd hi (by omega)⟩
  refine ⟨m2, sz, ?_, r2⟩
  rw [R_X9_cut_eq, ← hm1]
  exact e2
end ZCcut
