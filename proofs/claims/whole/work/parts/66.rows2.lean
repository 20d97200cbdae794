/-! rows of turns: find, answer; the reference's rows; obligations -/
theorem zways_wl (np : Nat) : ∀ n w, w ∈ zways np n → w.length = n := by
  intro n
  induction n with
  | zero =>
    intro w h
    have : w = [] := by simpa [zways] using h
    rw [this]
    rfl
  | succ n ih =>
    intro w h
    have h : w ∈ (zprs np).flatMap fun q => (zways np n).map fun w => q :: w := h
    rw [List.mem_flatMap] at h
    obtain ⟨q, -, h2⟩ := h
    obtain ⟨w', h3, rfl⟩ := List.mem_map.mp h2
    rw [List.length_cons, ih w' h3]
theorem zrow_s {T : ZT} {v : Nat → Nat} {g p q x L : Nat} {w : List (Nat × Nat)} (hL : L ≤ 3) (h1 : ∀ l, l < L → ((zways (tN T) l).find? fun w => zgoal T g p q x (zwalk T v w)) = none) (h2 : ((zways (tN T) L).find? fun w => zgoal T g p q x (zwalk T v w)) = some w) : zrow T v g p q x = some w := by
  unfold zrow
  rw [List.find?_append, List.find?_append, List.find?_append]
  rcases (show L = 0 ∨ L = 1 ∨ L = 2 ∨ L = 3 by omega) with rfl | rfl | rfl | rfl
  · rw [h2]; rfl
  · rw [h1 0 (by omega), h2]; rfl
  · rw [h1 0 (by omega), h1 1 (by omega), h2]; rfl
  · rw [h1 0 (by omega), h1 1 (by omega), h1 2 (by omega), h2]; rfl
theorem zrow_n {T : ZT} {v : Nat → Nat} {g p q x : Nat} (h1 : ∀ l, l < 4 → ((zways (tN T) l).find? fun w => zgoal T g p q x (zwalk T v w)) = none) : zrow T v g p q x = none := by
  unfold zrow
  rw [List.find?_append, List.find?_append, List.find?_append, h1 0 (by omega), h1 1 (by omega), h1 2 (by omega), h1 3 (by omega)]
  rfl
def zFi (a i : Nat) : Prop := zE a i ∨ a = 201 ∨ (203 ≤ a ∧ a ≤ 219)
def zRoX (T : ZT) (v : Nat → Nat) (g p q x : Nat) (m : MzM) : Prop := zFd g p q x m ∧ mz_rd m 201 5 = zrowN (zrow T v g p q x) ∧ ∀ w, zrow T v g p q x = some w → w.length ≤ 3 ∧ (∀ a b, (a, b) ∈ w → a < 6 ∧ b < 6) ∧ ∀ i a b, w[i]? = some (a, b) → mz_rd m 203 i = nI (10 * a + b)
theorem zways_in {np : Nat} (hn : np ≤ 6) : ∀ n w, w ∈ zways np n → ∀ a b, (a, b) ∈ w → a < b ∧ b < np := by
  intro n
  induction n with
  | zero =>
    intro w h a b hab
    have : w = [] := by simpa [zways] using h
    rw [this] at hab
    cases hab
  | succ n ih =>
    intro w h a b hab
    have h : w ∈ (zprs np).flatMap fun q => (zways np n).map fun w => q :: w := h
    rw [List.mem_flatMap] at h
    obtain ⟨q, h1, h2⟩ := h
    obtain ⟨w', h3, rfl⟩ := List.mem_map.mp h2
    rcases List.mem_cons.mp hab with e | e
    · obtain ⟨k, hk, hk2⟩ := List.mem_iff_getElem.mp h1
      exact zprs_in hn (show (zprs np)[k]? = some (a, b) by rw [List.getElem?_eq_getElem hk, hk2, ← e])
    · exact ih w' h3 a b e
section ZFn
variable {T : ZT} {B g p q x : Nat} {m : MzM} {v : Nat → Nat}
theorem c_find (hg : zgok T g p q x) (hx : x < 2 ^ 30) (h1 : zTC T m) (h3 : zSC (tN T) m 29 v) (hB : zB (tN T) B v) (hr : zRo T v m) : ∃ m', R_X5_find 8 29 (nI g) (nI p) (nI q) (nI x) m = some m' ∧ zFr zFi m m' ∧ zRoX T v g p q x m' := by
  have h6 := h1.1.1
  have g31 : g < 2 ^ 31 := by rcases hg with z | z | z <;> omega
  have p31 : p < 2 ^ 31 := by rcases hg with z | z | z <;> omega
  have q31 : q < 2 ^ 31 := by rcases hg with z | z | z <;> omega
  -- the search
  have srch : ∃ m', (R_X6_copyFrom 8 204 29 (mz_wr (mz_wr (mz_wr (mz_wr (mz_wr (mz_wr m 201 6 (nI g)) 201 7 (nI p)) 201 8 (nI q)) 201 9 (nI x)) 201 4 1) 201 5 (-2))).bind (fun m3 => H_X5_find_88 8 0 m3) = some m' ∧ zFr zFi m m' ∧ zRoX T v g p q x m' := by
    have f0 : zFr (fun a _ => a = 201) m (mz_wr (mz_wr (mz_wr (mz_wr (mz_wr (mz_wr m 201 6 (nI g)) 201 7 (nI p)) 201 8 (nI q)) 201 9 (nI x)) 201 4 1) 201 5 (-2)) := zFr_w2 (zFr_w2 (zFr_w2 (zFr_w2 (zFr_w2 (zFr_w rfl) rfl) rfl) rfl) rfl) rfl
    have S0 := zSC_f (m' := (mz_wr (mz_wr (mz_wr (mz_wr (mz_wr (mz_wr m 201 6 (nI g)) 201 7 (nI p)) 201 8 (nI q)) 201 9 (nI x)) 201 4 1) 201 5 (-2))) h3 (fun a i z1 z2 => f0.1 a i (by omega))
    obtain ⟨m3, e3, f3, s3⟩ := c_copy (d := 8) (isS_behind 0 (by omega)) z_s29 (by omega) S0
    have F3 : zFr zFi m m3 := zFr_t (zFr_m f0 (fun a i z => Or.inr (Or.inl z))) (zFr_m f3 (fun a i z => Or.inr (Or.inr (by omega))))
    have K3 : ∀ i, mz_rd m3 201 i = mz_rd (mz_wr (mz_wr (mz_wr (mz_wr (mz_wr (mz_wr m 201 6 (nI g)) 201 7 (nI p)) 201 8 (nI q)) 201 9 (nI x)) 201 4 1) 201 5 (-2)) 201 i := fun i => f3.1 201 i (by omega)
    have Fd3 : zFd g p q x m3 := by
      refine ⟨?_, ?_, ?_, ?_⟩
      · rw [K3, m_ni (by omega), m_ni (by omega), m_ni (by omega), m_ni (by omega), m_ni (by omega), m_eq]
      · rw [K3, m_ni (by omega), m_ni (by omega), m_ni (by omega), m_ni (by omega), m_eq]
      · rw [K3, m_ni (by omega), m_ni (by omega), m_ni (by omega), m_eq]
      · rw [K3, m_ni (by omega), m_ni (by omega), m_eq]
    have t5 : mz_rd m3 201 5 = -2 := by rw [K3, m_eq]
    have T3 : zTC T m3 := zTC_f h1 (fun a i t => F3.1 a i (by unfold zFi zE; unfold zTx at t; omega))
    have e3' : R_X6_copyFrom 8 204 29 _ = some m3 := e3
    rw [e3', Option.bind_some]
    have key : ∃ r, H_X5_find_88 8 (nI 0) m3 = some r ∧ zFr (fun a i => zDf 0 a i ∨ (a = 201 ∧ i = 5)) m3 r ∧ zRoX T v g p q x r := by
      refine zlp (fun L y => H_X5_find_88 8 (nI L) y) (fun r => zFr (fun a i => zDf 0 a i ∨ (a = 201 ∧ i = 5)) m3 r ∧ zRoX T v g p q x r) (fun L y => zFr (zDf 0) m3 y ∧ ∀ l, l < L → ((zways (tN T) l).find? fun w => zgoal T g p q x (zwalk T v w)) = none) 4 ?_ ?_ 0 m3 (by omega) ⟨zFr_r, fun l hl => by omega⟩
      · rintro L y hL ⟨F, N⟩
        have Ty := zTC_D T3 F
        have Fy : zFd g p q x y := zFd_f Fd3 (fun i => F.1 201 i (by unfold zDf zE; omega))
        have Sy : zSC (tN T) y (204 + 4 * 0) v := zSC_f s3 (fun c i z1 z2 => F.1 c i (by unfold zDf zE; omega))
        have y5 : mz_rd y 201 5 = -2 := (F.1 201 5 (by unfold zDf zE; omega)).trans t5
        obtain ⟨m4, e4, f4, r4⟩ := c_reach (B := B) hg hx L 0 8 v y (by omega) (by omega) Ty Fy Sy hB (fun j hj w hw => by
          have := List.find?_eq_none.mp (N j (by omega)) w hw
          simpa using this)
        have e4' : R_X5_reaches 8 0 (nI L) y = some (zb ((zways (tN T) L).find? fun w => zgoal T g p q x (zwalk T v w)).isSome, m4) := by
          have := e4
          rw [Nat.zero_add] at this
          exact this
        show (∃ y', (zFr (zDf 0) m3 y' ∧ ∀ l, l < L + 1 → ((zways (tN T) l).find? fun w => zgoal T g p q x (zwalk T v w)) = none) ∧ H_X5_find_88 8 (nI L) y = H_X5_find_88 8 (nI (L + 1)) y') ∨ (∃ r, H_X5_find_88 8 (nI L) y = some r ∧ _)
        rw [H_X5_find_88_eq, if_neg (show ¬ (3 : Int32) < nI L from nI_nlt (a := 3) (by omega) (by omega)), y5, if_neg (fun z => z rfl), e4', Option.bind_some]
        dsimp only
        cases hf : (zways (tN T) L).find? (fun w => zgoal T g p q x (zwalk T v w)) with
        | none =>
          left
          refine ⟨m4, ⟨zFr_t F f4, fun l hl => ?_⟩, ?_⟩
          · by_cases c : l = L
            · subst c; exact hf
            · exact N l (by omega)
          · rw [nI_1]; rfl
        | some w =>
          right
          have zr := zrow_s (by omega) N hf
          have wl := zways_wl _ _ w (List.mem_of_find?_eq_some hf)
          have nx : H_X5_find_88 8 (nI (L + 1)) (mz_wr m4 201 5 (nI L)) = some (mz_wr m4 201 5 (nI L)) := by
            rw [H_X5_find_88_eq, m_eq]
            by_cases c : (3 : Int32) < nI (L + 1)
            · rw [if_pos c]
            · rw [if_neg c, if_pos (z_ne2 (by omega))]
          refine ⟨mz_wr m4 201 5 (nI L), ?_, zFr_w2 (zFr_m (zFr_t F f4) (fun a i z => Or.inl z)) (Or.inr ⟨rfl, rfl⟩), ⟨?_, ?_, ?_, ?_⟩, ?_, ?_⟩
          · rw [nI_1]; exact nx
          · rw [m_ni (by omega), f4.1 201 6 (by unfold zDf zE; omega)]; exact Fy.1
          · rw [m_ni (by omega), f4.1 201 7 (by unfold zDf zE; omega)]; exact Fy.2.1
          · rw [m_ni (by omega), f4.1 201 8 (by unfold zDf zE; omega)]; exact Fy.2.2.1
          · rw [m_ni (by omega), f4.1 201 9 (by unfold zDf zE; omega)]; exact Fy.2.2.2
          · rw [m_eq, zr]
            show nI L = nI w.length
            rw [wl]
          · intro w' hw'
            rw [zr] at hw'
            have hw' := Option.some.inj hw'
            subst hw'
            refine ⟨by omega, fun a b hab => ?_, fun i a b hi => ?_⟩
            · have := zways_in h6 L w (List.mem_of_find?_eq_some hf) a b hab
              omega
            · rw [m_ne (by omega)]
              have := r4 w hf i a b hi
              rw [Nat.zero_add] at this
              exact this
      · rintro y ⟨F, N⟩
        have y5 : mz_rd y 201 5 = -2 := (F.1 201 5 (by unfold zDf zE; omega)).trans t5
        have zr := zrow_n N
        show ∃ r, H_X5_find_88 8 (nI 4) y = some r ∧ _
        rw [H_X5_find_88_eq, if_pos (by decide)]
        refine ⟨_, rfl, zFr_m F (fun a i z => Or.inl z), zFd_f Fd3 (fun i => F.1 201 i (by unfold zDf zE; omega)), ?_, fun w hw => ?_⟩
        · rw [y5, zr]; rfl
        · rw [zr] at hw; cases hw
    obtain ⟨r, e5, f5, z5⟩ := key
    exact ⟨r, e5, zFr_t F3 (zFr_m f5 (fun a i z => by
      rcases z with (z | z | z) | z
      · exact Or.inl z
      · exact Or.inr (Or.inr (by omega))
      · exact Or.inr (Or.inr (by omega))
      · exact Or.inr (Or.inl z.1))), z5⟩
  rw [R_X5_find_eq 8 29 _ _ _ _ m z_s29]
  by_cases c4 : mz_rd m 201 4 = 0
  · rw [if_pos c4]; exact srch
  · rw [if_neg c4]
    by_cases c6 : mz_rd m 201 6 = nI g
    · rw [if_neg (fun z => z c6)]
      by_cases c7 : mz_rd m 201 7 = nI p
      · rw [if_neg (fun z => z c7)]
        by_cases c8 : mz_rd m 201 8 = nI q
        · rw [if_neg (fun z => z c8)]
          by_cases c9 : mz_rd m 201 9 = nI x
          · rw [if_neg (fun z => z c9)]
            rcases hr with z | ⟨g', p', q', x', k1, k2, k3, k4, k5, k6, k7, k8, k9, k10⟩
            · exact absurd z c4
            · rw [c6] at k5
              rw [c7] at k6
              rw [c8] at k7
              rw [c9] at k8
              have eg := (nI_eq g31 (by omega)).mp k5
              have ep := (nI_eq p31 k2).mp k6
              have eq := (nI_eq q31 k3).mp k7
              have ex := (nI_eq (by omega) k4).mp k8
              subst eg
              subst ep
              subst eq
              subst ex
              refine ⟨m, rfl, zFr_r, ⟨c6, c7, c8, c9⟩, k9, fun w hw => ?_⟩
              have hm : w ∈ zways (tN T) 0 ++ zways (tN T) 1 ++ zways (tN T) 2 ++ zways (tN T) 3 := List.mem_of_find?_eq_some hw
              have hm2 : ∃ n, n ≤ 3 ∧ w ∈ zways (tN T) n := by
                rcases List.mem_append.mp hm with z | z
                · rcases List.mem_append.mp z with z | z
                  · rcases List.mem_append.mp z with z | z
                    · exact ⟨0, by omega, z⟩
                    · exact ⟨1, by omega, z⟩
                  · exact ⟨2, by omega, z⟩
                · exact ⟨3, by omega, z⟩
              obtain ⟨n, hn, hwn⟩ := hm2
              have wl := zways_wl _ n w hwn
              refine ⟨by omega, fun a b hab => ?_, fun i a b hi => ?_⟩
              · have := zways_in h6 n w hwn a b hab
                omega
              · rw [k10 w hw i (zget_lt hi)]
                show (match w[i]? with
                  | some (a, b) => nI (10 * a + b)
                  | none => -1) = _
                rw [hi]
          · rw [if_pos c9]; exact srch
        · rw [if_pos c8]; exact srch
      · rw [if_pos c7]; exact srch
    · rw [if_pos c6]; exact srch
/-- the answer -/
def zans (r : Option (List (Nat × Nat))) (i : Int32) : Int32 := if i = -1 then zrowN r else zrowA r i.toNatClampNeg
def zTn (x : Int32) : Bool := !decide (x < -1) && !decide ((3 : Int32) ≤ x)
theorem zTn_t {x : Int32} (h : zTn x = true) : x = -1 ∨ ∃ j, j < 3 ∧ x = nI j := by
  unfold zTn at h
  simp only [Bool.and_eq_true, Bool.not_eq_true', decide_eq_false_iff_not] at h
  by_cases c : x = -1
  · exact Or.inl c
  · obtain ⟨j, hj, rfl⟩ := z_m1 c (Int32.not_lt.mp h.1)
    refine Or.inr ⟨j, ?_, rfl⟩
    apply Classical.byContradiction
    intro hh
    exact h.2 (show (3 : Int32) ≤ nI j from nI_le (a := 3) (by omega) hj)
theorem c_isTn {d : Nat} {y : Int32} {m : MzM} : R_X11_isTurnNumber d y m = some (zb (zTn y), m) := by
  rw [R_X11_isTurnNumber_eq]
  unfold zTn
  by_cases c : y < -1
  · rw [if_pos c, decide_eq_true c]; rfl
  · rw [if_neg c, decide_eq_false c]
    by_cases c2 : (3 : Int32) ≤ y
    · rw [if_pos c2, decide_eq_true c2]; rfl
    · rw [if_neg c2, decide_eq_false c2]; rfl
theorem r_isTn {d : Nat} {y : Int32} {m : MzM} : R_X12_in d y (-1) 2 m = some (zb (zTn y), m) := by
  rw [R_X12_in_eq]
  unfold zTn
  have e : ((2 : Int32) < y) ↔ ((3 : Int32) ≤ y) := by
    rw [Int32.lt_iff_toInt_lt, Int32.le_iff_toInt_le]
    have e1 : (2 : Int32).toInt = 2 := by decide
    have e2 : (3 : Int32).toInt = 3 := by decide
    omega
  by_cases c : y < -1
  · rw [if_pos c, decide_eq_true c]; rfl
  · rw [if_neg c, decide_eq_false c]
    by_cases c2 : (3 : Int32) ≤ y
    · rw [if_pos (e.mpr c2), decide_eq_true c2]; rfl
    · rw [if_neg (fun z => c2 (e.mp z)), decide_eq_false c2]; rfl
theorem c_answer {d : Nat} {i : Int32} (hi : zTn i = true) (h : zRoX T v g p q x m) : R_X5_answer d i m = some (zans (zrow T v g p q x) i, m) := by
  obtain ⟨-, h5, hw⟩ := h
  rw [R_X5_answer_eq, h5]
  unfold zans
  cases e : zrow T v g p q x with
  | none =>
    rw [if_pos (show zrowN none = -2 from rfl)]
    by_cases c : i = -1
    · rw [if_pos c]
    · rw [if_neg c]; rfl
  | some w =>
    obtain ⟨w1, w2, w3⟩ := hw w e
    have q0 : zrowN (some w) = nI w.length := rfl
    rw [q0, if_neg (z_ne2 (by omega))]
    rcases zTn_t hi with rfl | ⟨j, hj, rfl⟩
    · rw [if_neg (fun z => z rfl), if_pos rfl]
    · rw [if_pos (z_ne1 (by omega)), if_neg (z_ne1 (by omega)), if_neg (nI_pos (by omega)), nI_clamp (by omega)]
      show _ = some ((match w[j]? with
        | some (a, b) => nI (10 * a + b)
        | none => -1), m)
      by_cases c : w.length ≤ j
      · rw [if_pos (nI_le c (by omega)), List.getElem?_eq_none c]
      · rw [if_neg (nI_ge (by omega) (by omega)), n_ok (by omega), n_gd hj]
        cases hq : w[j]? with
        | none => rw [List.getElem?_eq_none_iff] at hq; omega
        | some ab =>
          obtain ⟨a, b⟩ := ab
          rw [w3 j a b hq]
end ZFn
