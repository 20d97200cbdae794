/-! rows of turns: the reference; obligations calm, rich, alike -/
theorem zfmap_get {α β : Type} {f : α → List β} {M : Nat} (hM : ∀ q, (f q).length = M) : ∀ (l : List α) (d r : Nat), r < M → (l.flatMap f)[M * d + r]? = (l[d]?).bind fun q => (f q)[r]? := by
  intro l
  induction l with
  | nil => intro d r _; simp
  | cons y l ih =>
    intro d r hr
    rw [List.flatMap_cons]
    cases d with
    | zero =>
      rw [Nat.mul_zero, Nat.zero_add, List.getElem?_append_left (by rw [hM]; exact hr)]
      rfl
    | succ d =>
      rw [List.getElem?_append_right (by rw [hM, Nat.mul_succ]; omega), hM]
      rw [show M * (d + 1) + r - M = M * d + r by rw [Nat.mul_succ]; omega, ih d r hr]
      rfl
theorem zways_len (np : Nat) : ∀ n, (zways np n).length = (zprs np).length ^ n := by
  intro n
  induction n with
  | zero => rfl
  | succ n ih =>
    have key : ∀ l : List (Nat × Nat), (l.flatMap fun q => (zways np n).map fun w => q :: w).length = l.length * (zprs np).length ^ n := by
      intro l
      induction l with
      | nil => simp
      | cons y l ih2 =>
        rw [List.flatMap_cons, List.length_append, ih2, List.length_map, ih, List.length_cons, Nat.succ_mul]
        omega
    show ((zprs np).flatMap fun q => (zways np n).map fun w => q :: w).length = _
    rw [key, Nat.pow_succ, Nat.mul_comm]
theorem zdig {L d r e n : Nat} (hL : 0 < L) (he : e < n) : (L ^ n * d + r) / L ^ e % L = r / L ^ e % L := by
  have h1 : L ^ n = L ^ e * (L * L ^ (n - e - 1)) := by
    rw [← Nat.pow_succ', ← Nat.pow_add]
    congr 1
    omega
  rw [h1, Nat.mul_assoc, Nat.mul_add_div (Nat.pow_pos hL), Nat.mul_assoc, Nat.mul_add_mod]
theorem zways_get (np : Nat) : ∀ n way, way < (zprs np).length ^ n → ∃ w, (zways np n)[way]? = some w ∧ w.length = n ∧ ∀ i, i < n → w[i]? = (zprs np)[way / (zprs np).length ^ (n - 1 - i) % (zprs np).length]? := by
  intro n
  induction n with
  | zero =>
    intro way h
    have : way = 0 := by simpa using h
    subst this
    exact ⟨[], rfl, rfl, fun i hi => by omega⟩
  | succ n ih =>
    intro way h
    have hL : 0 < (zprs np).length := by
      rcases Nat.eq_zero_or_pos (zprs np).length with z | z
      · rw [z, Nat.zero_pow (by omega)] at h; omega
      · exact z
    have hp : 0 < (zprs np).length ^ n := Nat.pow_pos hL
    have hd : way / (zprs np).length ^ n < (zprs np).length := by
      rw [Nat.div_lt_iff_lt_mul hp, Nat.mul_comm, ← Nat.pow_succ]
      exact h
    have hr := Nat.mod_lt way hp
    obtain ⟨w, e1, e2, e3⟩ := ih (way % (zprs np).length ^ n) hr
    refine ⟨(zprs np)[way / (zprs np).length ^ n] :: w, ?_, by rw [List.length_cons, e2], ?_⟩
    · show ((zprs np).flatMap fun q => (zways np n).map fun w => q :: w)[way]? = _
      have := zfmap_get (f := fun q => (zways np n).map fun w => q :: w) (M := (zprs np).length ^ n) (fun q => by rw [List.length_map, zways_len]) (zprs np) (way / (zprs np).length ^ n) (way % (zprs np).length ^ n) hr
      rw [Nat.div_add_mod] at this
      rw [this, List.getElem?_eq_getElem hd]
      simp [e1]
    · intro i hi
      cases i with
      | zero =>
        rw [show n + 1 - 1 - 0 = n by omega, Nat.mod_eq_of_lt hd, List.getElem?_eq_getElem hd]
        rfl
      | succ i =>
        rw [List.getElem?_cons_succ, e3 i (by omega), show n + 1 - 1 - (i + 1) = n - 1 - i by omega]
        have := zdig (L := (zprs np).length) (d := way / (zprs np).length ^ n) (r := way % (zprs np).length ^ n) (e := n - 1 - i) (n := n) hL (by omega)
        rw [Nat.div_add_mod] at this
        rw [this]
section ZRr
variable {T : ZT} {lv d B g p q x : Nat} {m : MzM} {v : Nat → Nat}
theorem r_power {L n : Nat} (hn : n < 2 ^ 30) : R_X12_power d (nI L) (nI n) m = some (nI (L ^ n), m) := by
  have key := zlp (fun k (_ : Unit) => H_X12_power_4 d (nI L) (nI n) (nI (L ^ k)) (nI k) m) (fun r => r = (nI (L ^ n), m)) (fun _ _ => True) n ?_ ?_ 0 () (Nat.zero_le _) trivial
  · obtain ⟨r, e, rfl⟩ := key
    rw [R_X12_power_eq]
    exact e
  · intro k _ hk _
    left
    refine ⟨(), trivial, ?_⟩
    show H_X12_power_4 d (nI L) (nI n) (nI (L ^ k)) (nI k) m = H_X12_power_4 d (nI L) (nI n) (nI (L ^ k * L)) (nI (k + 1)) m
    rw [H_X12_power_4_eq, if_neg (nI_ge hk (by omega)), n_mul, nI_1]
  · intro _ _
    show ∃ r, H_X12_power_4 d (nI L) (nI n) _ (nI n) m = some r ∧ _
    rw [H_X12_power_4_eq, if_pos (nI_le (Nat.le_refl _) (by omega))]
    exact ⟨_, rfl, rfl⟩
theorem r_pairAt (h6 : tN T ≤ 6) (hP : zPF (tN T) m) {way n i : Nat} (hn : n ≤ 3) (hi : i < n) (hw : way < (zprs (tN T)).length ^ n) {a b : Nat} (hq : (zprs (tN T))[way / (zprs (tN T)).length ^ (n - 1 - i) % (zprs (tN T)).length]? = some (a, b)) : R_X12_pairAt d (nI way) (nI n) (nI i) m = some (nI (10 * a + b), m) := by
  have l15 := zprs_len h6
  have hL : 0 < (zprs (tN T)).length := by
    rcases Nat.eq_zero_or_pos (zprs (tN T)).length with z | z
    · rw [z, Nat.zero_pow (by omega)] at hw; omega
    · exact z
  have pw : (zprs (tN T)).length ^ n ≤ 15 ^ 3 := Nat.le_trans (Nat.pow_le_pow_left l15 n) (Nat.pow_le_pow_right (by omega) hn)
  have pe : (zprs (tN T)).length ^ (n - 1 - i) ≤ 15 ^ 3 := Nat.le_trans (Nat.pow_le_pow_left l15 _) (Nat.pow_le_pow_right (by omega) (by omega))
  have pp : 0 < (zprs (tN T)).length ^ (n - 1 - i) := Nat.pow_pos hL
  have dv : way / (zprs (tN T)).length ^ (n - 1 - i) ≤ way := Nat.div_le_self _ _
  have md := Nat.mod_lt (way / (zprs (tN T)).length ^ (n - 1 - i)) hL
  have e1 : nI n - 1 - nI i = nI (n - 1 - i) := by
    have : nI n - 1 = nI (n - 1) := pk_sub (b := 1) (by omega)
    rw [this, pk_sub (by omega)]
  rw [R_X12_pairAt_eq, hP.1, e1, r_power (by omega), Option.bind_some]
  dsimp only
  rw [n_gd (nI_ne0 pp (by omega)), hP.1, n_gd (nI_ne0 hL (by omega)), pk_div (by omega) pp (by omega), pk_rem (by omega) hL (by omega), n_ok (by omega), n_gd (by omega), nI_clamp (by omega), hP.2 _ a b hq]
def zGd (g p q x : Nat) (m : MzM) : Prop := mz_rd m 239 56 = nI g ∧ (g ≠ 0 → mz_rd m 239 57 = nI p ∧ mz_rd m 239 58 = nI q) ∧ (g = 1 → mz_rd m 239 59 = nI x)
theorem zGd_f {m m' : MzM} (h : zGd g p q x m) (f : ∀ i, 56 ≤ i → i ≤ 59 → mz_rd m' 239 i = mz_rd m 239 i) : zGd g p q x m' := ⟨(f _ (by omega) (by omega)).trans h.1, fun z => ⟨(f _ (by omega) (by omega)).trans (h.2.1 z).1, (f _ (by omega) (by omega)).trans (h.2.1 z).2⟩, fun z => (f _ (by omega) (by omega)).trans (h.2.2 z)⟩
theorem r_reached (hg : zgok T g p q x) (hx : x < 2 ^ 30) (h2 : zTR T lv m) (hG : zGd g p q x m) (h : zRA (tN T) m 271 v) (hB : zB (tN T) B v) : ∃ m', R_X12_isReached d m = some (zb (zgoal T g p q x v), m') ∧ zFr zRE m m' := by
  have h6 := h2.1.1
  have hB2 := hB.2.2.2
  obtain ⟨g1, g2, g3⟩ := hG
  rw [R_X12_isReached_eq, g1]
  rcases hg with ⟨rfl, -, -⟩ | ⟨rfl, hp, hq⟩ | ⟨rfl, hp, hq⟩
  · obtain ⟨m1, e1, r1⟩ := r_quarrels (d := d) h2 h hB
    have cb := zcnt_B T v (zprs (tN T))
    have l15 := zprs_len h6
    rw [if_neg (by decide), e1, Option.bind_some]
    dsimp only
    refine ⟨m1, ?_, r1⟩
    show _ = some (zb (decide (zcnt T v (zprs (tN T)) = 0)), m1)
    by_cases c : zcnt T v (zprs (tN T)) = 0
    · rw [c, if_neg (by decide)]; rfl
    · rw [if_pos (nI_ne0 (by omega) (by omega)), decide_eq_false c]; rfl
  · have b1 := zB_a hB hp hq
    obtain ⟨k1, k2⟩ := g2 (by omega)
    rw [if_pos (by decide), if_neg (by decide), k1, k2, z_mul4, nI_add, n_ok (by omega), n_gd (by omega), nI_clamp (by omega), h (4 * p + q) (by omega) (by omega), g3 rfl]
    refine ⟨m, ?_, zFr_r⟩
    show _ = some (zb (decide (x ≤ v (4 * p + q))), m)
    by_cases c : v (4 * p + q) < x
    · rw [if_pos (nI_lt c (by omega)), decide_eq_false (by omega)]; rfl
    · rw [if_neg (nI_nlt (by omega) (by omega)), decide_eq_true (by omega)]; rfl
  · have b1 := zap_B hB hp hq
    obtain ⟨k1, k2⟩ := g2 (by omega)
    rw [if_pos (by decide), if_pos (by decide), k1, k2, r_apart h h6 hB hp hq, Option.bind_some]
    dsimp only
    refine ⟨m, ?_, zFr_r⟩
    show _ = some (zb (decide (zap v p q = 0)), m)
    by_cases c : zap v p q = 0
    · rw [c, if_neg (by decide)]; rfl
    · rw [if_pos (nI_ne0 (by omega) (by omega)), decide_eq_false c]; rfl
/-- what doing a way may write -/
def zWy (a i : Nat) : Prop := a = 271 ∨ a = 272 ∨ a = 268 ∨ a = 269 ∨ (a = 239 ∧ (i = 46 ∨ i = 49 ∨ i = 50))
theorem r_way (hg : zgok T g p q x) (hx : x < 2 ^ 30) (h2 : zTR T lv m) (hG : zGd g p q x m) (hN : zRA (tN T) m 270 v) (hB : zB (tN T) B v) (hP : zPF (tN T) m) {n way : Nat} (hn : n ≤ 3) (hw : way < (zprs (tN T)).length ^ n) {w : List (Nat × Nat)} (wl : w.length = n) (wi : ∀ i, i < n → w[i]? = (zprs (tN T))[way / (zprs (tN T)).length ^ (n - 1 - i) % (zprs (tN T)).length]?) (win : ∀ a b, (a, b) ∈ w → a < b ∧ b < tN T) : ∃ m', R_X12_doesWay d (nI way) (nI n) m = some (zb (zgoal T g p q x (zwalk T v w)), m') ∧ zFr zWy m m' := by
  have h6 := h2.1.1
  obtain ⟨m1, e1, f1, s1, -, -⟩ := r_copies (d := d) h2 hN
  have F1 : zFr zWy m m1 := zFr_m f1 (fun a i z => by unfold zRC at z; unfold zWy; omega)
  rw [R_X12_doesWay_eq, e1, Option.bind_some]
  have key := zlp (fun i y => H_X12_doesWay_6 d (nI way) (nI n) (nI i) y) (fun r => r.1 = zb (zgoal T g p q x (zwalk T v w)) ∧ zFr zWy m r.2) (fun i y => zFr zWy m y ∧ zRA (tN T) y 271 (zwalk T v (w.take i)) ∧ zB (tN T) B (zwalk T v (w.take i))) n ?_ ?_ 0 m1 (Nat.zero_le _) ⟨F1, s1, hB⟩
  · obtain ⟨⟨r1, r2⟩, e, rfl, f⟩ := key
    exact ⟨r2, e, f⟩
  · rintro i y hi ⟨F, S, hBi⟩
    left
    have Ty : zTR T lv y := zTR_f h2 (fun a i z => F.1 a i (by unfold zWy; unfold zRx at z; omega))
    have Py : zPF (tN T) y := zPF_f hP (fun a i z => F.1 a i (by unfold zWy; unfold zFP at z; omega))
    cases hq : w[i]? with
    | none => rw [List.getElem?_eq_none_iff] at hq; omega
    | some ab =>
      obtain ⟨a, b⟩ := ab
      obtain ⟨hab, hbn⟩ := win a b (List.mem_of_getElem? hq)
      have ha : a < tN T := by omega
      obtain ⟨q1, q2⟩ := z_ten (a := a) (b := b) (by omega) (by omega)
      have wq := wi i hi
      rw [hq] at wq
      obtain ⟨m2, e2, f2, s2⟩ := r_turn (d := d) Ty S hBi ha hbn (by omega)
      have tk : zwalk T v (w.take (i + 1)) = zturn T (zwalk T v (w.take i)) a b := ztake hq (fun v q => zturn T v q.1 q.2) v
      show ∃ y', (zFr zWy m y' ∧ zRA (tN T) y' 271 (zwalk T v (w.take (i + 1))) ∧ zB (tN T) B (zwalk T v (w.take (i + 1)))) ∧ H_X12_doesWay_6 d (nI way) (nI n) (nI i) y = H_X12_doesWay_6 d (nI way) (nI n) (nI (i + 1)) y'
      rw [H_X12_doesWay_6_eq, if_neg (nI_ge hi (by omega)), r_pairAt h6 Py hn hi hw wq.symm, Option.bind_some]
      dsimp only
      rw [R_X12_turnsPair_eq, q2, q1, e2, Option.bind_some, Option.bind_some, nI_1, tk]
      exact ⟨m2, ⟨zFr_t F (zFr_m f2 (fun a i z => by unfold zRT at z; unfold zWy; omega)), s2, zturn_B hBi h6 ha hbn (by omega)⟩, rfl⟩
  · rintro y ⟨F, S, hBi⟩
    have Ty : zTR T lv y := zTR_f h2 (fun a i z => F.1 a i (by unfold zWy; unfold zRx at z; omega))
    have Gy : zGd g p q x y := zGd_f hG (fun i z1 z2 => F.1 239 i (by unfold zWy; omega))
    have tw : w.take n = w := by rw [← wl, List.take_length]
    rw [tw] at S hBi
    obtain ⟨m2, e2, f2⟩ := r_reached (d := d) hg hx Ty Gy S hBi
    show ∃ r, H_X12_doesWay_6 d (nI way) (nI n) (nI n) y = some r ∧ _
    rw [H_X12_doesWay_6_eq, if_pos (nI_le (Nat.le_refl _) (by omega)), e2, Option.bind_some]
    dsimp only
    rw [zb_g]
    exact ⟨_, rfl, rfl, zFr_t F (zFr_m f2 (fun a i z => by unfold zRE at z; unfold zWy; omega))⟩
theorem r_rowTo (hg : zgok T g p q x) (hx : x < 2 ^ 30) (h2 : zTR T lv m) (hG : zGd g p q x m) (hN : zRA (tN T) m 270 v) (hB : zB (tN T) B v) {i : Int32} (hi : zTn i = true) : ∃ m', R_X12_rowTo d i m = some (zans (zrow T v g p q x) i, m') ∧ zFr zRQ m m' := by
  have h6 := h2.1.1
  have l15 := zprs_len h6
  obtain ⟨m1, e1, f1, p1⟩ := r_pairs (d := d) h2
  have F1 := zFP_Q f1
  rw [R_X12_rowTo_eq, e1, Option.bind_some]
  have tr : ∀ y, zFr zWy m1 y → zTR T lv y ∧ zPF (tN T) y ∧ zGd g p q x y ∧ zRA (tN T) y 270 v := fun y F =>
    ⟨zTR_f (zTR_Q h2 F1) (fun a i z => F.1 a i (by unfold zWy; unfold zRx at z; omega)), zPF_f p1 (fun a i z => F.1 a i (by unfold zWy; unfold zFP at z; omega)), zGd_f hG (fun i z1 z2 => (F.1 239 i (by unfold zWy; omega)).trans (f1.1 239 i (by unfold zFP; omega))), zRA_f hN (fun i => (F.1 270 i (by unfold zWy; omega)).trans (f1.1 270 i (by unfold zFP; omega)))⟩
  have key := zlp (fun n y => H_X12_rowTo_6 d i (nI n) y) (fun r => r.1 = zans (zrow T v g p q x) i ∧ zFr zWy m1 r.2) (fun n y => zFr zWy m1 y ∧ ∀ l, l < n → ((zways (tN T) l).find? fun w => zgoal T g p q x (zwalk T v w)) = none) 4 ?_ ?_ 0 m1 (Nat.zero_le _) ⟨zFr_r, fun l hl => by omega⟩
  · obtain ⟨⟨r1, r2⟩, e, rfl, f⟩ := key
    exact ⟨r2, e, zFr_t F1 (zFr_m f (fun a i z => by unfold zWy at z; unfold zRQ; omega))⟩
  · rintro n y hn ⟨F, N⟩
    have pw : (zprs (tN T)).length ^ n ≤ 15 ^ 3 := Nat.le_trans (Nat.pow_le_pow_left l15 n) (Nat.pow_le_pow_right (by omega) (by omega))
    have inn : ∀ (j way : Nat) (z : MzM), (zprs (tN T)).length ^ n - way = j → way ≤ (zprs (tN T)).length ^ n → zFr zWy m1 z → (((zways (tN T) n).take way).find? fun w => zgoal T g p q x (zwalk T v w)) = none → (∃ y', (zFr zWy m1 y' ∧ ∀ l, l < n + 1 → ((zways (tN T) l).find? fun w => zgoal T g p q x (zwalk T v w)) = none) ∧ H_X12_rowTo_13 d i (nI n) (nI way) z = H_X12_rowTo_6 d i (nI (n + 1)) y') ∨ (∃ r, H_X12_rowTo_13 d i (nI n) (nI way) z = some r ∧ r.1 = zans (zrow T v g p q x) i ∧ zFr zWy m1 r.2) := by
      intro j
      induction j with
      | zero =>
        intro way z q1 q2 Fz Nz
        obtain ⟨-, Pz, -, -⟩ := tr z Fz
        have : way = (zprs (tN T)).length ^ n := by omega
        subst this
        rw [H_X12_rowTo_13_eq, Pz.1, r_power (by omega), Option.bind_some]
        dsimp only
        rw [if_pos (nI_le (Nat.le_refl _) (by omega)), nI_1]
        refine Or.inl ⟨z, ⟨Fz, fun l hl => ?_⟩, rfl⟩
        by_cases c : l = n
        · subst c
          rw [← zways_len, List.take_length] at Nz
          exact Nz
        · exact N l (by omega)
      | succ j ih =>
        intro way z q1 q2 Fz Nz
        obtain ⟨Tz, Pz, Gz, Nz2⟩ := tr z Fz
        have hw : way < (zprs (tN T)).length ^ n := by omega
        obtain ⟨w, w1, w2, w3⟩ := zways_get (tN T) n way hw
        have wm := List.mem_of_getElem? w1
        obtain ⟨m2, e2, f2⟩ := r_way (d := d) hg hx Tz Gz Nz2 hB Pz (show n ≤ 3 by omega) hw w2 w3 (zways_in h6 n w wm)
        have F2 := zFr_t Fz f2
        rw [H_X12_rowTo_13_eq, Pz.1, r_power (by omega), Option.bind_some]
        dsimp only
        rw [if_neg (nI_ge hw (by omega)), e2, Option.bind_some]
        dsimp only
        cases hz : zgoal T g p q x (zwalk T v w) with
        | false =>
          rw [zb_f1, nI_1]
          exact ih (way + 1) m2 (by omega) (by omega) F2 (zfind_n w1 Nz hz)
        | true =>
          rw [zb_t1]
          right
          have zr := zrow_s (show n ≤ 3 by omega) N (zfind w1 Nz hz)
          rw [zr]
          unfold zans
          rcases zTn_t hi with rfl | ⟨k, hk, rfl⟩
          · rw [if_neg (fun z => z rfl), if_pos rfl]
            refine ⟨_, rfl, ?_, F2⟩
            show nI n = nI w.length
            rw [w2]
          · rw [if_pos (z_ne1 (by omega)), if_neg (z_ne1 (by omega)), nI_clamp (by omega)]
            by_cases c : n ≤ k
            · rw [if_pos (nI_le c (by omega))]
              refine ⟨_, rfl, ?_, F2⟩
              show (-1 : Int32) = (match w[k]? with
                | some (a, b) => nI (10 * a + b)
                | none => -1)
              rw [List.getElem?_eq_none (by omega)]
            · rw [if_neg (nI_ge (by omega) (by omega))]
              cases hq : w[k]? with
              | none => rw [List.getElem?_eq_none_iff] at hq; omega
              | some ab =>
                obtain ⟨a, b⟩ := ab
                have wq := w3 k (by omega)
                rw [hq] at wq
                obtain ⟨-, P2, -, -⟩ := tr m2 F2
                rw [r_pairAt h6 P2 (show n ≤ 3 by omega) (show k < n by omega) hw wq.symm, Option.bind_some]
                refine ⟨_, rfl, ?_, F2⟩
                show nI (10 * a + b) = (match w[k]? with
                  | some (a, b) => nI (10 * a + b)
                  | none => -1)
                rw [hq]
    show (∃ y', (zFr zWy m1 y' ∧ ∀ l, l < n + 1 → ((zways (tN T) l).find? fun w => zgoal T g p q x (zwalk T v w)) = none) ∧ H_X12_rowTo_6 d i (nI n) y = H_X12_rowTo_6 d i (nI (n + 1)) y') ∨ (∃ r, H_X12_rowTo_6 d i (nI n) y = some r ∧ _)
    rw [H_X12_rowTo_6_eq, if_neg (show ¬ (3 : Int32) < nI n from nI_nlt (a := 3) (by omega) (by omega))]
    exact inn _ 0 y rfl (Nat.zero_le _) F rfl
  · rintro y ⟨F, N⟩
    show ∃ r, H_X12_rowTo_6 d i (nI 4) y = some r ∧ _
    rw [H_X12_rowTo_6_eq, if_pos (by decide), zrow_n N]
    refine ⟨_, rfl, ?_, F⟩
    unfold zans
    split
    · rfl
    · rfl
end ZRr
theorem zRo_of {T : ZT} {v : Nat → Nat} {g p q x : Nat} {m : MzM} (h1 : g < 3) (h2 : p < 2 ^ 31) (h3 : q < 2 ^ 31) (h4 : x < 2 ^ 31) (h : zRoX T v g p q x m) : zRo T v m := by
  obtain ⟨⟨a1, a2, a3, a4⟩, a5, a6⟩ := h
  refine Or.inr ⟨g, p, q, x, h1, h2, h3, h4, a1, a2, a3, a4, a5, fun w hw i hi => ?_⟩
  obtain ⟨-, -, b3⟩ := a6 w hw
  show mz_rd m 203 i = (match w[i]? with
    | some (a, b) => nI (10 * a + b)
    | none => -1)
  cases hq : w[i]? with
  | none => rw [List.getElem?_eq_none_iff] at hq; omega
  | some ab =>
    obtain ⟨a, b⟩ := ab
    exact b3 i a b hq
theorem zI_row {T : ZT} {lv n : Nat} {v : Nat → Nat} {m m1 m2 : MzM} (hn : n < 512) (h : zIv T lv v n m) (f : zFr zFi m m1) (hr : zRo T v m1) (g : zFr zRQ m1 m2) : zI (n + 1) m2 := by
  obtain ⟨h1, h2, h3, h4, h5, h6, h7, h8, h9, h10, h11, h12⟩ := h
  have A : ∀ a i, ¬ zFi a i → ¬ zRQ a i → mz_rd m2 a i = mz_rd m a i := fun a i k1 k2 => (g.1 a i k2).trans (f.1 a i k1)
  refine ⟨T, lv, v, zTC_f h1 (fun a i t => A a i ?_ ?_), zTR_f h2 (fun a i t => A a i ?_ ?_), zSC_f h3 (fun a i p q => A a i ?_ ?_), zRA_f h4 (fun i => A _ i ?_ ?_), zB_mono h5 (zBn_1 n) (zBn_2 hn), zTape_f h6 (fun a i t => A a i ?_ ?_), ?_, zHi_f h8 (zBn_1 n) (zBn_2 hn) (fun a i t => A a i ?_ ?_), zSl_f h9 (zBn_1 n) (zBn_2 hn) (fun a i t => A a i ?_ ?_), zTo_f h10 (fun a i t => A a i ?_ ?_), zRo_f hr (fun a i t => g.1 a i ?_), ?_⟩
  · unfold zFi zE; unfold zTx at t; omega
  · unfold zRQ; unfold zTx at t; omega
  · unfold zFi zE; unfold zRx at t; omega
  · unfold zRQ; unfold zRx at t; omega
  · unfold zFi zE; omega
  · unfold zRQ; omega
  · unfold zFi zE; omega
  · unfold zRQ; omega
  · unfold zFi zE; unfold zTapeG at t; omega
  · unfold zRQ; unfold zTapeG at t; omega
  · rw [A 1 13 (by unfold zFi zE; omega) (by unfold zRQ; omega), A 239 17 (by unfold zFi zE; omega) (by unfold zRQ; omega)]
    exact h7
  · unfold zFi zE; unfold zHiG at t; omega
  · unfold zRQ; unfold zHiG at t; omega
  · unfold zFi zE; unfold zSlG at t; omega
  · unfold zRQ; unfold zSlG at t; omega
  · unfold zFi zE; unfold zToG at t; omega
  · unfold zRQ; unfold zToG at t; omega
  · unfold zRQ; unfold zRoG at t; omega
  · unfold zKy
    rw [g.2, f.2]
    exact h12
theorem zFi_R {T : ZT} {lv : Nat} {m m1 : MzM} (h : zTR T lv m) (f : zFr zFi m m1) : zTR T lv m1 := zTR_f h (fun a i t => f.1 a i (by unfold zFi zE; unfold zRx at t; omega))
theorem o_calm : mz_o_calm zI := by
  intro n m a0 hn hI
  obtain ⟨T, lv, v, h⟩ := id hI
  obtain ⟨h1, h2, h3, h4, h5, h6, h7, h8, h9, h10, h11, h12⟩ := id h
  have x1 := R_X11_calm_eq 8 a0 m
  have x2 := fun mm => R_X12_calm_eq 8 a0 mm
  rw [c_isTn, Option.bind_some] at x1
  dsimp only at x1
  cases c : zTn a0 with
  | false =>
    rw [c, zb_f1] at x1
    have x3 := x2 m
    rw [r_isTn, c, Option.bind_some] at x3
    exact ⟨_, _, _, x1, x3, zI_q hn hI zFr_r zFr_r⟩
  | true =>
    have hg : zgok T 0 0 0 0 := Or.inl ⟨rfl, by omega, by omega⟩
    obtain ⟨m1, e1, f1, z1⟩ := c_find hg (by omega) h1 h3 h5 h11
    have e1' : R_X5_find 8 29 0 0 0 0 m = some m1 := e1
    rw [c, zb_t1, e1', Option.bind_some, c_answer c z1, Option.bind_some] at x1
    have fw : zFr zRQ m1 (mz_wr m1 239 56 0) := zFr_w (by unfold zRQ; omega)
    obtain ⟨m2, e2, f2⟩ := r_rowTo (d := 8) (i := a0) hg (by omega) (zTR_Q (zFi_R h2 f1) fw) ⟨m_eq, fun z => absurd rfl z, fun z => by omega⟩ (zRA_Q (zRA_f h4 (fun i => f1.1 270 i (by unfold zFi zE; omega))) fw) h5 c
    have x3 := x2 m1
    rw [r_isTn, c, Option.bind_some] at x3
    dsimp only at x3
    rw [zb_t1, e2, Option.bind_some] at x3
    exact ⟨_, _, _, x1, x3, zI_row hn h f1 (zRo_of (by omega) (by omega) (by omega) (by omega) z1) (zFr_t fw f2)⟩
theorem o_rich : mz_o_rich zI := by
  intro n m a0 a1 a2 a3 hn hI
  obtain ⟨T, lv, v, h⟩ := id hI
  obtain ⟨h1, h2, h3, h4, h5, h6, h7, h8, h9, h10, h11, h12⟩ := id h
  have hn6 := h1.1.1
  have x1 := R_X11_rich_eq 8 a0 a1 a2 a3 m
  have x2 := fun mm => R_X12_rich_eq 8 a0 a1 a2 a3 mm
  cases cp : zIsP (tN T) a0 with
  | false =>
    rw [c_isP h1, cp, Option.bind_some] at x1
    have x3 := x2 m
    rw [r_isP h2, cp, Option.bind_some] at x3
    exact ⟨_, _, _, x1, x3, zI_q hn hI zFr_r zFr_r⟩
  | true =>
    rw [c_isP h1, cp, Option.bind_some] at x1
    dsimp only at x1
    rw [zb_t0] at x1
    have x3 : ∀ mm, zTR T lv mm → _ := fun mm (hh : zTR T lv mm) => by
      have y := x2 mm
      rw [r_isP hh, cp, Option.bind_some] at y
      dsimp only at y
      rw [zb_t0] at y
      exact y
    cases cs : zIsP 4 a1 with
    | false =>
      rw [c_isS, cs, Option.bind_some] at x1
      have x4 := x3 m h2
      rw [r_isS, cs, Option.bind_some] at x4
      exact ⟨_, _, _, x1, x4, zI_q hn hI zFr_r zFr_r⟩
    | true =>
      rw [c_isS, cs, Option.bind_some] at x1
      dsimp only at x1
      rw [zb_t0] at x1
      cases ca : zIsP 1000 a2 with
      | false =>
        rw [c_isA, ca, Option.bind_some] at x1
        have x4 := x3 m h2
        rw [r_isS, cs, Option.bind_some] at x4
        dsimp only at x4
        rw [zb_t0, r_in (n := 1000) (by omega) (by decide), ca, Option.bind_some] at x4
        exact ⟨_, _, _, x1, x4, zI_q hn hI zFr_r zFr_r⟩
      | true =>
        rw [c_isA, ca, Option.bind_some] at x1
        dsimp only at x1
        rw [zb_t0, c_isTn, Option.bind_some] at x1
        dsimp only at x1
        have x5 : ∀ mm, zTR T lv mm → _ := fun mm (hh : zTR T lv mm) => by
          have y := x3 mm hh
          rw [r_isS, cs, Option.bind_some] at y
          dsimp only at y
          rw [zb_t0, r_in (n := 1000) (by omega) (by decide), ca, Option.bind_some] at y
          dsimp only at y
          rw [zb_t0, r_isTn, Option.bind_some] at y
          dsimp only at y
          exact y
        cases c : zTn a3 with
        | false =>
          rw [c, zb_f1] at x1
          have x4 := x5 m h2
          rw [c, zb_f1] at x4
          exact ⟨_, _, _, x1, x4, zI_q hn hI zFr_r zFr_r⟩
        | true =>
          obtain ⟨p, hp, rfl⟩ := zIsP_t cp (by omega)
          obtain ⟨t, ht, rfl⟩ := zIsP_t cs (by omega)
          obtain ⟨w, hw, rfl⟩ := zIsP_t ca (by omega)
          have hg : zgok T 1 p t w := Or.inr (Or.inl ⟨rfl, hp, ht⟩)
          obtain ⟨m1, e1, f1, z1⟩ := c_find hg (by omega) h1 h3 h5 h11
          have e1' : R_X5_find 8 29 1 (nI p) (nI t) (nI w) m = some m1 := e1
          rw [c, zb_t1, e1', Option.bind_some, c_answer c z1, Option.bind_some] at x1
          have fw : zFr zRQ m1 (mz_wr (mz_wr (mz_wr (mz_wr m1 239 56 1) 239 57 (nI p)) 239 58 (nI t)) 239 59 (nI w)) := zFr_w2 (zFr_w2 (zFr_w2 (zFr_w (by unfold zRQ; omega)) (by unfold zRQ; omega)) (by unfold zRQ; omega)) (by unfold zRQ; omega)
          obtain ⟨m2, e2, f2⟩ := r_rowTo (d := 8) (i := a3) hg (by omega) (zTR_Q (zFi_R h2 f1) fw) ⟨by rw [m_ni (by omega), m_ni (by omega), m_ni (by omega), m_eq]; rfl, fun _ => ⟨by rw [m_ni (by omega), m_ni (by omega), m_eq], by rw [m_ni (by omega), m_eq]⟩, fun _ => m_eq⟩ (zRA_Q (zRA_f h4 (fun i => f1.1 270 i (by unfold zFi zE; omega))) fw) h5 c
          have x4 := x5 m1 (zFi_R h2 f1)
          rw [c, zb_t1, e2, Option.bind_some] at x4
          exact ⟨_, _, _, x1, x4, zI_row hn h f1 (zRo_of (by omega) (by omega) (by omega) (by omega) z1) (zFr_t fw f2)⟩
theorem o_alike : mz_o_alike zI := by
  intro n m a0 a1 a3 hn hI
  obtain ⟨T, lv, v, h⟩ := id hI
  obtain ⟨h1, h2, h3, h4, h5, h6, h7, h8, h9, h10, h11, h12⟩ := id h
  have hn6 := h1.1.1
  have x1 := R_X11_alike_eq 8 a0 a1 a3 m
  have x2 := fun mm => R_X12_alike_eq 8 a0 a1 a3 mm
  cases cp : zIs2 (tN T) a0 a1 with
  | false =>
    rw [c_is2 h1, cp, Option.bind_some] at x1
    have x3 := x2 m
    rw [r_is2 h2, cp, Option.bind_some] at x3
    exact ⟨_, _, _, x1, x3, zI_q hn hI zFr_r zFr_r⟩
  | true =>
    rw [c_is2 h1, cp, Option.bind_some] at x1
    dsimp only at x1
    rw [zb_t0, c_isTn, Option.bind_some] at x1
    dsimp only at x1
    have x5 : ∀ mm, zTR T lv mm → _ := fun mm (hh : zTR T lv mm) => by
      have y := x2 mm
      rw [r_is2 hh, cp, Option.bind_some] at y
      dsimp only at y
      rw [zb_t0, r_isTn, Option.bind_some] at y
      dsimp only at y
      exact y
    cases c : zTn a3 with
    | false =>
      rw [c, zb_f1] at x1
      have x4 := x5 m h2
      rw [c, zb_f1] at x4
      exact ⟨_, _, _, x1, x4, zI_q hn hI zFr_r zFr_r⟩
    | true =>
      obtain ⟨p, t, hp, ht, hpt, rfl, rfl⟩ := zIs2_t cp (by omega)
      have hg : zgok T 2 p t 0 := Or.inr (Or.inr ⟨rfl, hp, ht⟩)
      obtain ⟨m1, e1, f1, z1⟩ := c_find hg (by omega) h1 h3 h5 h11
      have e1' : R_X5_find 8 29 2 (nI p) (nI t) 0 m = some m1 := e1
      rw [c, zb_t1, e1', Option.bind_some, c_answer c z1, Option.bind_some] at x1
      have fw : zFr zRQ m1 (mz_wr (mz_wr (mz_wr m1 239 56 2) 239 57 (nI p)) 239 58 (nI t)) := zFr_w2 (zFr_w2 (zFr_w (by unfold zRQ; omega)) (by unfold zRQ; omega)) (by unfold zRQ; omega)
      obtain ⟨m2, e2, f2⟩ := r_rowTo (d := 8) (i := a3) hg (by omega) (zTR_Q (zFi_R h2 f1) fw) ⟨by rw [m_ni (by omega), m_ni (by omega), m_eq]; rfl, fun _ => ⟨by rw [m_ni (by omega), m_eq], m_eq⟩, fun z => by omega⟩ (zRA_Q (zRA_f h4 (fun i => f1.1 270 i (by unfold zFi zE; omega))) fw) h5 c
      have x4 := x5 m1 (zFi_R h2 f1)
      rw [c, zb_t1, e2, Option.bind_some] at x4
      exact ⟨_, _, _, x1, x4, zI_row hn h f1 (zRo_of (by omega) (by omega) (by omega) (by omega) z1) (zFr_t fw f2)⟩
