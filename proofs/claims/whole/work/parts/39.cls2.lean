/-! days, the class's turns and days over rows -/
def zdue (T : ZT) (i day : Nat) : Bool := decide (tU T i 3 ≤ day ∧ (day - tU T i 3) % tU T i 2 = 0)
def zmx (h y : Int32) : Int32 := ((h ^^^ y) * 1103515245 + 12345) ^^^ ((((h ^^^ y) * 1103515245 + 12345 : Int32).toUInt32 >>> ((15 : Int32).toUInt32 &&& Int32.toUInt32 31)).toInt32)
def zl1 (h : Int32) : Int32 := (h.toUInt32 >>> ((1 : Int32).toUInt32 &&& Int32.toUInt32 31)).toInt32
def zlot (sd w : Int32) (n : Nat) : Nat := (zl1 (zmx (zmx sd 161) w)).toNatClampNeg % n
theorem zl1_n (h : Int32) : ∃ j, j < 2 ^ 31 ∧ zl1 h = nI j := by
  have e := pk_ushr h 1 1 (by decide)
  have hb : h.toBitVec.toNat < 2 ^ 32 := h.toBitVec.isLt
  refine ⟨h.toBitVec.toNat / 2, by omega, ?_⟩
  apply Int32.toBitVec_inj.mp
  apply BitVec.eq_of_toNat_eq
  unfold zl1
  rw [e, pk_tn (by omega)]
theorem zlot_e (sd w : Int32) {n : Nat} (h0 : 0 < n) (hn : n < 2 ^ 31) : zl1 (zmx (zmx sd 161) w) - zl1 (zmx (zmx sd 161) w) / nI n * nI n = nI (zlot sd w n) := by
  obtain ⟨j, hj, e⟩ := zl1_n (zmx (zmx sd 161) w)
  unfold zlot
  rw [e, pk_rem hj h0 hn, nI_clamp hj]
theorem zlot_lt (sd w : Int32) {n : Nat} (h0 : 0 < n) : zlot sd w n < n := Nat.mod_lt _ h0
def zthb (T : ZT) (sd day : Nat) : Bool := decide (zlot (nI sd) (nI (4 * day)) 100 < tH T)
def zsuitF (T : ZT) (v : Nat → Nat) (i : Nat) : Nat → Nat := if (zdue T i (v 37) && zq T v (tU T i 0) (tU T i 1)) = true then zturn T v (tU T i 0) (tU T i 1) else v
def zsuits (T : ZT) (v : Nat → Nat) : Nat → (Nat → Nat)
  | 0 => v
  | i + 1 => zsuitF T (zsuits T v i) i
def zdayS (T : ZT) (v : Nat → Nat) : Nat → Nat := zUpd (zsuits T v (tS T)) 37 (v 37 + 1)
def zthS (sd : Nat) (v : Nat → Nat) : Nat := 30 + zlot (nI sd) (nI (4 * v 37 + 1)) 4
def zdayT (T : ZT) (sd : Nat) (v : Nat → Nat) : Nat → Nat := if zthb T sd (v 37) = true then zUpd (zdayS T v) (zthS sd v) (zdayS T v (zthS sd v) + 1) else zdayS T v
def zgoS (T : ZT) (v : Nat → Nat) : Nat → (Nat → Nat)
  | 0 => v
  | n + 1 => zdayS T (zgoS T v n)
def zgoT (T : ZT) (sd : Nat) (v : Nat → Nat) : Nat → (Nat → Nat)
  | 0 => v
  | n + 1 => zdayT T sd (zgoT T sd v n)
theorem zsuits_B {T : ZT} {B : Nat} {v : Nat → Nat} (hT : zTW T) (h : zB (tN T) B v) : ∀ i, i ≤ tS T → zB (tN T) B (zsuits T v i) ∧ zsuits T v i 37 = v 37 := by
  intro i
  induction i with
  | zero => intro _; exact ⟨h, rfl⟩
  | succ i ih =>
    intro hi
    obtain ⟨i1, i2⟩ := ih (by omega)
    have hs := hT.2.2.1 i (by omega)
    have hn := hT.1
    show zB (tN T) B (zsuitF T (zsuits T v i) i) ∧ zsuitF T (zsuits T v i) i 37 = v 37
    unfold zsuitF
    split
    · exact ⟨zturn_B i1 hT.1 hs.1 hs.2.1 hs.2.2.1, by rw [zturn_37 (by omega) (by omega)]; exact i2⟩
    · exact ⟨i1, i2⟩
theorem zdayS_B {T : ZT} {B : Nat} {v : Nat → Nat} (hT : zTW T) (h : zB (tN T) B v) (hB : B + 1 < 2 ^ 20) : zB (tN T) (B + 1) (zdayS T v) := by
  obtain ⟨i1, i2⟩ := zsuits_B hT h (tS T) (Nat.le_refl _)
  have hn := hT.1
  refine ⟨fun t ht => ?_, ?_, ?_, hB⟩
  · have e1 := i1.1 t ht
    have e2 : zTot (tN T) (zdayS T v) t = zTot (tN T) (zsuits T v (tS T)) t := by
      unfold zTot zdayS
      rw [zUpd_n (by omega)]
      congr 1
      exact zSum_e (fun p hp => zUpd_n (by omega))
    omega
  · unfold zdayS
    rw [zUpd_n (by omega)]
    exact i1.2.1
  · unfold zdayS
    rw [zUpd_s]
    have := h.2.2.1
    omega
theorem zB_mono {np B C : Nat} {v : Nat → Nat} (h : zB np B v) (hC : B ≤ C) (hC2 : C < 2 ^ 20) : zB np C v := ⟨fun t ht => Nat.le_trans (h.1 t ht) hC, h.2.1, Nat.le_trans h.2.2.1 hC, hC2⟩
/-- one more of a stuff in the screw -/
theorem zB_in {np B : Nat} {v : Nat → Nat} (h : zB np B v) (hn : np ≤ 6) {t x : Nat} (ht : t < 4) (hB : B + x < 2 ^ 20) : zB np (B + x) (zUpd v (30 + t) (v (30 + t) + x)) := by
  refine ⟨fun u hu => ?_, ?_, ?_, hB⟩
  · have e1 := h.1 u hu
    have e2 : (zSum np fun p => zUpd v (30 + t) (v (30 + t) + x) (4 * p + u)) = zSum np fun p => v (4 * p + u) := zSum_e (fun p hp => zUpd_n (by omega))
    unfold zTot at e1 ⊢
    rw [e2]
    by_cases c : u = t
    · subst c
      rw [zUpd_s]
      omega
    · rw [zUpd_n (by omega)]
      omega
  · rw [zUpd_n (by omega)]
    exact h.2.1
  · rw [zUpd_n (by omega)]
    have := h.2.2.1
    omega
theorem zdayT_B {T : ZT} {B sd : Nat} {v : Nat → Nat} (hT : zTW T) (h : zB (tN T) B v) (hB : B + 2 < 2 ^ 20) : zB (tN T) (B + 2) (zdayT T sd v) := by
  have e := zdayS_B hT h (by omega)
  unfold zdayT
  split
  · exact zB_in (t := zlot (nI sd) (nI (4 * v 37 + 1)) 4) (x := 1) e hT.1 (zlot_lt _ _ (by omega)) (by omega)
  · exact zB_mono e (by omega) hB
theorem zgoS_B {T : ZT} {B : Nat} {v : Nat → Nat} (hT : zTW T) (h : zB (tN T) B v) : ∀ n, B + n < 2 ^ 20 → zB (tN T) (B + n) (zgoS T v n) := by
  intro n
  induction n with
  | zero => intro _; exact h
  | succ n ih => intro hn; exact zdayS_B hT (ih (by omega)) (by omega)
theorem zgoT_B {T : ZT} {B sd : Nat} {v : Nat → Nat} (hT : zTW T) (h : zB (tN T) B v) : ∀ n, B + 2 * n < 2 ^ 20 → zB (tN T) (B + 2 * n) (zgoT T sd v n) := by
  intro n
  induction n with
  | zero => intro _; exact h
  | succ n ih => intro hn; exact zdayT_B hT (ih (by omega)) (by omega)
theorem zthr_n (T : ZT) (v : Nat → Nat) (a b : Nat) (ha : a < 6) (hb : b < 6) : ∀ t, t ≤ 4 → ∀ u, t ≤ u → u < 4 → (∀ p, p < 6 → zthr T v a b t (4 * p + u) = v (4 * p + u)) ∧ zthr T v a b t (30 + u) = v (30 + u) := by
  intro t
  induction t with
  | zero => intro _ u _ _; exact ⟨fun _ _ => rfl, rfl⟩
  | succ t ih =>
    intro ht u h1 h2
    obtain ⟨i1, i2⟩ := ih (by omega) u (by omega) h2
    unfold zthr
    refine ⟨fun p hp => ?_, ?_⟩
    · rw [zUpd_n (by omega), zUpd_n (by omega), zUpd_n (by omega), i1 p hp]
    · rw [zUpd_n (by omega), zUpd_n (by omega), zUpd_n (by omega), i2]
theorem z_div2 {x : Nat} (h : x < 2 ^ 31) : nI x / 2 = nI (x / 2) := pk_div (d := 2) h (by omega) (by omega)
theorem z_mul2 (x : Nat) : (2 : Int32) * nI x = nI (2 * x) := pk_mul 2 x
theorem z_mul4 (x : Nat) : (4 : Int32) * nI x = nI (4 * x) := pk_mul 4 x
theorem z_mul8 (x : Nat) : (8 : Int32) * nI x = nI (8 * x) := pk_mul 8 x
theorem z_mul10 (x : Nat) : (10 : Int32) * nI x = nI (10 * x) := pk_mul 10 x
theorem z_add24 (x : Nat) : (24 : Int32) + nI x = nI (24 + x) := nI_add 24 x
theorem z_add30 (x : Nat) : (30 : Int32) + nI x = nI (30 + x) := nI_add 30 x
theorem z_99 {x y : Nat} (hx : x < 2 ^ 30) (hy : y < 2 ^ 30) : (if nI x + nI y < 99 then nI x + nI y else 99) = nI (if x + y < 99 then x + y else 99) := by
  rw [nI_add]
  by_cases c : x + y < 99
  · rw [if_pos c, if_pos (show nI (x + y) < (99 : Int32) from nI_lt (b := 99) c (by omega))]
  · rw [if_neg c, if_neg (show ¬ nI (x + y) < (99 : Int32) from nI_nlt (b := 99) (by omega) (by omega))]
    rfl
section ZD
variable {T : ZT} {np s d a b B : Nat} {m : MzM} {v : Nat → Nat}

theorem c_copy {s2 : Nat} (hs : mz_isS s = true) (hs2 : mz_isS s2 = true) (hne : s ≠ s2) (h : zSC np m s2 v) : ∃ m', R_X6_copyFrom d s s2 m = some m' ∧ zFr (fun a _ => s ≤ a ∧ a ≤ s + 3) m m' ∧ zSC np m' s v := by
  have hap := zS_ap hs hs2 hne
  rw [R_X6_copyFrom_eq d s s2 m hs hs2]
  have key : ∀ m1 : MzM, zFr (fun a _ => s ≤ a ∧ a ≤ s + 3) m m1 → ∀ j, mz_rd m1 s2 j = mz_rd m s2 j := fun m1 f j => f.1 s2 j (by omega)
  have f3 : zFr (fun a _ => s ≤ a ∧ a ≤ s + 3) m (mz_cp (mz_cp (mz_cp m (s2 + 1) 0 (s + 1) 0 24) (s2 + 2) 0 (s + 2) 0 4) (s2 + 3) 0 (s + 3) 0 6) := zFr_c2 (zFr_c2 (zFr_c (fun _ _ _ => by omega)) (fun _ _ _ => by omega)) (fun _ _ _ => by omega)
  have fw : ∀ (m1 : MzM) (k : Nat) (x : Int32), zFr (fun a _ => s ≤ a ∧ a ≤ s + 3) m m1 → zFr (fun a _ => s ≤ a ∧ a ≤ s + 3) m (mz_wr m1 s k x) := fun m1 k x f => zFr_w2 f (by omega)
  rw [key _ f3 3, key _ (fw _ _ _ f3) 4, key _ (fw _ _ _ (fw _ _ _ f3)) 5, key _ (fw _ _ _ (fw _ _ _ (fw _ _ _ f3))) 6, key _ (fw _ _ _ (fw _ _ _ (fw _ _ _ (fw _ _ _ f3)))) 7]
  refine ⟨_, rfl, fw _ _ _ (fw _ _ _ (fw _ _ _ (fw _ _ _ (fw _ _ _ f3)))), ?_⟩
  intro k h1 h2
  have hk := h k h1 h2
  rw [← hk]
  unfold zstA
  split
  · dsimp only
    rw [m_ne (by omega), m_ne (by omega), m_ne (by omega), m_ne (by omega), m_ne (by omega), m_rc, if_neg (by omega), m_rc, if_neg (by omega), m_rc, if_pos (by omega)]
    congr 1
    omega
  split
  · dsimp only
    rw [m_ne (by omega), m_ne (by omega), m_ne (by omega), m_ne (by omega), m_ne (by omega), m_rc, if_pos (by omega), m_rc, if_neg (by omega), m_rc, if_neg (by omega)]
    congr 1
    omega
  split
  · dsimp only
    rw [m_ne (by omega), m_ne (by omega), m_ne (by omega), m_ne (by omega), m_ne (by omega), m_rc, if_neg (by omega), m_rc, if_pos (by omega), m_rc, if_neg (by omega)]
    congr 1
    omega
  split
  · dsimp only
    rw [m_ni (by omega), m_ni (by omega), m_eq]
  split
  · dsimp only
    rw [m_ni (by omega), m_eq]
  split
  · dsimp only
    rw [m_ni (by omega), m_ni (by omega), m_ni (by omega), m_eq]
  split
  · dsimp only
    rw [m_ni (by omega), m_ni (by omega), m_ni (by omega), m_ni (by omega), m_eq]
  · dsimp only
    rw [m_eq]
theorem c_thr {t : Nat} (ht : t < 4) (hT : zTC T m) (hs : mz_isS s = true) (h : zSC (tN T) m s (zthr T v a b t)) (hB : zB (tN T) B v) (ha : a < tN T) (hb : b < tN T) (hab : a ≠ b) (hv : zV5 m v a b) (c1 c2 : Int32) : ∃ m', H_X3_putThrough_24 d s (nI a) (nI b) c1 c2 (nI t) m = H_X3_putThrough_24 d s (nI a) (nI b) c1 c2 (nI (t + 1)) m' ∧ zFr (zES s) m m' ∧ zSC (tN T) m' s (zthr T v a b (t + 1)) ∧ zV5 m' v a b := by
  have hn := hT.1.1
  have hB2 := hB.2.2.2
  have hr := zS_r hs
  obtain ⟨n1, n2⟩ := zthr_n T v a b (by omega) (by omega) t (by omega) t (Nat.le_refl _) ht
  have hw : zall (zthr T v a b t) a b t = zall v a b t := by unfold zall; rw [n1 a (by omega), n1 b (by omega), n2]
  have b3 := zB_all hB ha hb hab ht
  have b4 := zst_le (T := T) hB ha hb hab ht
  rw [H_X3_putThrough_24_eq d s _ _ _ _ _ m hs, if_neg (n_le4 ht), c_allOf hs h hn ha hb ht, Option.bind_some]
  dsimp only
  obtain ⟨m1, e1, f1, g1⟩ := c_stayingOf (d := d) hT hs h hB ha hb hab ht (n1 a (by omega)) (n1 b (by omega)) n2 hv
  rw [e1, Option.bind_some]
  dsimp only
  rw [hw, pk_sub b4, z_div2 (by omega)]
  rw [s_setAmount d s a t _ m1 hs (by omega) ht, Option.bind_some, s_setAmount d s b t _ _ hs (by omega) ht, Option.bind_some, n_ok (by omega), n_gd ht, nI_clamp (by omega), z_mul2, nI_1]
  have e5 : nI (zall v a b t) - nI (2 * ((zall v a b t - zst T v a b t) / 2)) = nI (zall v a b t - 2 * zhf T v a b t) := pk_sub (by omega)
  rw [e5]
  refine ⟨_, rfl, ?_, ?_, ?_⟩
  · exact zFr_w2 (zFr_w2 (zFr_w2 (zE_S f1) (Or.inr (by omega))) (Or.inr (by omega))) (Or.inr (by omega))
  · exact zSC_uw (zSC_uc (zSC_uc (zSC_E h hs f1) (zhf T v a b t) (by omega)) (zhf T v a b t) (by omega)) (zall v a b t - 2 * zhf T v a b t) ht
  · intro i hi
    rw [m_ne (by omega), m_ne (by omega), m_ne (by omega)]
    exact g1 i hi
theorem c_putThrough (hT : zTC T m) (hs : mz_isS s = true) (h : zSC (tN T) m s v) (hB : zB (tN T) B v) (ha : a < tN T) (hb : b < tN T) (hab : a ≠ b) : ∃ m', R_X3_putThrough d s (nI a) (nI b) m = some m' ∧ zFr (zES s) m m' ∧ zSC (tN T) m' s (zturn T v a b) := by
  have hn := hT.1.1
  have hB2 := hB.2.2.2
  have hr := zS_r hs
  obtain ⟨m1, e1, f1, g1⟩ := c_lookAtTurn (d := d) hs h hn hB ha hb
  have T1 := zTC_E hT f1
  obtain ⟨m2, e2, f2⟩ := c_wearOf (d := d) T1 g1 (k := 3) (by omega)
  have g2 : ∀ i, i < 9 → mz_rd m2 28 i = ztv v a b i := fun i hi => (f2.1 28 i (by unfold zE0; omega)).trans (g1 i hi)
  have T2 := zTC_E T1 (zE0_E f2)
  obtain ⟨m3, e3, f3⟩ := c_wearOf (d := d) T2 g2 (k := 2) (by omega)
  have g3 : ∀ i, i < 9 → mz_rd m3 28 i = ztv v a b i := fun i hi => (f3.1 28 i (by unfold zE0; omega)).trans (g2 i hi)
  have T3 := zTC_E T2 (zE0_E f3)
  have F3 : zFr zE m m3 := zFr_t (zFr_t f1 (zE0_E f2)) (zE0_E f3)
  have h3 : zSC (tN T) m3 s (zthr T v a b 0) := zSC_E h hs F3
  have v3 : zV5 m3 v a b := by
    intro i hi
    rw [g3 i (by omega)]
    rcases hi with rfl | rfl | rfl | rfl | rfl <;> rfl
  have e2' : R_X3_wearOf d 3 m1 = some (nI (zco T v a b), m2) := e2
  have e3' : R_X3_wearOf d 2 m2 = some (nI (zdu T v a b), m3) := e3
  rw [R_X3_putThrough_eq d s _ _ m hs, e1, Option.bind_some, e2', Option.bind_some]
  dsimp only
  rw [e3', Option.bind_some]
  dsimp only
  obtain ⟨m4, e4, f4, h4, v4⟩ := c_thr (d := d) (t := 0) (by omega) T3 hs h3 hB ha hb hab v3 (nI (zco T v a b)) (nI (zdu T v a b))
  have T4 := zTC_S T3 hs f4
  obtain ⟨m5, e5, f5, h5, v5⟩ := c_thr (d := d) (t := 1) (by omega) T4 hs h4 hB ha hb hab v4 (nI (zco T v a b)) (nI (zdu T v a b))
  have T5 := zTC_S T4 hs f5
  obtain ⟨m6, e6, f6, h6, v6⟩ := c_thr (d := d) (t := 2) (by omega) T5 hs h5 hB ha hb hab v5 (nI (zco T v a b)) (nI (zdu T v a b))
  have T6 := zTC_S T5 hs f6
  obtain ⟨m7, e7, f7, h7, v7⟩ := c_thr (d := d) (t := 3) (by omega) T6 hs h6 hB ha hb hab v6 (nI (zco T v a b)) (nI (zdu T v a b))
  have e4' : H_X3_putThrough_24 d s (nI a) (nI b) (nI (zco T v a b)) (nI (zdu T v a b)) 0 m3 = _ := e4
  rw [e4', e5, e6, e7]
  have F7 : zFr (zES s) m m7 := zFr_t (zE_S F3) (zFr_t f4 (zFr_t f5 (zFr_t f6 f7)))
  rw [H_X3_putThrough_24_eq d s _ _ _ _ _ m7 hs]
  show ∃ m', (if (4 : Int32) ≤ nI 4 then _ else _) = some m' ∧ _
  rw [if_pos n_4le, n_ok (by omega), n_ok (by omega), n_gd (by omega), n_gd (by omega), n_gd (by omega), n_gd (by omega), nI_clamp (by omega), nI_clamp (by omega)]
  have q35 : zthr T v a b 4 35 = v 35 := zthr_o T v a b (fun u hu => by omega) 4 (Nat.le_refl _)
  have q36 : zthr T v a b 4 36 = v 36 := zthr_o T v a b (fun u hu => by omega) 4 (Nat.le_refl _)
  have q38 : zthr T v a b 4 38 = v 38 := zthr_o T v a b (fun u hu => by omega) 4 (Nat.le_refl _)
  have qa : zthr T v a b 4 (24 + a) = v (24 + a) := zthr_o T v a b (fun u hu => by omega) 4 (Nat.le_refl _)
  have qb : zthr T v a b 4 (24 + b) = v (24 + b) := zthr_o T v a b (fun u hu => by omega) 4 (Nat.le_refl _)
  have d1 : zdu T v a b ≤ 99 := zhd_le (by omega)
  have d2 := hB.2.1
  have x1 := zSC_6 h7
  rw [q35] at x1
  rw [x1, z_99 (by omega) (by omega)]
  have k1 := zSC_u6 h7 (if v 35 + zdu T v a b < 99 then v 35 + zdu T v a b else 99)
  have x2 := zSC_7 k1
  rw [zUpd_n (by omega), q38] at x2
  rw [x2, nI_add]
  have k2 := zSC_u7 k1 (v 38 + zco T v a b)
  have x3 := zSC_4 k2
  rw [zUpd_n (by omega), zUpd_n (by omega), q36] at x3
  rw [x3, nI_1]
  have k3 := zSC_u4 k2 (v 36 + 1)
  have x4 := zSC_p k3 (p := a) (by omega)
  rw [zUpd_n (by omega), zUpd_n (by omega), zUpd_n (by omega), qa] at x4
  rw [x4, nI_1]
  have k4 := zSC_up k3 (p := a) (v (24 + a) + 1) (by omega)
  have x5 := zSC_p k4 (p := b) (by omega)
  rw [zUpd_n (by omega), zUpd_n (by omega), zUpd_n (by omega), zUpd_n (by omega), qb] at x5
  rw [x5, nI_1]
  have k5 := zSC_up k4 (p := b) (v (24 + b) + 1) (by omega)
  exact ⟨_, rfl, zFr_w2 (zFr_w2 (zFr_w2 (zFr_w2 (zFr_w2 F7 (Or.inr (by omega))) (Or.inr (by omega))) (Or.inr (by omega))) (Or.inr (by omega))) (Or.inr (by omega)), k5⟩
end ZD
