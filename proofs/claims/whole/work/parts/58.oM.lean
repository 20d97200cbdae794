/-! obligation: peace -/
def zpop (s : Nat) : Nat := s % 2 + s / 2 % 2 + s / 4 % 2 + s / 8 % 2 + s / 16 % 2 + s / 32 % 2
set_option maxRecDepth 100000 in
theorem c_bc {s d : Nat} {m : MzM} (hs : s < 64) : R_J6_bitCount_0f7a4 d (nI s) m = some (nI (zpop s), m) := by
  have h : ∀ s < 64, ((((((((((nI s) - (((((nI s) : Int32).toUInt32 >>> ((1 : Int32).toUInt32 &&& Int32.toUInt32 31)).toInt32) &&& 1431655765)) &&& 858993459) + ((((((nI s) - (((((nI s) : Int32).toUInt32 >>> ((1 : Int32).toUInt32 &&& Int32.toUInt32 31)).toInt32) &&& 1431655765)) : Int32).toUInt32 >>> ((2 : Int32).toUInt32 &&& Int32.toUInt32 31)).toInt32) &&& 858993459)) + (((((((nI s) - (((((nI s) : Int32).toUInt32 >>> ((1 : Int32).toUInt32 &&& Int32.toUInt32 31)).toInt32) &&& 1431655765)) &&& 858993459) + ((((((nI s) - (((((nI s) : Int32).toUInt32 >>> ((1 : Int32).toUInt32 &&& Int32.toUInt32 31)).toInt32) &&& 1431655765)) : Int32).toUInt32 >>> ((2 : Int32).toUInt32 &&& Int32.toUInt32 31)).toInt32) &&& 858993459)) : Int32).toUInt32 >>> ((4 : Int32).toUInt32 &&& Int32.toUInt32 31)).toInt32)) &&& 252645135) + (((((((((nI s) - (((((nI s) : Int32).toUInt32 >>> ((1 : Int32).toUInt32 &&& Int32.toUInt32 31)).toInt32) &&& 1431655765)) &&& 858993459) + ((((((nI s) - (((((nI s) : Int32).toUInt32 >>> ((1 : Int32).toUInt32 &&& Int32.toUInt32 31)).toInt32) &&& 1431655765)) : Int32).toUInt32 >>> ((2 : Int32).toUInt32 &&& Int32.toUInt32 31)).toInt32) &&& 858993459)) + (((((((nI s) - (((((nI s) : Int32).toUInt32 >>> ((1 : Int32).toUInt32 &&& Int32.toUInt32 31)).toInt32) &&& 1431655765)) &&& 858993459) + ((((((nI s) - (((((nI s) : Int32).toUInt32 >>> ((1 : Int32).toUInt32 &&& Int32.toUInt32 31)).toInt32) &&& 1431655765)) : Int32).toUInt32 >>> ((2 : Int32).toUInt32 &&& Int32.toUInt32 31)).toInt32) &&& 858993459)) : Int32).toUInt32 >>> ((4 : Int32).toUInt32 &&& Int32.toUInt32 31)).toInt32)) &&& 252645135) : Int32).toUInt32 >>> ((8 : Int32).toUInt32 &&& Int32.toUInt32 31)).toInt32)) + ((((((((((nI s) - (((((nI s) : Int32).toUInt32 >>> ((1 : Int32).toUInt32 &&& Int32.toUInt32 31)).toInt32) &&& 1431655765)) &&& 858993459) + ((((((nI s) - (((((nI s) : Int32).toUInt32 >>> ((1 : Int32).toUInt32 &&& Int32.toUInt32 31)).toInt32) &&& 1431655765)) : Int32).toUInt32 >>> ((2 : Int32).toUInt32 &&& Int32.toUInt32 31)).toInt32) &&& 858993459)) + (((((((nI s) - (((((nI s) : Int32).toUInt32 >>> ((1 : Int32).toUInt32 &&& Int32.toUInt32 31)).toInt32) &&& 1431655765)) &&& 858993459) + ((((((nI s) - (((((nI s) : Int32).toUInt32 >>> ((1 : Int32).toUInt32 &&& Int32.toUInt32 31)).toInt32) &&& 1431655765)) : Int32).toUInt32 >>> ((2 : Int32).toUInt32 &&& Int32.toUInt32 31)).toInt32) &&& 858993459)) : Int32).toUInt32 >>> ((4 : Int32).toUInt32 &&& Int32.toUInt32 31)).toInt32)) &&& 252645135) + (((((((((nI s) - (((((nI s) : Int32).toUInt32 >>> ((1 : Int32).toUInt32 &&& Int32.toUInt32 31)).toInt32) &&& 1431655765)) &&& 858993459) + ((((((nI s) - (((((nI s) : Int32).toUInt32 >>> ((1 : Int32).toUInt32 &&& Int32.toUInt32 31)).toInt32) &&& 1431655765)) : Int32).toUInt32 >>> ((2 : Int32).toUInt32 &&& Int32.toUInt32 31)).toInt32) &&& 858993459)) + (((((((nI s) - (((((nI s) : Int32).toUInt32 >>> ((1 : Int32).toUInt32 &&& Int32.toUInt32 31)).toInt32) &&& 1431655765)) &&& 858993459) + ((((((nI s) - (((((nI s) : Int32).toUInt32 >>> ((1 : Int32).toUInt32 &&& Int32.toUInt32 31)).toInt32) &&& 1431655765)) : Int32).toUInt32 >>> ((2 : Int32).toUInt32 &&& Int32.toUInt32 31)).toInt32) &&& 858993459)) : Int32).toUInt32 >>> ((4 : Int32).toUInt32 &&& Int32.toUInt32 31)).toInt32)) &&& 252645135) : Int32).toUInt32 >>> ((8 : Int32).toUInt32 &&& Int32.toUInt32 31)).toInt32)) : Int32).toUInt32 >>> ((16 : Int32).toUInt32 &&& Int32.toUInt32 31)).toInt32)) &&& 63)) = nI (zpop s) := by decide +kernel
  rw [R_J6_bitCount_0f7a4_eq, h s hs]
set_option maxRecDepth 100000 in
theorem r_bits {s d : Nat} {m : MzM} (hs : s < 64) : R_X12_bits d (nI s) m = some (nI (zpop s), m) := by
  have h : ∀ s < 64, (0 : Int32) + ((nI s >>> (nI 0 &&& 31)) &&& 1) + ((nI s >>> (nI 1 &&& 31)) &&& 1) + ((nI s >>> (nI 2 &&& 31)) &&& 1) + ((nI s >>> (nI 3 &&& 31)) &&& 1) + ((nI s >>> (nI 4 &&& 31)) &&& 1) + ((nI s >>> (nI 5 &&& 31)) &&& 1) = nI (zpop s) := by decide +kernel
  have st : ∀ (acc : Int32) (k : Nat), k < 6 → H_X12_bits_4 d (nI s) acc (nI k) m = H_X12_bits_4 d (nI s) (acc + ((nI s >>> (nI k &&& 31)) &&& 1)) (nI (k + 1)) m := by
    intro acc k hk
    rw [H_X12_bits_4_eq, if_neg (show ¬ (6 : Int32) ≤ nI k from nI_ge (b := 6) hk (by omega)), nI_1]
  rw [R_X12_bits_eq]
  show H_X12_bits_4 d (nI s) 0 (nI 0) m = _
  rw [st _ 0 (by omega), st _ 1 (by omega), st _ 2 (by omega), st _ 3 (by omega), st _ 4 (by omega), st _ 5 (by omega), H_X12_bits_4_eq, h s hs]
  exact if_pos (show (6 : Int32) ≤ nI 6 by decide)
/-- is it peace without s -/
def zpzP (F : Nat → Nat) (s a : Nat) : Bool := s.testBit a || decide ((nI (F a) &&& (nI s ^^^ (-1))) = 0)
def zpz (F : Nat → Nat) (s n : Nat) : Bool := (List.range n).all (zpzP F s)
theorem zpz_s (F : Nat → Nat) (s n : Nat) : zpz F s (n + 1) = (zpz F s n && zpzP F s n) := by
  unfold zpz
  rw [List.range_succ]
  simp
theorem zpz_f {F : Nat → Nat} {s n k : Nat} (hk : k < n) (h : zpzP F s k = false) : zpz F s n = false := by
  unfold zpz
  rw [List.all_eq_false]
  exact ⟨k, List.mem_range.mpr hk, by rw [h]; simp⟩
section ZPe
variable {T : ZT} {lv d : Nat} {m : MzM} {F : Nat → Nat}
theorem c_isBit {x k : Nat} (hx : x < 2 ^ 31) (hk : k < 16) : R_X0_isBit d (nI x) (nI k) m = some (zb (x.testBit k), m) := by
  rw [R_X0_isBit_eq, z_bit hx hk]
  exact zb_iv _ m
theorem c_peace1 {s : Nat} (hs : s < 64) (h1 : zTC T m) (hF : ∀ a, a < tN T → mz_rd m 221 a = nI (F a)) : R_X0_isPeaceWithout d (nI s) m = some (zb (zpz F s (tN T)), m) := by
  have h6 := h1.1.1
  have key := zlp (fun k (_ : Unit) => H_X0_isPeaceWithout_2 d (nI s) (nI k) m) (fun r => r = (zb (zpz F s (tN T)), m)) (fun k _ => zpz F s k = true) (tN T) ?_ ?_ 0 () (Nat.zero_le _) rfl
  · obtain ⟨r, e, rfl⟩ := key
    rw [R_X0_isPeaceWithout_eq]
    exact e
  · intro k _ hk P
    show (∃ _y : Unit, zpz F s (k + 1) = true ∧ H_X0_isPeaceWithout_2 d (nI s) (nI k) m = H_X0_isPeaceWithout_2 d (nI s) (nI (k + 1)) m) ∨ (∃ r, H_X0_isPeaceWithout_2 d (nI s) (nI k) m = some r ∧ _)
    rw [H_X0_isPeaceWithout_2_eq, h1.2.1, if_neg (nI_ge hk (by omega)), c_isBit (by omega) (by omega), Option.bind_some]
    dsimp only
    rw [n_ok (by omega), n_gd (by omega), nI_clamp (by omega), hF k hk, nI_1, zpz_s, P, Bool.true_and]
    cases hb : s.testBit k with
    | true =>
      rw [zb_t1]
      exact Or.inl ⟨(), by unfold zpzP; rw [hb]; rfl, rfl⟩
    | false =>
      rw [zb_f1]
      by_cases c : (nI (F k) &&& (nI s ^^^ (-1))) = 0
      · rw [if_pos c]
        exact Or.inl ⟨(), by unfold zpzP; rw [decide_eq_true c, Bool.or_true], rfl⟩
      · rw [if_neg c]
        refine Or.inr ⟨_, rfl, ?_⟩
        rw [zpz_f hk (by unfold zpzP; rw [hb, decide_eq_false c]; rfl)]
        rfl
  · intro _ P
    show ∃ r, H_X0_isPeaceWithout_2 d (nI s) (nI (tN T)) m = some r ∧ _
    rw [H_X0_isPeaceWithout_2_eq, h1.2.1, if_pos (nI_le (Nat.le_refl _) (by omega)), P]
    exact ⟨_, rfl, rfl⟩
theorem r_peace1 {s : Nat} (hs : s < 64) (h2 : zTR T lv m) (hF : ∀ a, a < tN T → mz_rd m 275 a = nI (F a)) : R_X12_isPeace d (nI s) m = some (zb (zpz F s (tN T)), m) := by
  have h6 := h2.1.1
  obtain ⟨-, l2, l3, l4, -⟩ := id h2
  have key := zlp (fun k (_ : Unit) => H_X12_isPeace_2 d (nI s) (nI k) m) (fun r => r = (zb (zpz F s (tN T)), m)) (fun k _ => zpz F s k = true) (tN T) ?_ ?_ 0 () (Nat.zero_le _) rfl
  · obtain ⟨r, e, rfl⟩ := key
    rw [R_X12_isPeace_eq]
    exact e
  · intro k _ hk P
    show (∃ _y : Unit, zpz F s (k + 1) = true ∧ H_X12_isPeace_2 d (nI s) (nI k) m = H_X12_isPeace_2 d (nI s) (nI (k + 1)) m) ∨ (∃ r, H_X12_isPeace_2 d (nI s) (nI k) m = some r ∧ _)
    rw [H_X12_isPeace_2_eq, l3, n_ok (by omega), n_gd l2, nI_clamp (by omega), l4, if_neg (nI_ge hk (by omega)), z_bit (by omega) (by omega), n_ok (by omega), n_gd (by omega), nI_clamp (by omega), hF k hk, nI_1, zpz_s, P, Bool.true_and]
    cases hb : s.testBit k with
    | true =>
      rw [zb_t1]
      exact Or.inl ⟨(), by unfold zpzP; rw [hb]; rfl, rfl⟩
    | false =>
      rw [zb_f1]
      by_cases c : (nI (F k) &&& (nI s ^^^ (-1))) = 0
      · rw [if_pos c]
        exact Or.inl ⟨(), by unfold zpzP; rw [decide_eq_true c, Bool.or_true], rfl⟩
      · rw [if_neg c]
        refine Or.inr ⟨_, rfl, ?_⟩
        rw [zpz_f hk (by unfold zpzP; rw [hb, decide_eq_false c]; rfl)]
        rfl
  · intro _ P
    show ∃ r, H_X12_isPeace_2 d (nI s) (nI (tN T)) m = some r ∧ _
    rw [H_X12_isPeace_2_eq, l3, n_ok (by omega), n_gd l2, nI_clamp (by omega), l4, if_pos (nI_le (Nat.le_refl _) (by omega)), P]
    exact ⟨_, rfl, rfl⟩
end ZPe
/-- the class's way, the reference's way -/
def zgc (F : Nat → Nat) (np : Nat) : Nat → Nat
  | 0 => 2 ^ np - 1
  | s + 1 => if zpop s < zpop (zgc F np s) ∧ zpz F s np = true then s else zgc F np s
def zgr (F : Nat → Nat) (np : Nat) : Nat → Option Nat
  | 0 => none
  | s + 1 => match zgr F np s with
    | none => if zpz F s np = true then some s else none
    | some b => if zpop s < zpop b ∧ zpz F s np = true then some s else some b
theorem zpop_f {np s : Nat} (hn : np ≤ 6) (hs : s < 2 ^ np) (h : s ≠ 2 ^ np - 1) : zpop s < zpop (2 ^ np - 1) := by
  have key : ∀ np < 7, ∀ s < 2 ^ np, s ≠ 2 ^ np - 1 → zpop s < zpop (2 ^ np - 1) := by decide +kernel
  exact key np (by omega) s hs h
theorem zg_e {F : Nat → Nat} {np : Nat} (hn : np ≤ 6) : ∀ s, s ≤ 2 ^ np → (zgr F np s = none → zgc F np s = 2 ^ np - 1) ∧ (∀ b, zgr F np s = some b → zgc F np s = b) ∧ zgc F np s < 2 ^ np := by
  have p1 : 0 < 2 ^ np := Nat.two_pow_pos np
  intro s
  induction s with
  | zero => intro _; exact ⟨fun _ => rfl, fun b h => (by cases h), by show 2 ^ np - 1 < _; omega⟩
  | succ s ih =>
    intro hs
    obtain ⟨i1, i2, i3⟩ := ih (by omega)
    have b3 : zgc F np (s + 1) < 2 ^ np := by
      unfold zgc
      split
      · omega
      · exact i3
    refine ⟨?_, ?_, b3⟩
    · intro h
      unfold zgr at h
      unfold zgc
      cases e : zgr F np s with
      | none =>
        rw [e] at h
        dsimp only at h
        by_cases c : zpz F s np = true
        · rw [if_pos c] at h; cases h
        · rw [if_neg (fun z => c z.2)]
          exact i1 e
      | some b =>
        rw [e] at h
        dsimp only at h
        split at h <;> cases h
    · intro b h
      unfold zgr at h
      unfold zgc
      cases e : zgr F np s with
      | none =>
        rw [e] at h
        dsimp only at h
        by_cases c : zpz F s np = true
        · rw [if_pos c] at h
          have hb := Option.some.inj h
          rw [i1 e]
          by_cases f : s = 2 ^ np - 1
          · split
            · exact hb
            · omega
          · rw [if_pos ⟨zpop_f hn (by omega) f, c⟩]
            exact hb
        · rw [if_neg c] at h; cases h
      | some a =>
        rw [e] at h
        dsimp only at h
        rw [i2 a e]
        split at h
        · rename_i q
          rw [if_pos q]
          exact Option.some.inj h
        · rename_i q
          rw [if_neg q]
          exact Option.some.inj h
theorem zgr_some {F : Nat → Nat} {np : Nat} (hn : np ≤ 6) : ∃ b, zgr F np (2 ^ np) = some b := by
  have p1 : 0 < 2 ^ np := Nat.two_pow_pos np
  obtain ⟨k, hk⟩ : ∃ k, 2 ^ np = k + 1 := ⟨2 ^ np - 1, by omega⟩
  have full : zpz F k np = true := by
    unfold zpz
    rw [List.all_eq_true]
    intro a ha
    unfold zpzP
    rw [show k = 2 ^ np - 1 by omega, Nat.testBit_two_pow_sub_one, decide_eq_true (List.mem_range.mp ha)]
    rfl
  rw [hk]
  unfold zgr
  cases zgr F np k with
  | none => exact ⟨k, by dsimp only; rw [if_pos full]⟩
  | some b =>
    dsimp only
    split
    · exact ⟨_, rfl⟩
    · exact ⟨_, rfl⟩
def zp0 (o : Option Nat) : Int32 := match o with
  | none => -1
  | some b => nI b
theorem z_all {np : Nat} (hn : np ≤ 6) : ((1 : Int32) <<< (nI np &&& 31)) - 1 = nI (2 ^ np - 1) := by
  have p1 : 0 < 2 ^ np := Nat.two_pow_pos np
  rw [z_shl (by omega)]
  exact pk_sub (b := 1) (by omega)
def zFo (a i : Nat) : Prop := zE a i ∨ a = 221
theorem c_foesAt {T : ZT} {d B : Nat} {v : Nat → Nat} {m : MzM} (hT : zTC T m) (h : zSC (tN T) m 29 v) (hB : zB (tN T) B v) : ∃ m', R_X0_lookAt d 29 m = some m' ∧ zFr zFo m m' ∧ zTC T m' ∧ ∀ a, a < tN T → mz_rd m' 221 a = nI (zmk (zfP T v a) (tN T)) := by
  have h6 := hT.1.1
  rw [R_X0_lookAt_eq d 29 m z_s29]
  have tcF : ∀ x, zFr zFo m x → zTC T x := fun x F => zTC_f hT (fun a i z => F.1 a i (by unfold zFo zE; unfold zTx at z; omega))
  have key : ∃ r, H_X0_lookAt_2 d 29 (nI 0) m = some r ∧ zFr zFo m r ∧ ∀ a, a < tN T → mz_rd r 221 a = nI (zmk (zfP T v a) (tN T)) := by
    refine zlp (fun k x => H_X0_lookAt_2 d 29 (nI k) x) (fun r => zFr zFo m r ∧ ∀ a, a < tN T → mz_rd r 221 a = nI (zmk (zfP T v a) (tN T))) (fun k x => zFr zFo m x ∧ ∀ a, a < k → mz_rd x 221 a = nI (zmk (zfP T v a) (tN T))) (tN T) ?_ ?_ 0 m (by omega) ⟨zFr_r, fun a ha => by omega⟩
    · rintro k x hk ⟨F, P⟩
      left
      have Tx := tcF x F
      have Sx : zSC (tN T) x 29 v := zSC_f h (fun a i p q => F.1 a i (by unfold zFo zE; omega))
      obtain ⟨m2, e2, f2⟩ := c_foesOf (d := d) Tx z_s29 Sx hB hk
      show ∃ y, (zFr zFo m y ∧ ∀ a, a < k + 1 → mz_rd y 221 a = nI (zmk (zfP T v a) (tN T))) ∧ H_X0_lookAt_2 d 29 (nI k) x = H_X0_lookAt_2 d 29 (nI (k + 1)) y
      rw [H_X0_lookAt_2_eq d 29 _ x z_s29, Tx.2.1, if_neg (nI_ge hk (by omega)), e2, Option.bind_some]
      dsimp only
      rw [n_ok (by omega), n_gd (by omega), nI_clamp (by omega), nI_1, zfo_e T v k _ h6]
      refine ⟨_, ⟨zFr_w2 (zFr_t F (zFr_m f2 (fun a i z => Or.inl z))) (Or.inr rfl), fun a ha => ?_⟩, rfl⟩
      by_cases c : a = k
      · subst c; exact m_eq
      · rw [m_ni c, f2.1 221 a (by unfold zE; omega)]
        exact P a (by omega)
    · rintro x ⟨F, P⟩
      show ∃ r, H_X0_lookAt_2 d 29 (nI (tN T)) x = some r ∧ _
      rw [H_X0_lookAt_2_eq d 29 _ x z_s29, (tcF x F).2.1, if_pos (nI_le (Nat.le_refl _) (by omega))]
      exact ⟨_, rfl, F, P⟩
  obtain ⟨m2, e2, f2, p2⟩ := key
  exact ⟨m2, e2, f2, tcF m2 f2, p2⟩
theorem zFo_Q {m m' : MzM} (f : zFr zFo m m') : zFr zCQ m m' := zFr_m f (fun a i z => by
  rcases z with z | z
  · exact Or.inl z
  · exact Or.inr (Or.inr z))
theorem o_peace : mz_o_peace zI := by
  intro n m a1 hn hI
  obtain ⟨T, lv, v, h⟩ := id hI
  obtain ⟨h1, h2, h3, h4, h5, -⟩ := h
  have h6 := h1.1.1
  have p64 : 2 ^ tN T ≤ 2 ^ 6 := Nat.pow_le_pow_right (by omega) h6
  have p1 : 0 < 2 ^ tN T := Nat.two_pow_pos _
  have x1 := R_X11_peace_eq 8 a1 m
  have x2 := fun mm => R_X12_peace_eq 8 a1 mm
  rw [c_is01, Option.bind_some] at x1
  dsimp only at x1
  cases c2 : zIsP 2 a1 with
  | false =>
    rw [c2, zb_f1] at x1
    have x3 := x2 m
    rw [r_in (n := 2) (by omega) (by decide), c2, Option.bind_some] at x3
    exact ⟨_, _, _, x1, x3, zI_q hn hI zFr_r zFr_r⟩
  | true =>
    obtain ⟨m1, e1, f1, t1, p1'⟩ := c_foesAt (d := 8) h1 h3 h5
    rw [c2, zb_t1, e1, Option.bind_some, R_X0_fewestGone_eq, R_X0_everybody_eq, t1.2.1, z_all h6, Option.bind_some] at x1
    dsimp only at x1
    have cl : ∃ r, H_X0_fewestGone_9 8 (nI (2 ^ tN T - 1)) (nI (zgc (fun a => zmk (zfP T v a) (tN T)) (tN T) 0)) (nI 0) m1 = some r ∧ r = (nI (zgc (fun a => zmk (zfP T v a) (tN T)) (tN T) (2 ^ tN T)), m1) := by
      refine zlp (fun s (_ : Unit) => H_X0_fewestGone_9 8 (nI (2 ^ tN T - 1)) (nI (zgc (fun a => zmk (zfP T v a) (tN T)) (tN T) s)) (nI s) m1) (fun r => r = (nI (zgc (fun a => zmk (zfP T v a) (tN T)) (tN T) (2 ^ tN T)), m1)) (fun _ _ => True) (2 ^ tN T) ?_ ?_ 0 () (by omega) trivial
      · intro s _ hs _
        left
        refine ⟨(), trivial, ?_⟩
        have gb := (zg_e (F := fun a => zmk (zfP T v a) (tN T)) h6 s (by omega)).2.2
        have pl1 : zpop s ≤ 6 := by unfold zpop; omega
        have pl2 : zpop (zgc (fun a => zmk (zfP T v a) (tN T)) (tN T) s) ≤ 6 := by unfold zpop; omega
        show H_X0_fewestGone_9 8 _ (nI (zgc (fun a => zmk (zfP T v a) (tN T)) (tN T) s)) (nI s) m1 = H_X0_fewestGone_9 8 _ (nI (if zpop s < zpop (zgc (fun a => zmk (zfP T v a) (tN T)) (tN T) s) ∧ zpz (fun a => zmk (zfP T v a) (tN T)) s (tN T) = true then s else zgc (fun a => zmk (zfP T v a) (tN T)) (tN T) s)) (nI (s + 1)) m1
        rw [H_X0_fewestGone_9_eq, if_neg (nI_nlt (by omega) (by omega)), c_bc (by omega), Option.bind_some]
        dsimp only
        rw [c_bc (by omega), Option.bind_some]
        dsimp only
        rw [c_peace1 (F := fun a => zmk (zfP T v a) (tN T)) (by omega) t1 p1', Option.bind_some, nI_1]
        dsimp only
        by_cases q : zpop s < zpop (zgc (fun a => zmk (zfP T v a) (tN T)) (tN T) s)
        · rw [if_neg (nI_ge q (by omega))]
          cases hz : zpz (fun a => zmk (zfP T v a) (tN T)) s (tN T) with
          | false => rw [zb_f0, if_neg (fun z => absurd z.2 (by decide))]
          | true => rw [zb_t0, if_pos ⟨q, rfl⟩]
        · rw [if_pos (nI_le (by omega) (by omega)), if_neg (fun z => q z.1)]
      · intro _ _
        show ∃ r, H_X0_fewestGone_9 8 (nI (2 ^ tN T - 1)) _ (nI (2 ^ tN T)) m1 = some r ∧ _
        rw [H_X0_fewestGone_9_eq, if_pos (nI_lt (by omega) (by omega))]
        exact ⟨_, rfl, rfl⟩
    obtain ⟨r1, e3, rfl⟩ := cl
    have e3' : H_X0_fewestGone_9 8 (nI (2 ^ tN T - 1)) (nI (2 ^ tN T - 1)) 0 m1 = _ := e3
    obtain ⟨b, hb⟩ := zgr_some (F := fun a => zmk (zfP T v a) (tN T)) h6
    obtain ⟨-, gb2, gb3⟩ := zg_e (F := fun a => zmk (zfP T v a) (tN T)) h6 (2 ^ tN T) (Nat.le_refl _)
    have gb4 := gb2 b hb
    rw [e3', Option.bind_some] at x1
    dsimp only at x1
    rw [c_bc (by omega), Option.bind_some, gb4] at x1
    have f1 := zFo_Q f1
    obtain ⟨m2, e2, f2, t2, -, p2⟩ := r_fillsFoes (d := 8) (zTR_q h2 f1) (zRA_q h4 f1) h5
    obtain ⟨-, l2, l3, l4, -⟩ := id t2
    have rl : ∃ r, H_X12_peace_19 8 a1 (zp0 (zgr (fun a => zmk (zfP T v a) (tN T)) (tN T) 0)) (nI 0) m2 = some r ∧ r = (if ¬ a1 = 0 then nI b else nI (zpop b), m2) := by
      refine zlp (fun s (_ : Unit) => H_X12_peace_19 8 a1 (zp0 (zgr (fun a => zmk (zfP T v a) (tN T)) (tN T) s)) (nI s) m2) (fun r => r = (if ¬ a1 = 0 then nI b else nI (zpop b), m2)) (fun _ _ => True) (2 ^ tN T) ?_ ?_ 0 () (by omega) trivial
      · intro s _ hs _
        left
        refine ⟨(), trivial, ?_⟩
        have gg := (zg_e (F := fun a => zmk (zfP T v a) (tN T)) h6 s (by omega))
        show H_X12_peace_19 8 a1 (zp0 (zgr (fun a => zmk (zfP T v a) (tN T)) (tN T) s)) (nI s) m2 = H_X12_peace_19 8 a1 (zp0 (match zgr (fun a => zmk (zfP T v a) (tN T)) (tN T) s with
          | none => if zpz (fun a => zmk (zfP T v a) (tN T)) s (tN T) = true then some s else none
          | some b => if zpop s < zpop b ∧ zpz (fun a => zmk (zfP T v a) (tN T)) s (tN T) = true then some s else some b)) (nI (s + 1)) m2
        rw [H_X12_peace_19_eq, l3, n_ok (by omega), n_gd l2, nI_clamp (by omega), l4, z_shl (by omega), if_neg (nI_ge hs (by omega)), r_peace1 (F := fun a => zmk (zfP T v a) (tN T)) (by omega) t2 p2, Option.bind_some, r_bits (by omega), Option.bind_some, nI_1]
        dsimp only
        cases e : zgr (fun a => zmk (zfP T v a) (tN T)) (tN T) s with
        | none =>
          rw [if_pos (show zp0 none < 0 by decide)]
          cases hz : zpz (fun a => zmk (zfP T v a) (tN T)) s (tN T) with
          | false => rfl
          | true => rfl
        | some w =>
          have wb := gg.2.1 w e
          have wl : w < 64 := by have := gg.2.2; omega
          have pl1 : zpop s ≤ 6 := by unfold zpop; omega
          have pl2 : zpop w ≤ 6 := by unfold zpop; omega
          have q0 : zp0 (some w) = nI w := rfl
          rw [q0, if_neg (nI_pos (by omega)), r_bits wl, Option.bind_some]
          dsimp only
          rw [r_peace1 (F := fun a => zmk (zfP T v a) (tN T)) (by omega) t2 p2, Option.bind_some]
          dsimp only
          by_cases q : zpop s < zpop w
          · rw [if_neg (nI_ge q (by omega))]
            cases hz : zpz (fun a => zmk (zfP T v a) (tN T)) s (tN T) with
            | false => rw [zb_f0, if_neg (fun z => absurd z.2 (by decide))]; rfl
            | true => rw [zb_t0, if_pos ⟨q, rfl⟩]; rfl
          · rw [if_pos (nI_le (by omega) (by omega)), if_neg (fun z => q z.1)]; rfl
      · intro _ _
        show ∃ r, H_X12_peace_19 8 a1 _ (nI (2 ^ tN T)) m2 = some r ∧ _
        rw [H_X12_peace_19_eq, l3, n_ok (by omega), n_gd l2, nI_clamp (by omega), l4, z_shl (by omega), if_pos (nI_le (Nat.le_refl _) (by omega)), hb]
        have q0 : zp0 (some b) = nI b := rfl
        rw [q0, r_bits (by omega), Option.bind_some]
        by_cases q : a1 = 0
        · rw [if_neg (fun z => z q), if_neg (fun z => z q)]; exact ⟨_, rfl, rfl⟩
        · rw [if_pos q, if_pos q]; exact ⟨_, rfl, rfl⟩
    obtain ⟨r2, e4, rfl⟩ := rl
    have e4' : H_X12_peace_19 8 a1 (-1) 0 m2 = _ := e4
    have x3 := x2 m1
    rw [r_in (n := 2) (by omega) (by decide), c2, Option.bind_some] at x3
    dsimp only at x3
    rw [zb_t1, e2, Option.bind_some, e4'] at x3
    have x4 : R_X11_peace 8 a1 m = some (if ¬ a1 = 0 then nI b else nI (zpop b), m1) := by
      rw [x1]
      by_cases q : a1 = 0
      · rw [if_neg (fun z => z q), if_neg (fun z => z q)]
      · rw [if_pos q, if_pos q]
    exact ⟨_, _, _, x4, x3, zI_q hn hI f1 f2⟩
