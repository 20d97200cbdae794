/-! obligation: paired -/
def zclr (s b : Nat) : Nat := if s.testBit b = true then s - 2 ^ b else s
theorem zclr_l (s b : Nat) : zclr s b ≤ s := by
  unfold zclr
  split
  · exact Nat.sub_le _ _
  · exact Nat.le_refl _
set_option maxRecDepth 100000 in
theorem zclr_i {s b : Nat} (hs : s < 64) (hb : b < 6) : nI s &&& (((1 : Int32) <<< (nI b &&& 31)) ^^^ (-1)) = nI (zclr s b) := by
  have h : ∀ s < 64, ∀ b < 6, nI s &&& (((1 : Int32) <<< (nI b &&& 31)) ^^^ (-1)) = nI (zclr s b) := by decide +kernel
  exact h s hs b hb
set_option maxRecDepth 100000 in
theorem zclr_t {s b i : Nat} (hs : s < 64) (hb : b < 6) (hi : i < 6) : (zclr s b).testBit i = (s.testBit i && !decide (i = b)) := by
  have h : ∀ s < 64, ∀ b < 6, ∀ i < 6, (zclr s b).testBit i = (s.testBit i && !decide (i = b)) := by decide +kernel
  exact h s hs b hb i hi
set_option maxRecDepth 100000 in
theorem z_an2 {x b : Nat} (hx : x < 64) (hb : b < 6) {α : Type} (p q : α) : (if nI x &&& ((1 : Int32) <<< (nI b &&& 31)) = 0 then p else q) = if x.testBit b = true then q else p := by
  have h : ∀ x < 64, ∀ b < 6, decide (nI x &&& ((1 : Int32) <<< (nI b &&& 31)) = 0) = !x.testBit b := by decide +kernel
  have e := h x hx b hb
  cases c : x.testBit b with
  | true =>
    rw [c] at e
    rw [if_neg (of_decide_eq_false e), if_pos rfl]
  | false =>
    rw [c] at e
    rw [if_pos (of_decide_eq_true e), if_neg (by decide)]
def zmi (F : Nat → Nat) (p s : Nat) (g : Nat → Nat) (base : Nat) : Nat → Nat
  | 0 => base
  | j + 1 => if ((F p).testBit (p + 1 + j) && s.testBit (p + 1 + j)) = true then (if zmi F p s g base j < 1 + g (zclr s (p + 1 + j)) then 1 + g (zclr s (p + 1 + j)) else zmi F p s g base j) else zmi F p s g base j
/-- the most pairs among those from p on -/
def zmp (F : Nat → Nat) : Nat → Nat → Nat → Nat
  | 0, _, _ => 0
  | k + 1, p, s => if s.testBit p = true then zmi F p s (fun t => zmp F k (p + 1) t) (zmp F k (p + 1) s) k else zmp F k (p + 1) s
theorem zmi_b {F : Nat → Nat} {p s base C : Nat} {g : Nat → Nat} (h1 : base ≤ C + 1) (h2 : ∀ t, g t ≤ C) : ∀ j, zmi F p s g base j ≤ C + 1 := by
  intro j
  induction j with
  | zero => exact h1
  | succ j ih =>
    unfold zmi
    have := h2 (zclr s (p + 1 + j))
    split
    · split <;> omega
    · exact ih
theorem zmp_b (F : Nat → Nat) : ∀ k p s, zmp F k p s ≤ k := by
  intro k
  induction k with
  | zero => intro p s; exact Nat.le_refl _
  | succ k ih =>
    intro p s
    unfold zmp
    split
    · exact zmi_b (by have := ih (p + 1) s; omega) (fun t => ih (p + 1) t) k
    · have := ih (p + 1) s; omega
theorem zmi_att {F : Nat → Nat} {p s base : Nat} {g : Nat → Nat} : ∀ j, zmi F p s g base j = base ∨ ∃ i, i < j ∧ ((F p).testBit (p + 1 + i) && s.testBit (p + 1 + i)) = true ∧ zmi F p s g base j = 1 + g (zclr s (p + 1 + i)) := by
  intro j
  induction j with
  | zero => exact Or.inl rfl
  | succ j ih =>
    have old : zmi F p s g base (j + 1) = zmi F p s g base j → zmi F p s g base (j + 1) = base ∨ ∃ i, i < j + 1 ∧ ((F p).testBit (p + 1 + i) && s.testBit (p + 1 + i)) = true ∧ zmi F p s g base (j + 1) = 1 + g (zclr s (p + 1 + i)) := by
      intro e
      rw [e]
      rcases ih with h | ⟨i, h1, h2, h3⟩
      · exact Or.inl h
      · exact Or.inr ⟨i, by omega, h2, h3⟩
    by_cases c : ((F p).testBit (p + 1 + j) && s.testBit (p + 1 + j)) = true
    · by_cases c2 : zmi F p s g base j < 1 + g (zclr s (p + 1 + j))
      · exact Or.inr ⟨j, by omega, c, by show (if _ then _ else _) = _; rw [if_pos c, if_pos c2]⟩
      · exact old (by show (if _ then _ else _) = _; rw [if_pos c, if_neg c2])
    · exact old (by show (if _ then _ else _) = _; rw [if_neg c])
theorem zmi_agree {F : Nat → Nat} {p s t base : Nat} {g : Nat → Nat} : ∀ j, p + 1 + j ≤ 6 → (∀ i, p < i → i < 6 → s.testBit i = t.testBit i) → (∀ b, p < b → b < 6 → g (zclr s b) = g (zclr t b)) → zmi F p s g base j = zmi F p t g base j := by
  intro j
  induction j with
  | zero => intro _ _ _; rfl
  | succ j ih =>
    intro h1 h2 h3
    unfold zmi
    rw [ih (by omega) h2 h3, h2 (p + 1 + j) (by omega) (by omega), h3 (p + 1 + j) (by omega) (by omega)]
theorem zmp_agree (F : Nat → Nat) : ∀ k p s t, p + k ≤ 6 → s < 64 → t < 64 → (∀ i, p ≤ i → i < 6 → s.testBit i = t.testBit i) → zmp F k p s = zmp F k p t := by
  intro k
  induction k with
  | zero => intro p s t _ _ _ _; rfl
  | succ k ih =>
    intro p s t h1 hs ht h2
    have e0 := ih (p + 1) s t (by omega) hs ht (fun i a b => h2 i (by omega) b)
    unfold zmp
    rw [h2 p (by omega) (by omega), e0]
    split
    · exact zmi_agree k (by omega) (fun i a b => h2 i (by omega) b) (fun b c d => ih (p + 1) _ _ (by omega) (Nat.lt_of_le_of_lt (zclr_l _ _) hs) (Nat.lt_of_le_of_lt (zclr_l _ _) ht) (fun i a e => by rw [zclr_t hs d e, zclr_t ht d e, h2 i (by omega) e]))
    · rfl
theorem zmp_low (F : Nat → Nat) {k s : Nat} : ∀ p, (∀ i, i < p → s.testBit i = false) → zmp F (p + k) 0 s = zmp F k p s := by
  have key : ∀ p q, (∀ i, i < q + p → s.testBit i = false) → zmp F (p + k) q s = zmp F k (q + p) s := by
    intro p
    induction p with
    | zero => intro q _; rw [Nat.zero_add, Nat.add_zero]
    | succ p ih =>
      intro q h
      rw [show p + 1 + k = (p + k) + 1 by omega]
      show (if s.testBit q = true then _ else zmp F (p + k) (q + 1) s) = _
      rw [h q (by omega), if_neg (by decide), ih (q + 1) (fun i hi => h i (by omega))]
      congr 1
      omega
  intro p h
  have := key p 0 (fun i hi => h i (by omega))
  rw [Nat.zero_add] at this
  exact this
section ZPd
variable {T : ZT} {lv : Nat} {m : MzM} {F : Nat → Nat}
theorem c_mp (h1 : zTC T m) (hF : ∀ a, a < tN T → mz_rd m 221 a = nI (F a)) (hF2 : ∀ a, F a < 64) : ∀ k p s d, p + k = tN T → s < 64 → k + 1 ≤ d → R_X0_mostPairsFrom d (nI p) (nI s) m = some (nI (zmp F k p s), m) := by
  have h6 := h1.1.1
  intro k
  induction k with
  | zero =>
    intro p s d hp hs hd
    obtain ⟨d', rfl⟩ : ∃ d', d = d' + 1 := ⟨d - 1, by omega⟩
    rw [R_X0_mostPairsFrom_eq, h1.2.1, if_neg (nI_nlt (by omega) (by omega))]
    rfl
  | succ k ih =>
    intro p s d hp hs hd
    obtain ⟨d', rfl⟩ : ∃ d', d = d' + 1 := ⟨d - 1, by omega⟩
    rw [R_X0_mostPairsFrom_eq, h1.2.1, if_pos (nI_lt (by omega) (by omega)), nI_1, ih (p + 1) s d' (by omega) hs (by omega), Option.bind_some]
    dsimp only
    have uf : zmp F (k + 1) p s = if s.testBit p = true then zmi F p s (fun t => zmp F k (p + 1) t) (zmp F k (p + 1) s) k else zmp F k (p + 1) s := rfl
    rw [uf]
    cases hb : s.testBit p with
    | false =>
      rw [if_neg (by decide), H_X0_mostPairsFrom_27_eq, c_isBit (by omega) (by omega), hb, Option.bind_some]
      rfl
    | true =>
      rw [if_pos rfl]
      have bnd : ∀ j, zmi F p s (fun t => zmp F k (p + 1) t) (zmp F k (p + 1) s) j ≤ k + 1 := zmi_b (by have := zmp_b F k (p + 1) s; omega) (fun t => zmp_b F k (p + 1) t)
      have key := zlp (fun j (_ : Unit) => H_X0_mostPairsFrom_27 (d' + 1) (nI p) (nI s) (nI (zmi F p s (fun t => zmp F k (p + 1) t) (zmp F k (p + 1) s) j)) (nI (p + 1 + j)) m) (fun r => r = (nI (zmi F p s (fun t => zmp F k (p + 1) t) (zmp F k (p + 1) s) k), m)) (fun _ _ => True) k ?_ ?_ 0 () (Nat.zero_le _) trivial
      · obtain ⟨r, e, rfl⟩ := key
        exact e
      · intro j _ hj _
        left
        refine ⟨(), trivial, ?_⟩
        have b1 := bnd j
        have b2 := zmp_b F k (p + 1) (zclr s (p + 1 + j))
        have cl := zclr_l s (p + 1 + j)
        have al : F p &&& s ≤ s := Nat.and_le_right
        show H_X0_mostPairsFrom_27 (d' + 1) (nI p) (nI s) (nI (zmi F p s (fun t => zmp F k (p + 1) t) (zmp F k (p + 1) s) j)) (nI (p + 1 + j)) m = H_X0_mostPairsFrom_27 (d' + 1) (nI p) (nI s) (nI (if ((F p).testBit (p + 1 + j) && s.testBit (p + 1 + j)) = true then (if zmi F p s (fun t => zmp F k (p + 1) t) (zmp F k (p + 1) s) j < 1 + zmp F k (p + 1) (zclr s (p + 1 + j)) then 1 + zmp F k (p + 1) (zclr s (p + 1 + j)) else zmi F p s (fun t => zmp F k (p + 1) t) (zmp F k (p + 1) s) j) else zmi F p s (fun t => zmp F k (p + 1) t) (zmp F k (p + 1) s) j)) (nI (p + 1 + j + 1)) m
        rw [H_X0_mostPairsFrom_27_eq, c_isBit (by omega) (by omega), hb, Option.bind_some]
        dsimp only
        rw [zb_t0, h1.2.1, if_neg (nI_ge (by omega) (by omega)), n_ok (by omega), n_gd (by omega), nI_clamp (by omega), hF p (by omega), z_and, c_isBit (by omega) (by omega), Option.bind_some]
        dsimp only
        rw [Nat.testBit_and, zb_if, nI_1, zclr_i hs (by omega), nI_1, ih (p + 1) _ d' (by omega) (by omega) (by omega), Option.bind_some]
        cases hc : ((F p).testBit (p + 1 + j) && s.testBit (p + 1 + j)) with
        | false => rfl
        | true =>
          dsimp only
          have e1 : (1 : Int32) + nI (zmp F k (p + 1) (zclr s (p + 1 + j))) = nI (1 + zmp F k (p + 1) (zclr s (p + 1 + j))) := nI_add 1 _
          rw [e1, if_pos rfl]
          by_cases q : zmi F p s (fun t => zmp F k (p + 1) t) (zmp F k (p + 1) s) j < 1 + zmp F k (p + 1) (zclr s (p + 1 + j))
          · rw [if_pos q, if_pos (nI_lt q (by omega))]
          · rw [if_neg q, if_neg (nI_nlt (by omega) (by omega))]
      · intro _ _
        show ∃ r, H_X0_mostPairsFrom_27 (d' + 1) (nI p) (nI s) _ (nI (p + 1 + k)) m = some r ∧ _
        rw [H_X0_mostPairsFrom_27_eq, c_isBit (by omega) (by omega), hb, Option.bind_some]
        dsimp only
        rw [zb_t0, h1.2.1, if_pos (nI_le (by omega) (by omega))]
        exact ⟨_, rfl, rfl⟩
/-- the first partner that still leaves as many -/
def zfpQ (F : Nat → Nat) (k p s j : Nat) : Bool := ((F p).testBit (p + 1 + j) && s.testBit (p + 1 + j)) && decide (1 + zmp F k (p + 1) (zclr s (p + 1 + j)) = zmp F (k + 1) p s)
def zfp (F : Nat → Nat) (k p s : Nat) : Option Nat := if zmp F k (p + 1) s = zmp F (k + 1) p s then none else (List.range k).find? (zfpQ F k p s)
theorem zfp_some {F : Nat → Nat} {k p s : Nat} (hb : s.testBit p = true) (h : ¬ zmp F k (p + 1) s = zmp F (k + 1) p s) : ∃ j, (List.range k).find? (zfpQ F k p s) = some j ∧ j < k := by
  have uf : zmp F (k + 1) p s = zmi F p s (fun t => zmp F k (p + 1) t) (zmp F k (p + 1) s) k := by
    show (if s.testBit p = true then _ else _) = _
    rw [if_pos hb]
  rcases zmi_att (F := F) (p := p) (s := s) (base := zmp F k (p + 1) s) (g := fun t => zmp F k (p + 1) t) k with e | ⟨i, h1, h2, h3⟩
  · exact absurd (by rw [uf, e]) h
  · cases hf : (List.range k).find? (zfpQ F k p s) with
    | none =>
      have := List.find?_eq_none.mp hf i (List.mem_range.mpr h1)
      unfold zfpQ at this
      rw [h2, uf, h3, decide_eq_true rfl] at this
      exact absurd rfl this
    | some j => exact ⟨j, rfl, List.mem_range.mp (List.mem_of_find?_eq_some hf)⟩
def zfpI (p : Nat) (o : Option Nat) : Int32 := match o with
  | none => -2
  | some j => nI (p + 1 + j)
theorem zrange_get {n k : Nat} (h : k < n) : (List.range n)[k]? = some k := by
  rw [List.getElem?_eq_getElem (by rw [List.length_range]; exact h), List.getElem_range]
theorem c_fp (h1 : zTC T m) (hF : ∀ a, a < tN T → mz_rd m 221 a = nI (F a)) (hF2 : ∀ a, F a < 64) {k p s : Nat} (hp : p + (k + 1) = tN T) (hs : s < 64) (hb : s.testBit p = true) : R_X0_firstPartner 8 (nI p) (nI s) m = some (zfpI p (zfp F k p s), m) := by
  have h6 := h1.1.1
  have b0 := zmp_b F k (p + 1) s
  have b1 := zmp_b F (k + 1) p s
  rw [R_X0_firstPartner_eq, c_mp h1 hF hF2 (k + 1) p s 8 hp hs (by omega), Option.bind_some]
  dsimp only
  rw [nI_1, c_mp h1 hF hF2 k (p + 1) s 8 (by omega) hs (by omega), Option.bind_some]
  dsimp only
  unfold zfp
  by_cases c : zmp F k (p + 1) s = zmp F (k + 1) p s
  · rw [if_pos c, if_neg (fun z => z (by rw [c]))]
    rfl
  · rw [if_neg c, if_pos (fun z => c ((nI_eq (by omega) (by omega)).mp z))]
    have key := zlp (fun j (_ : Unit) => H_X0_firstPartner_27 8 (nI p) (nI s) (nI (zmp F (k + 1) p s)) (nI (p + 1 + j)) m) (fun r => r = (zfpI p ((List.range k).find? (zfpQ F k p s)), m)) (fun j _ => ((List.range k).take j).find? (zfpQ F k p s) = none) k ?_ ?_ 0 () (Nat.zero_le _) rfl
    · obtain ⟨r, e, rfl⟩ := key
      exact e
    · intro j _ hj P
      have b2 := zmp_b F k (p + 1) (zclr s (p + 1 + j))
      have cl := zclr_l s (p + 1 + j)
      have al : F p &&& s ≤ s := Nat.and_le_right
      have hg := zrange_get hj
      show (∃ _y : Unit, ((List.range k).take (j + 1)).find? (zfpQ F k p s) = none ∧ H_X0_firstPartner_27 8 (nI p) (nI s) (nI (zmp F (k + 1) p s)) (nI (p + 1 + j)) m = H_X0_firstPartner_27 8 (nI p) (nI s) (nI (zmp F (k + 1) p s)) (nI (p + 1 + (j + 1))) m) ∨ (∃ r, H_X0_firstPartner_27 8 (nI p) (nI s) (nI (zmp F (k + 1) p s)) (nI (p + 1 + j)) m = some r ∧ _)
      have e1 : (1 : Int32) + nI (zmp F k (p + 1) (zclr s (p + 1 + j))) = nI (1 + zmp F k (p + 1) (zclr s (p + 1 + j))) := nI_add 1 _
      rw [H_X0_firstPartner_27_eq, h1.2.1, if_neg (nI_ge (by omega) (by omega)), n_ok (by omega), n_gd (by omega), nI_clamp (by omega), hF p (by omega), z_and, c_isBit (by omega) (by omega), Option.bind_some]
      dsimp only
      rw [Nat.testBit_and, zb_if, zclr_i hs (by omega), nI_1, nI_1, c_mp h1 hF hF2 k (p + 1) _ 8 (by omega) (by omega) (by omega), Option.bind_some, e1]
      have q0 : zfpQ F k p s j = (((F p).testBit (p + 1 + j) && s.testBit (p + 1 + j)) && decide (1 + zmp F k (p + 1) (zclr s (p + 1 + j)) = zmp F (k + 1) p s)) := rfl
      cases hc : ((F p).testBit (p + 1 + j) && s.testBit (p + 1 + j)) with
      | false =>
        rw [hc] at q0
        exact Or.inl ⟨(), zfind_n hg P q0, rfl⟩
      | true =>
        dsimp only
        rw [hc, Bool.true_and] at q0
        by_cases q : 1 + zmp F k (p + 1) (zclr s (p + 1 + j)) = zmp F (k + 1) p s
        · rw [if_neg (fun z => z (by rw [q]))]
          rw [decide_eq_true q] at q0
          refine Or.inr ⟨_, rfl, ?_⟩
          rw [zfind hg P q0]
          rfl
        · rw [if_pos (fun z => q ((nI_eq (by omega) (by omega)).mp z))]
          rw [decide_eq_false q] at q0
          exact Or.inl ⟨(), zfind_n hg P q0, rfl⟩
    · intro _ P
      have P2 : (List.range k).find? (zfpQ F k p s) = none := by
        have e : (List.range k).take k = List.range k := by
          have := List.take_length (l := List.range k)
          rw [List.length_range] at this
          exact this
        rw [e] at P
        exact P
      show ∃ r, H_X0_firstPartner_27 8 (nI p) (nI s) _ (nI (p + 1 + k)) m = some r ∧ _
      rw [H_X0_firstPartner_27_eq, h1.2.1, if_pos (nI_le (by omega) (by omega)), P2]
      exact ⟨_, rfl, rfl⟩
/-- with whom i is -/
def zpt (F : Nat → Nat) (i : Nat) : Nat → Nat → Nat → Int32
  | 0, _, _ => -2
  | k + 1, p, s => if s.testBit p = true then (if p = i then zfpI p (zfp F k p s) else match zfp F k p s with
      | none => zpt F i k (p + 1) s
      | some j => if p + 1 + j = i then nI p else zpt F i k (p + 1) (zclr s (p + 1 + j))) else zpt F i k (p + 1) s
theorem zfp_lt {F : Nat → Nat} {k p s j : Nat} (h : zfp F k p s = some j) : j < k := by
  unfold zfp at h
  split at h
  · cases h
  · exact List.mem_range.mp (List.mem_of_find?_eq_some h)
theorem c_pt (h1 : zTC T m) (hF : ∀ a, a < tN T → mz_rd m 221 a = nI (F a)) (hF2 : ∀ a, F a < 64) {i : Nat} (hi : i < tN T) : ∀ k p s, p + k = tN T → s < 64 → H_X0_partnerOf_7 8 (nI i) (nI s) (nI p) m = some (zpt F i k p s, m) := by
  have h6 := h1.1.1
  intro k
  induction k with
  | zero =>
    intro p s hp hs
    rw [H_X0_partnerOf_7_eq, h1.2.1, if_pos (nI_le (by omega) (by omega))]
    rfl
  | succ k ih =>
    intro p s hp hs
    rw [H_X0_partnerOf_7_eq, h1.2.1, if_neg (nI_ge (by omega) (by omega)), c_isBit (by omega) (by omega), Option.bind_some]
    dsimp only
    show _ = some ((if s.testBit p = true then (if p = i then zfpI p (zfp F k p s) else match zfp F k p s with
      | none => zpt F i k (p + 1) s
      | some j => if p + 1 + j = i then nI p else zpt F i k (p + 1) (zclr s (p + 1 + j))) else zpt F i k (p + 1) s), m)
    rw [nI_1, ih (p + 1) s (by omega) hs]
    cases hb : s.testBit p with
    | false => rw [zb_f0, if_neg (by decide)]
    | true =>
      rw [zb_t0, c_fp h1 hF hF2 hp hs hb, Option.bind_some, if_pos rfl]
      dsimp only
      by_cases c : p = i
      · rw [if_neg (fun z => z (by rw [c])), if_pos c]
      · rw [if_pos (fun z => c ((nI_eq (by omega) (by omega)).mp z)), if_neg c]
        cases e : zfp F k p s with
        | none =>
          have q0 : zfpI p none = -2 := rfl
          rw [q0, if_pos (fun z => z_ne2 (k := i) (by omega) z.symm), if_pos rfl]
          exact ih (p + 1) s (by omega) hs
        | some j =>
          have hj := zfp_lt e
          have q0 : zfpI p (some j) = nI (p + 1 + j) := rfl
          dsimp only
          rw [q0]
          by_cases c2 : p + 1 + j = i
          · rw [if_neg (fun z => z (by rw [c2])), if_pos c2]
          · have cl := zclr_l s (p + 1 + j)
            rw [if_pos (fun z => c2 ((nI_eq (by omega) (by omega)).mp z)), if_neg (z_ne2 (by omega)), if_neg c2, zclr_i hs (by omega), ih (p + 1) _ (by omega) (by omega)]
/-! the reference -/
def zlow (s : Nat) : Nat := if s.testBit 0 = true then 0 else if s.testBit 1 = true then 1 else if s.testBit 2 = true then 2 else if s.testBit 3 = true then 3 else if s.testBit 4 = true then 4 else 5
set_option maxRecDepth 100000 in
theorem zlow_e {s : Nat} (hs : s < 64) (h0 : s ≠ 0) : s.testBit (zlow s) = true ∧ zlow s < 6 ∧ ∀ i, i < zlow s → s.testBit i = false := by
  have h : ∀ s < 64, s ≠ 0 → s.testBit (zlow s) = true ∧ zlow s < 6 ∧ ∀ i < zlow s, s.testBit i = false := by decide +kernel
  exact h s hs h0
theorem r_low {s d : Nat} (hs : s < 64) (h0 : s ≠ 0) : R_X12_lowestOf d (nI s) m = some (nI (zlow s), m) := by
  obtain ⟨e1, e2, e3⟩ := zlow_e hs h0
  rw [R_X12_lowestOf_eq]
  have key := zlp (fun k (_ : Unit) => H_X12_lowestOf_2 d (nI s) (nI k) m) (fun r => r = (nI (zlow s), m)) (fun _ _ => True) (zlow s) ?_ ?_ 0 () (Nat.zero_le _) trivial
  · obtain ⟨r, e, rfl⟩ := key
    exact e
  · intro k _ hk _
    left
    refine ⟨(), trivial, ?_⟩
    show H_X12_lowestOf_2 d (nI s) (nI k) m = H_X12_lowestOf_2 d (nI s) (nI (k + 1)) m
    rw [H_X12_lowestOf_2_eq, z_bit (by omega) (by omega), e3 k hk, zb_f1, nI_1]
  · intro _ _
    show ∃ r, H_X12_lowestOf_2 d (nI s) (nI (zlow s)) m = some r ∧ _
    rw [H_X12_lowestOf_2_eq, z_bit (by omega) (by omega), e1, zb_t1]
    exact ⟨_, rfl, rfl⟩
theorem zlow_np {s np : Nat} (hn : np ≤ 6) (hs : s < 2 ^ np) (h0 : s ≠ 0) : zlow s < np := by
  have p64 : 2 ^ np ≤ 2 ^ 6 := Nat.pow_le_pow_right (by omega) hn
  obtain ⟨e1, -, -⟩ := zlow_e (s := s) (by omega) h0
  apply Classical.byContradiction
  intro hh
  have e : s < 2 ^ zlow s := Nat.lt_of_lt_of_le hs (Nat.pow_le_pow_right (by omega) (by omega))
  rw [Nat.testBit_lt_two_pow e] at e1
  cases e1
end ZPd
