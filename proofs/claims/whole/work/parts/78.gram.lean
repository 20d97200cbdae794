/-! reading: what an expression is (a result: .inl (fault, token) or .inr (next token, cells)) -/
abbrev ZR : Type := (Nat × Nat) ⊕ (Nat × ZP)
/-- the signs of level j: 0 for * and /, 1 for + and - -/
def zop (j k : Nat) : Prop := (j = 0 ∧ (k = 8 ∨ k = 9)) ∨ (j = 1 ∧ (k = 6 ∨ k = 7))
def zRules (kd vl : Nat → Nat) (M : Nat → Nat → Nat → ZR → Prop) : Prop :=
  (∀ n t, kd t = 3 → M 0 n t (.inr (t + 1, [(0, vl t)])))
  ∧ (∀ n t, 25 ≤ kd t → kd t ≤ 33 → M 0 n t (.inr (t + 1, [(1, kd t - 25)])))
  ∧ (∀ n t, kd t = 11 → 6 ≤ n → M 0 n t (.inl (2, t)))
  ∧ (∀ n t, kd t ≠ 3 → ¬ (25 ≤ kd t ∧ kd t ≤ 33) → kd t ≠ 11 → M 0 n t (.inl (1, t)))
  ∧ (∀ n t t2 P, kd t = 11 → n < 6 → M 4 (n + 1) (t + 1) (.inr (t2, P)) → kd t2 = 12 → M 0 n t (.inr (t2 + 1, P)))
  ∧ (∀ n t t2 P, kd t = 11 → n < 6 → M 4 (n + 1) (t + 1) (.inr (t2, P)) → kd t2 ≠ 12 → M 0 n t (.inl (1, t2)))
  ∧ (∀ n t e, kd t = 11 → n < 6 → M 4 (n + 1) (t + 1) (.inl e) → M 0 n t (.inl e))
  ∧ (∀ j n t, j < 2 → ¬ zop j (kd t) → M (2 * j + 1) n t (.inr (t, [])))
  ∧ (∀ j n t t2 t3 Q S, zop j (kd t) → M (2 * j) n (t + 1) (.inr (t2, Q)) → M (2 * j + 1) n t2 (.inr (t3, S)) → M (2 * j + 1) n t (.inr (t3, Q ++ (kd t - 4, 0) :: S)))
  ∧ (∀ j n t e, zop j (kd t) → M (2 * j) n (t + 1) (.inl e) → M (2 * j + 1) n t (.inl e))
  ∧ (∀ j n t t2 Q e, zop j (kd t) → M (2 * j) n (t + 1) (.inr (t2, Q)) → M (2 * j + 1) n t2 (.inl e) → M (2 * j + 1) n t (.inl e))
  ∧ (∀ j n t t2 t3 Q S, j < 2 → M (2 * j) n t (.inr (t2, Q)) → M (2 * j + 1) n t2 (.inr (t3, S)) → M (2 * j + 2) n t (.inr (t3, Q ++ S)))
  ∧ (∀ j n t e, j < 2 → M (2 * j) n t (.inl e) → M (2 * j + 2) n t (.inl e))
  ∧ (∀ j n t t2 Q e, j < 2 → M (2 * j) n t (.inr (t2, Q)) → M (2 * j + 1) n t2 (.inl e) → M (2 * j + 2) n t (.inl e))
/-- 0 a unit, 1 what follows a unit, 2 a product, 3 what follows a product, 4 a sum; n nested; from token t -/
def zG (kd vl : Nat → Nat) (md n t : Nat) (R : ZR) : Prop := ∀ M, zRules kd vl M → M md n t R
section ZGram
variable {kd vl : Nat → Nat}
theorem zG_i {n t : Nat} (h : kd t = 3) : zG kd vl 0 n t (.inr (t + 1, [(0, vl t)])) := fun _ r => r.1 n t h
theorem zG_v {n t : Nat} (h : 25 ≤ kd t) (h2 : kd t ≤ 33) : zG kd vl 0 n t (.inr (t + 1, [(1, kd t - 25)])) := fun _ r => r.2.1 n t h h2
theorem zG_r {n t : Nat} (h : kd t = 11) (h2 : 6 ≤ n) : zG kd vl 0 n t (.inl (2, t)) := fun _ r => r.2.2.1 n t h h2
theorem zG_x {n t : Nat} (h : kd t ≠ 3) (h2 : ¬ (25 ≤ kd t ∧ kd t ≤ 33)) (h3 : kd t ≠ 11) : zG kd vl 0 n t (.inl (1, t)) := fun _ r => r.2.2.2.1 n t h h2 h3
theorem zG_p {n t t2 : Nat} {P : ZP} (h : kd t = 11) (h2 : n < 6) (g : zG kd vl 4 (n + 1) (t + 1) (.inr (t2, P))) (h3 : kd t2 = 12) : zG kd vl 0 n t (.inr (t2 + 1, P)) := fun M r => r.2.2.2.2.1 n t t2 P h h2 (g M r) h3
theorem zG_p1 {n t t2 : Nat} {P : ZP} (h : kd t = 11) (h2 : n < 6) (g : zG kd vl 4 (n + 1) (t + 1) (.inr (t2, P))) (h3 : kd t2 ≠ 12) : zG kd vl 0 n t (.inl (1, t2)) := fun M r => r.2.2.2.2.2.1 n t t2 P h h2 (g M r) h3
theorem zG_p2 {n t : Nat} {e : Nat × Nat} (h : kd t = 11) (h2 : n < 6) (g : zG kd vl 4 (n + 1) (t + 1) (.inl e)) : zG kd vl 0 n t (.inl e) := fun M r => r.2.2.2.2.2.2.1 n t e h h2 (g M r)
theorem zG_m0 {j n t : Nat} (hj : j < 2) (h : ¬ zop j (kd t)) : zG kd vl (2 * j + 1) n t (.inr (t, [])) := fun _ r => r.2.2.2.2.2.2.2.1 j n t hj h
theorem zG_m {j n t t2 t3 : Nat} {Q S : ZP} (h : zop j (kd t)) (g : zG kd vl (2 * j) n (t + 1) (.inr (t2, Q))) (g2 : zG kd vl (2 * j + 1) n t2 (.inr (t3, S))) : zG kd vl (2 * j + 1) n t (.inr (t3, Q ++ (kd t - 4, 0) :: S)) := fun M r => r.2.2.2.2.2.2.2.2.1 j n t t2 t3 Q S h (g M r) (g2 M r)
theorem zG_m1 {j n t : Nat} {e : Nat × Nat} (h : zop j (kd t)) (g : zG kd vl (2 * j) n (t + 1) (.inl e)) : zG kd vl (2 * j + 1) n t (.inl e) := fun M r => r.2.2.2.2.2.2.2.2.2.1 j n t e h (g M r)
theorem zG_m2 {j n t t2 : Nat} {Q : ZP} {e : Nat × Nat} (h : zop j (kd t)) (g : zG kd vl (2 * j) n (t + 1) (.inr (t2, Q))) (g2 : zG kd vl (2 * j + 1) n t2 (.inl e)) : zG kd vl (2 * j + 1) n t (.inl e) := fun M r => r.2.2.2.2.2.2.2.2.2.2.1 j n t t2 Q e h (g M r) (g2 M r)
theorem zG_a {j n t t2 t3 : Nat} {Q S : ZP} (h : j < 2) (g : zG kd vl (2 * j) n t (.inr (t2, Q))) (g2 : zG kd vl (2 * j + 1) n t2 (.inr (t3, S))) : zG kd vl (2 * j + 2) n t (.inr (t3, Q ++ S)) := fun M r => r.2.2.2.2.2.2.2.2.2.2.2.1 j n t t2 t3 Q S h (g M r) (g2 M r)
theorem zG_a1 {j n t : Nat} {e : Nat × Nat} (h : j < 2) (g : zG kd vl (2 * j) n t (.inl e)) : zG kd vl (2 * j + 2) n t (.inl e) := fun M r => r.2.2.2.2.2.2.2.2.2.2.2.2.1 j n t e h (g M r)
theorem zG_a2 {j n t t2 : Nat} {Q : ZP} {e : Nat × Nat} (h : j < 2) (g : zG kd vl (2 * j) n t (.inr (t2, Q))) (g2 : zG kd vl (2 * j + 1) n t2 (.inl e)) : zG kd vl (2 * j + 2) n t (.inl e) := fun M r => r.2.2.2.2.2.2.2.2.2.2.2.2.2 j n t t2 Q e h (g M r) (g2 M r)
/-- tokens go forward, one cell a token at most -/
def zGf (kd : Nat → Nat) (md t : Nat) : ZR → Prop
  | .inl e => t ≤ e.2 ∧ (e.1 = 1 ∨ e.1 = 2) ∧ (t ≤ 402 → e.2 ≤ 402)
  | .inr q => t + q.2.length ≤ q.1 ∧ (md % 2 = 0 → t < q.1) ∧ (t ≤ 402 → q.1 ≤ 402)
theorem zG_f (hk : ∀ i, 402 ≤ i → kd i = 0) {md n t : Nat} {R : ZR} (g : zG kd vl md n t R) : zGf kd md t R := by
  have h0 : ∀ i, kd i ≠ 0 → i < 402 := fun i hi => by
    rcases Nat.lt_or_ge i 402 with c | c
    · exact c
    · exact absurd (hk i c) hi
  have hz : ∀ j t, zop j (kd t) → t < 402 := fun j t z => h0 t (by unfold zop at z; omega)
  refine g (fun md _ t R => zGf kd md t R) ⟨?_, ?_, ?_, ?_, ?_, ?_, ?_, ?_, ?_, ?_, ?_, ?_, ?_, ?_⟩
  · intro n t h; have := h0 t (by omega); exact ⟨Nat.le_refl _, fun _ => by show t < t + 1; omega, fun _ => by show t + 1 ≤ 402; omega⟩
  · intro n t h h2; have := h0 t (by omega); exact ⟨Nat.le_refl _, fun _ => by show t < t + 1; omega, fun _ => by show t + 1 ≤ 402; omega⟩
  · intro n t h h2; exact ⟨Nat.le_refl _, Or.inr rfl, fun z => z⟩
  · intro n t h h2 h3; exact ⟨Nat.le_refl _, Or.inl rfl, fun z => z⟩
  · intro n t t2 P h h2 g h3
    obtain ⟨a, b, c⟩ := g
    have a : t + 1 + P.length ≤ t2 := a
    have c : t + 1 ≤ 402 → t2 ≤ 402 := c
    have e1 := h0 t (by omega)
    have e2 := h0 t2 (by omega)
    exact ⟨by show t + P.length ≤ t2 + 1; omega, fun _ => by show t < t2 + 1; omega, fun _ => by show t2 + 1 ≤ 402; omega⟩
  · intro n t t2 P h h2 g h3
    obtain ⟨a, b, c⟩ := g
    have a : t + 1 + P.length ≤ t2 := a
    have c : t + 1 ≤ 402 → t2 ≤ 402 := c
    have e1 := h0 t (by omega)
    exact ⟨by show t ≤ t2; omega, Or.inl rfl, fun _ => by show t2 ≤ 402; omega⟩
  · intro n t e h h2 g
    obtain ⟨a, b, c⟩ := g
    have e1 := h0 t (by omega)
    exact ⟨by omega, b, fun _ => c (by omega)⟩
  · intro j n t hj h; exact ⟨Nat.le_refl _, fun z => absurd z (by omega), fun z => z⟩
  · intro j n t t2 t3 Q S h g g2
    obtain ⟨a, b, c⟩ := g
    obtain ⟨a2, b2, c2⟩ := g2
    have a : t + 1 + Q.length ≤ t2 := a
    have a2 : t2 + S.length ≤ t3 := a2
    have c : t + 1 ≤ 402 → t2 ≤ 402 := c
    have c2 : t2 ≤ 402 → t3 ≤ 402 := c2
    have e1 := hz j t h
    refine ⟨?_, fun z => absurd z (by omega), fun _ => ?_⟩
    · show t + (Q ++ (kd t - 4, 0) :: S).length ≤ t3
      rw [List.length_append, List.length_cons]
      omega
    · show t3 ≤ 402
      omega
  · intro j n t e h g
    obtain ⟨a, b, c⟩ := g
    have e1 := hz j t h
    exact ⟨by omega, b, fun _ => c (by omega)⟩
  · intro j n t t2 Q e h g g2
    obtain ⟨a, b, c⟩ := g
    obtain ⟨a2, b2, c2⟩ := g2
    have a : t + 1 + Q.length ≤ t2 := a
    have c : t + 1 ≤ 402 → t2 ≤ 402 := c
    have e1 := hz j t h
    exact ⟨by omega, b2, fun _ => c2 (by omega)⟩
  · intro j n t t2 t3 Q S h g g2
    obtain ⟨a, b, c⟩ := g
    obtain ⟨a2, b2, c2⟩ := g2
    have a : t + Q.length ≤ t2 := a
    have b : 2 * j % 2 = 0 → t < t2 := b
    have b := b (by omega)
    have a2 : t2 + S.length ≤ t3 := a2
    have c : t ≤ 402 → t2 ≤ 402 := c
    have c2 : t2 ≤ 402 → t3 ≤ 402 := c2
    refine ⟨?_, fun _ => by show t < t3; omega, fun z => c2 (c z)⟩
    show t + (Q ++ S).length ≤ t3
    rw [List.length_append]
    omega
  · intro j n t e h g
    exact g
  · intro j n t t2 Q e h g g2
    obtain ⟨a, b, c⟩ := g
    obtain ⟨a2, b2, c2⟩ := g2
    have a : t + Q.length ≤ t2 := a
    have c : t ≤ 402 → t2 ≤ 402 := c
    exact ⟨by omega, b2, fun z => c2 (c z)⟩
/-- the heights -/
def zGh (md n : Nat) : ZR → Prop
  | .inl _ => True
  | .inr q => n ≤ 6 → ∀ h, (md % 2 = 1 → 1 ≤ h) → h + (13 - 2 * n + md / 2) ≤ 32 → zcs h q.2 (h + (md + 1) % 2)
theorem zG_h (hv : ∀ i, vl i < 10000) {md n t : Nat} {R : ZR} (g : zG kd vl md n t R) : zGh md n R := by
  refine g (fun md n _ R => zGh md n R) ⟨?_, ?_, ?_, ?_, ?_, ?_, ?_, ?_, ?_, ?_, ?_, ?_, ?_, ?_⟩
  · intro n t h hn u _ hu
    exact ⟨Or.inl ⟨rfl, hv t, by omega⟩, rfl⟩
  · intro n t h h2 hn u _ hu
    exact ⟨Or.inr (Or.inl ⟨rfl, by show kd t - 25 < 9; omega, by omega⟩), rfl⟩
  · intro n t _ _; trivial
  · intro n t _ _ _; trivial
  · intro n t t2 P h h2 g h3 hn u _ hu
    exact g (by omega) u (fun z => absurd z (by omega)) (by omega)
  · intro n t t2 P _ _ _ _; trivial
  · intro n t e _ _ _; trivial
  · intro j n t hj h hn u _ hu
    show u = u + (2 * j + 1 + 1) % 2
    omega
  · intro j n t t2 t3 Q S h g g2 hn u u1 hu
    have u1 := u1 (by omega)
    have k1 := g hn u (fun z => absurd z (by omega)) (by omega)
    have k2 := g2 hn u (fun _ => u1) hu
    have k1 : zcs u Q (u + (2 * j + 1) % 2) := k1
    have k2 : zcs u S (u + (2 * j + 1 + 1) % 2) := k2
    rw [show u + (2 * j + 1) % 2 = u + 1 by omega] at k1
    show zcs u (Q ++ (kd t - 4, 0) :: S) (u + (2 * j + 1 + 1) % 2)
    have hz : 6 ≤ kd t ∧ kd t ≤ 9 := by unfold zop at h; omega
    refine zcs_app k1 ⟨Or.inr (Or.inr ⟨by show 2 ≤ kd t - 4; omega, by show kd t - 4 ≤ 5; omega, by omega, by omega⟩), ?_⟩
    have : zcd (u + 1) (kd t - 4, 0) = u := by
      unfold zcd
      rw [if_neg (show ¬ kd t - 4 ≤ 1 by omega)]
      rfl
    rw [this]
    exact k2
  · intro j n t e _ _; trivial
  · intro j n t t2 Q e _ _ _; trivial
  · intro j n t t2 t3 Q S h g g2 hn u u1 hu
    have k1 : zcs u Q (u + (2 * j + 1) % 2) := g hn u (fun z => absurd z (by omega)) (by omega)
    have k2 : zcs (u + 1) S (u + 1 + (2 * j + 1 + 1) % 2) := g2 hn (u + 1) (fun _ => by omega) (by omega)
    rw [show u + (2 * j + 1) % 2 = u + 1 by omega] at k1
    show zcs u (Q ++ S) (u + (2 * j + 2 + 1) % 2)
    rw [show u + (2 * j + 2 + 1) % 2 = u + 1 + (2 * j + 1 + 1) % 2 by omega]
    exact zcs_app k1 k2
  · intro j n t e _ _; trivial
  · intro j n t t2 Q e _ _ _; trivial
theorem zG_s (hv : ∀ i, vl i < 10000) {t t2 : Nat} {P : ZP} (g : zG kd vl 4 0 t (.inr (t2, P))) : zcs 0 P 1 :=
  zG_h hv g (by omega) 0 (fun z => absurd z (by omega)) (by omega)
/-- what was passed over was no end -/
def zGc (kd : Nat → Nat) (t : Nat) : ZR → Prop
  | .inl e => t ≤ e.2 ∧ ∀ i, t ≤ i → i < e.2 → kd i ≠ 0
  | .inr q => t ≤ q.1 ∧ ∀ i, t ≤ i → i < q.1 → kd i ≠ 0
theorem zG_c {md n t : Nat} {R : ZR} (g : zG kd vl md n t R) : zGc kd t R := by
  have one : ∀ t, kd t ≠ 0 → ∀ i, t ≤ i → i < t + 1 → kd i ≠ 0 := fun t h i p q => by
    have : i = t := by omega
    subst this
    exact h
  have cat : ∀ a b c, (∀ i, a ≤ i → i < b → kd i ≠ 0) → (∀ i, b ≤ i → i < c → kd i ≠ 0) → ∀ i, a ≤ i → i < c → kd i ≠ 0 := fun a b c h1 h2 i p q => by
    rcases Nat.lt_or_ge i b with z | z
    · exact h1 i p z
    · exact h2 i z q
  have hz : ∀ j t, zop j (kd t) → kd t ≠ 0 := fun j t z => by unfold zop at z; omega
  refine g (fun _ _ t R => zGc kd t R) ⟨?_, ?_, ?_, ?_, ?_, ?_, ?_, ?_, ?_, ?_, ?_, ?_, ?_, ?_⟩
  · intro n t h; exact ⟨Nat.le_succ t, one t (by omega)⟩
  · intro n t h h2; exact ⟨Nat.le_succ t, one t (by omega)⟩
  · intro n t h h2; exact ⟨Nat.le_refl t, fun i p q => absurd (Nat.lt_of_le_of_lt p q) (Nat.lt_irrefl t)⟩
  · intro n t h h2 h3; exact ⟨Nat.le_refl t, fun i p q => absurd (Nat.lt_of_le_of_lt p q) (Nat.lt_irrefl t)⟩
  · intro n t t2 P h h2 g h3
    have a : t + 1 ≤ t2 := g.1
    exact ⟨by show t ≤ t2 + 1; omega, cat t (t + 1) _ (one t (by omega)) (cat (t + 1) t2 _ g.2 (one t2 (by omega)))⟩
  · intro n t t2 P h h2 g h3
    have a : t + 1 ≤ t2 := g.1
    exact ⟨by show t ≤ t2; omega, cat t (t + 1) _ (one t (by omega)) g.2⟩
  · intro n t e h h2 g
    have a : t + 1 ≤ e.2 := g.1
    exact ⟨by omega, cat t (t + 1) _ (one t (by omega)) g.2⟩
  · intro j n t hj h; exact ⟨Nat.le_refl t, fun i p q => absurd (Nat.lt_of_le_of_lt p q) (Nat.lt_irrefl t)⟩
  · intro j n t t2 t3 Q S h g g2
    have a : t + 1 ≤ t2 := g.1
    have b : t2 ≤ t3 := g2.1
    exact ⟨by show t ≤ t3; omega, cat t (t + 1) _ (one t (hz j t h)) (cat (t + 1) t2 _ g.2 g2.2)⟩
  · intro j n t e h g
    have a : t + 1 ≤ e.2 := g.1
    exact ⟨by omega, cat t (t + 1) _ (one t (hz j t h)) g.2⟩
  · intro j n t t2 Q e h g g2
    have a : t + 1 ≤ t2 := g.1
    have b : t2 ≤ e.2 := g2.1
    exact ⟨by omega, cat t (t + 1) _ (one t (hz j t h)) (cat (t + 1) t2 _ g.2 g2.2)⟩
  · intro j n t t2 t3 Q S h g g2
    have a : t ≤ t2 := g.1
    have b : t2 ≤ t3 := g2.1
    exact ⟨by show t ≤ t3; omega, cat t t2 _ g.2 g2.2⟩
  · intro j n t e h g
    exact g
  · intro j n t t2 Q e h g g2
    have a : t ≤ t2 := g.1
    have b : t2 ≤ e.2 := g2.1
    exact ⟨by omega, cat t t2 _ g.2 g2.2⟩
end ZGram
