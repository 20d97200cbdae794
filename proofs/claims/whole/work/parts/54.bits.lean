/-! bits -/
theorem z_or (x y : Nat) : nI x ||| nI y = nI (x ||| y) := by
  apply Int32.toBitVec_inj.mp
  show BitVec.ofNat 32 x ||| BitVec.ofNat 32 y = BitVec.ofNat 32 (x ||| y)
  rw [BitVec.ofNat_or]
theorem z_and (x y : Nat) : nI x &&& nI y = nI (x &&& y) := by
  apply Int32.toBitVec_inj.mp
  show BitVec.ofNat 32 x &&& BitVec.ofNat 32 y = BitVec.ofNat 32 (x &&& y)
  rw [BitVec.ofNat_and]
theorem z_shl {k : Nat} (hk : k < 16) : (1 : Int32) <<< (nI k &&& 31) = nI (2 ^ k) := by
  have h : ∀ k < 16, (1 : Int32) <<< (nI k &&& 31) = nI (2 ^ k) := by decide
  exact h k hk
theorem z_shr {x k : Nat} (hx : x < 2 ^ 31) (hk : k < 16) : nI x >>> (nI k &&& 31) = nI (x / 2 ^ k) := by
  have h : ∀ k < 16, ((nI k &&& 31).toBitVec.smod 32).toNat = k := by decide
  exact pk_shrN hx _ k (h k hk)
theorem z_an1 {x : Nat} (hx : x < 2 ^ 32) : nI x &&& 1 = nI (x % 2) := pk_andN hx 1 (by decide)
/-- a bit -/
theorem z_bit {x k : Nat} (hx : x < 2 ^ 31) (hk : k < 16) : ((nI x >>> (nI k &&& 31)) &&& 1) = zb (x.testBit k) := by
  have h1 : x / 2 ^ k ≤ x := Nat.div_le_self _ _
  rw [z_shr hx hk, z_an1 (by omega), Nat.testBit_eq_decide_div_mod_eq]
  by_cases c : x / 2 ^ k % 2 = 1
  · rw [c, decide_eq_true rfl]; rfl
  · rw [show x / 2 ^ k % 2 = 0 by omega]; rfl
/-- the bits of a property -/
def zmk (P : Nat → Bool) : Nat → Nat
  | 0 => 0
  | k + 1 => if P k = true then zmk P k ||| 2 ^ k else zmk P k
theorem zmk_bit (P : Nat → Bool) (b : Nat) : ∀ n, (zmk P n).testBit b = (decide (b < n) && P b) := by
  intro n
  induction n with
  | zero => simp [zmk]
  | succ n ih =>
    unfold zmk
    by_cases c : P n = true
    · rw [if_pos c, Nat.testBit_or, ih, Nat.testBit_two_pow]
      by_cases e : n = b
      · subst e; simp [c]
      · have e1 : decide (n = b) = false := decide_eq_false e
        have e2 : decide (b < n + 1) = decide (b < n) := by
          by_cases q : b < n
          · rw [decide_eq_true q, decide_eq_true (by omega)]
          · rw [decide_eq_false q, decide_eq_false (by omega)]
        rw [e1, e2, Bool.or_false]
    · rw [if_neg c, ih]
      by_cases e : n = b
      · subst e
        have c2 : P n = false := by simpa using c
        simp [c2]
      · have e2 : decide (b < n + 1) = decide (b < n) := by
          by_cases q : b < n
          · rw [decide_eq_true q, decide_eq_true (by omega)]
          · rw [decide_eq_false q, decide_eq_false (by omega)]
        rw [e2]
theorem zmk_lt (P : Nat → Bool) (n : Nat) : zmk P n < 2 ^ n := Nat.lt_pow_two_of_testBit _ (fun i hi => by rw [zmk_bit, decide_eq_false (by omega)]; rfl)
theorem zmk_0 (P : Nat → Bool) (n : Nat) : zmk P n = 0 ↔ ∀ b, b < n → P b = false := by
  constructor
  · intro h b hb
    have := zmk_bit P b n
    rw [h, Nat.zero_testBit, decide_eq_true hb, Bool.true_and] at this
    exact this.symm
  · intro h
    apply Nat.eq_of_testBit_eq
    intro i
    rw [zmk_bit, Nat.zero_testBit]
    by_cases c : i < n
    · rw [h i c, Bool.and_false]
    · rw [decide_eq_false c, Bool.false_and]
theorem zmk_e {P Q : Nat → Bool} {n : Nat} (h : ∀ b, b < n → P b = Q b) : zmk P n = zmk Q n := by
  apply Nat.eq_of_testBit_eq
  intro i
  rw [zmk_bit, zmk_bit]
  by_cases c : i < n
  · rw [h i c]
  · rw [decide_eq_false c, Bool.false_and, Bool.false_and]
/-- one more bit, or none -/
theorem zmk_t {P : Nat → Bool} {k : Nat} (hk : k < 16) (h : P k = true) : nI (zmk P k) ||| ((1 : Int32) <<< (nI k &&& 31)) = nI (zmk P (k + 1)) := by
  rw [z_shl hk, z_or]
  show _ = nI (if P k = true then zmk P k ||| 2 ^ k else zmk P k)
  rw [if_pos h]
theorem zmk_f {P : Nat → Bool} {k : Nat} (h : P k = false) : zmk P (k + 1) = zmk P k := by
  show (if P k = true then zmk P k ||| 2 ^ k else zmk P k) = _
  rw [h]
  rfl
/-- who quarrels with one, as bits -/
def zfP (T : ZT) (v : Nat → Nat) (p o : Nat) : Bool := !decide (o = p) && zq T v p o
theorem zfo_e (T : ZT) (v : Nat → Nat) (p : Nat) : ∀ n, n ≤ 6 → zfo T v p n = nI (zmk (zfP T v p) n) := by
  intro n
  induction n with
  | zero => intro _; rfl
  | succ n ih =>
    intro hn
    show (if n ≠ p ∧ zq T v p n = true then zfo T v p n ||| ((1 : Int32) <<< (nI n &&& 31)) else zfo T v p n) = _
    rw [ih (by omega)]
    by_cases c : n ≠ p ∧ zq T v p n = true
    · rw [if_pos c, zmk_t (by omega)]
      unfold zfP
      rw [c.2, decide_eq_false c.1]
      rfl
    · rw [if_neg c, zmk_f]
      unfold zfP
      by_cases e : n = p
      · rw [decide_eq_true e]; rfl
      · cases hq : zq T v p n with
        | false => simp
        | true => exact absurd ⟨e, hq⟩ c
theorem zdf_s (x y : Nat) : zdf x y = zdf y x := by
  unfold zdf
  split <;> split <;> omega
theorem zdt_s (v : Nat → Nat) (a b t : Nat) : zdt v a b t = zdt v b a t := zdf_s _ _
theorem zmo_s (v : Nat → Nat) (a b : Nat) : ∀ t, zmo v a b t = zmo v b a t := by
  intro t
  induction t with
  | zero => rfl
  | succ t ih =>
    unfold zmo
    rw [ih, zdt_s v a b t]
theorem zq_s (T : ZT) (v : Nat → Nat) (a b : Nat) : zq T v a b = zq T v b a := by
  unfold zq zqv
  rw [zmo_s v a b 4]
  have : zap v a b = zap v b a := by
    unfold zap
    rw [zdt_s v a b 0, zdt_s v a b 1, zdt_s v a b 2, zdt_s v a b 3]
  rw [this]
