/-! what a tape is cut into -/
def zbl (c : Nat) : Bool := decide (c = 9 ∨ c = 10 ∨ c = 13 ∨ c = 32)
def zle (c : Nat) : Bool := decide (97 ≤ c ∧ c ≤ 122)
def zdi (c : Nat) : Bool := decide (48 ≤ c ∧ c ≤ 57)
def zrn (P : Nat → Bool) (b : Nat → Nat) (s : Nat) : Nat → Nat → Nat
  | 0, p => p
  | f + 1, p => if p < s ∧ P (b p) = true then zrn P b s f (p + 1) else p
/-- the end of a run -/
def zRe (P : Nat → Bool) (b : Nat → Nat) (s p : Nat) : Nat := zrn P b s (s - p) p
def zcode (B : Nat) (b : Nat → Nat) (q : Nat) : Nat → Nat
  | 0 => 0
  | n + 1 => zcode B b q n * B + (b (q + n) - 96)
def znum (b : Nat → Nat) (q : Nat) : Nat → Nat
  | 0 => 0
  | n + 1 => znum b q n * 10 + (b (q + n) - 48)
def zwl (k : Nat) : Nat := [6, 4, 5, 8, 5, 5, 5, 5, 4, 2, 4, 4, 5, 4, 4, 4, 3, 5, 3, 5, 4].getD k 0
def zcol (k i : Nat) : Nat := ((mz_sb 1000001).getD (8 * k + i) 0).toNatClampNeg
def zkey (k : Nat) : Nat := zcode 27 (zcol k) 0 (zwl k)
def zwn (c : Nat) : Option Nat := zff (fun k => decide (zkey k = c)) 21 0
def zsg (c : Nat) : Nat := if c = 59 then 4 else if c = 61 then 5 else if c = 43 then 6 else if c = 45 then 7 else if c = 42 then 8 else if c = 47 then 9 else if c = 60 then 10 else if c = 40 then 11 else if c = 41 then 12 else 1
def zwk : Option Nat → Nat
  | none => 2
  | some k => 13 + k
def zkq (b : Nat → Nat) (s q : Nat) : Nat := if s ≤ q then 0 else if zle (b q) = true then (if 8 < zRe zle b s q - q then 1 else zwk (zwn (zcode 27 b q (zRe zle b s q - q)))) else if zdi (b q) = true then (if 4 < zRe zdi b s q - q then 1 else 3) else zsg (b q)
def znx (b : Nat → Nat) (s q : Nat) : Nat := if s ≤ q then q else if zle (b q) = true then zRe zle b s q else if zdi (b q) = true then zRe zdi b s q else q + 1
def zps (b : Nat → Nat) (s : Nat) : Nat → Nat
  | 0 => 0
  | j + 1 => znx b s (zRe zbl b s (zps b s j))
def zplc (b : Nat → Nat) (s j : Nat) : Nat := zRe zbl b s (zps b s j)
def zkd (b : Nat → Nat) (s j : Nat) : Nat := if j < 402 then zkq b s (zplc b s j) else 0
def zvq (b : Nat → Nat) (s q : Nat) : Nat := if zRe zdi b s q - q ≤ 4 then znum b q (zRe zdi b s q - q) else 0
def zvl (b : Nat → Nat) (s j : Nat) : Nat := zvq b s (zplc b s j)
def znm (B : Nat) (b : Nat → Nat) (s j : Nat) : Nat := zcode B b (zplc b s j) (zRe zle b s (zplc b s j) - zplc b s j)
theorem zcol_ok : ∀ k, k < 21 → ∀ i, i < 8 → (mz_sb 1000001).getD (8 * k + i) 0 = nI (zcol k i) ∧ (i < zwl k → 97 ≤ zcol k i ∧ zcol k i ≤ 122) ∧ (zwl k ≤ i → zcol k i = 32) := by decide +kernel
theorem zwl_8 : ∀ k, k < 21 → zwl k ≤ 8 := by decide +kernel
theorem zkey_inj : ∀ k, k < 21 → ∀ j, j < 21 → zkey k = zkey j → k = j := by decide +kernel
theorem zky_ok : ((List.range 21).all fun k => decide (mz_rl mz_h2.2 246 k = lN (zkey k))) = true := by decide +kernel
theorem zky_m {m : MzM} (h : zKy m) {k : Nat} (hk : k < 21) : mz_rl m 246 k = lN (zkey k) := by
  have e := zky_ok
  rw [← mz_m0_eq] at e
  have := of_decide_eq_true (List.all_eq_true.mp e k (List.mem_range.mpr hk))
  unfold mz_rl
  rw [h]
  exact this
section ZToks
variable {P : Nat → Bool} {b : Nat → Nat} {s : Nat}
theorem zRe_go {p : Nat} (h : p < s) (k : P (b p) = true) : zRe P b s p = zRe P b s (p + 1) := by
  unfold zRe
  rw [show s - p = (s - (p + 1)) + 1 by omega]
  show (if p < s ∧ P (b p) = true then zrn P b s (s - (p + 1)) (p + 1) else p) = _
  rw [if_pos ⟨h, k⟩]
theorem zRe_no {p : Nat} (h : ¬ (p < s ∧ P (b p) = true)) : zRe P b s p = p := by
  unfold zRe
  match s - p with
  | 0 => rfl
  | f + 1 =>
    show (if p < s ∧ P (b p) = true then zrn P b s f (p + 1) else p) = p
    rw [if_neg h]
theorem zRe_b : ∀ (f p : Nat), s - p = f → p ≤ zRe P b s p ∧ (p ≤ s → zRe P b s p ≤ s) ∧ (∀ i, p ≤ i → i < zRe P b s p → i < s ∧ P (b i) = true) ∧ ¬ (zRe P b s p < s ∧ P (b (zRe P b s p)) = true) := by
  intro f
  induction f with
  | zero =>
    intro p e
    rw [zRe_no (by omega)]
    exact ⟨Nat.le_refl _, fun z => z, fun i a c => absurd c (by omega), by omega⟩
  | succ f ih =>
    intro p e
    by_cases c : p < s ∧ P (b p) = true
    · rw [zRe_go c.1 c.2]
      obtain ⟨a1, a2, a3, a4⟩ := ih (p + 1) (by omega)
      refine ⟨by omega, fun z => a2 (by omega), fun i p1 p2 => ?_, a4⟩
      by_cases e2 : i = p
      · rw [e2]; exact c
      · exact a3 i (by omega) p2
    · rw [zRe_no c]
      exact ⟨Nat.le_refl _, fun z => z, fun i a c => absurd c (by omega), c⟩
theorem zRe_1 {p : Nat} : p ≤ zRe P b s p := (zRe_b _ p rfl).1
theorem zRe_2 {p : Nat} (h : p ≤ s) : zRe P b s p ≤ s := (zRe_b _ p rfl).2.1 h
theorem zRe_3 {p i : Nat} (h : p ≤ i) (h2 : i < zRe P b s p) : i < s ∧ P (b i) = true := (zRe_b _ p rfl).2.2.1 i h h2
theorem zRe_s (h : P (b s) = true ∨ True) : zRe P b s s = s := zRe_no (by omega)
theorem znum_lt {q : Nat} : ∀ n, (∀ i, i < n → zdi (b (q + i)) = true) → znum b q n < 10 ^ n := by
  intro n
  induction n with
  | zero => intro _; exact Nat.lt_add_one 0
  | succ n ih =>
    intro h
    have i1 := ih (fun i hi => h i (by omega))
    have i2 := of_decide_eq_true (h n (by omega))
    have e : 10 ^ (n + 1) = 10 ^ n * 10 := Nat.pow_succ 10 n
    show znum b q n * 10 + (b (q + n) - 48) < 10 ^ (n + 1)
    omega
theorem zvq_lt {q : Nat} : zvq b s q < 10000 := by
  unfold zvq
  by_cases c : zRe zdi b s q - q ≤ 4
  · rw [if_pos c]
    have h := znum_lt (b := b) (q := q) (zRe zdi b s q - q) (fun i hi => (zRe_3 (s := s) (p := q) (by omega) (by omega)).2)
    have e : 10 ^ (zRe zdi b s q - q) ≤ 10 ^ 4 := Nat.pow_le_pow_right (by omega) c
    have e4 : 10 ^ 4 = 10000 := rfl
    omega
  · rw [if_neg c]; omega
theorem zcode_lt {q : Nat} : ∀ n, (∀ i, i < n → zle (b (q + i)) = true) → zcode 32 b q n < 32 ^ n ∧ zcode 27 b q n < 32 ^ n := by
  intro n
  induction n with
  | zero => intro _; exact ⟨Nat.lt_add_one 0, Nat.lt_add_one 0⟩
  | succ n ih =>
    intro h
    obtain ⟨i1, i1'⟩ := ih (fun i hi => h i (by omega))
    have i2 := of_decide_eq_true (h n (by omega))
    have e : 32 ^ (n + 1) = 32 ^ n * 32 := Nat.pow_succ 32 n
    refine ⟨?_, ?_⟩
    · show zcode 32 b q n * 32 + (b (q + n) - 96) < 32 ^ (n + 1)
      omega
    · show zcode 27 b q n * 27 + (b (q + n) - 96) < 32 ^ (n + 1)
      omega
theorem zcode_63 {q n : Nat} (h : ∀ i, i < n → zle (b (q + i)) = true) (l : n ≤ 8) : zcode 32 b q n < 2 ^ 63 ∧ zcode 27 b q n < 2 ^ 63 := by
  have k := zcode_lt n h
  have e : 32 ^ n ≤ 32 ^ 8 := Nat.pow_le_pow_right (by omega) l
  have e8 : 32 ^ 8 < 2 ^ 63 := by decide
  exact ⟨by omega, by omega⟩
theorem zcode_i27 {b' : Nat → Nat} {q q' : Nat} : ∀ n n', (∀ i, i < n → zle (b (q + i)) = true) → (∀ i, i < n' → zle (b' (q' + i)) = true) → zcode 27 b q n = zcode 27 b' q' n' → n = n' ∧ ∀ i, i < n → b (q + i) = b' (q' + i) := by
  intro n
  induction n with
  | zero =>
    intro n' _ h' e
    match n' with
    | 0 => exact ⟨rfl, fun i hi => absurd hi (by omega)⟩
    | n' + 1 =>
      have i2 := of_decide_eq_true (h' n' (by omega))
      have e : 0 = zcode 27 b' q' n' * 27 + (b' (q' + n') - 96) := e
      omega
  | succ n ih =>
    intro n' h h' e
    have i1 := of_decide_eq_true (h n (by omega))
    match n' with
    | 0 =>
      have e : zcode 27 b q n * 27 + (b (q + n) - 96) = 0 := e
      omega
    | n' + 1 =>
      have i2 := of_decide_eq_true (h' n' (by omega))
      have e : zcode 27 b q n * 27 + (b (q + n) - 96) = zcode 27 b' q' n' * 27 + (b' (q' + n') - 96) := e
      obtain ⟨a1, a2⟩ := ih n' (fun i hi => h i (by omega)) (fun i hi => h' i (by omega)) (by omega)
      refine ⟨by omega, fun i hi => ?_⟩
      by_cases c : i = n
      · subst c; subst a1; omega
      · exact a2 i (by omega)
theorem zcode_i32 {b' : Nat → Nat} {q q' : Nat} : ∀ n n', (∀ i, i < n → zle (b (q + i)) = true) → (∀ i, i < n' → zle (b' (q' + i)) = true) → zcode 32 b q n = zcode 32 b' q' n' → n = n' ∧ ∀ i, i < n → b (q + i) = b' (q' + i) := by
  intro n
  induction n with
  | zero =>
    intro n' _ h' e
    match n' with
    | 0 => exact ⟨rfl, fun i hi => absurd hi (by omega)⟩
    | n' + 1 =>
      have i2 := of_decide_eq_true (h' n' (by omega))
      have e : 0 = zcode 32 b' q' n' * 32 + (b' (q' + n') - 96) := e
      omega
  | succ n ih =>
    intro n' h h' e
    have i1 := of_decide_eq_true (h n (by omega))
    match n' with
    | 0 =>
      have e : zcode 32 b q n * 32 + (b (q + n) - 96) = 0 := e
      omega
    | n' + 1 =>
      have i2 := of_decide_eq_true (h' n' (by omega))
      have e : zcode 32 b q n * 32 + (b (q + n) - 96) = zcode 32 b' q' n' * 32 + (b' (q' + n') - 96) := e
      obtain ⟨a1, a2⟩ := ih n' (fun i hi => h i (by omega)) (fun i hi => h' i (by omega)) (by omega)
      refine ⟨by omega, fun i hi => ?_⟩
      by_cases c : i = n
      · subst c; subst a1; omega
      · exact a2 i (by omega)
theorem zcode_eq {B : Nat} {b' : Nat → Nat} {q q' : Nat} : ∀ n, (∀ i, i < n → b (q + i) = b' (q' + i)) → zcode B b q n = zcode B b' q' n := by
  intro n
  induction n with
  | zero => intro _; rfl
  | succ n ih =>
    intro h
    show zcode B b q n * B + (b (q + n) - 96) = zcode B b' q' n * B + (b' (q' + n) - 96)
    rw [ih (fun i hi => h i (by omega)), h n (by omega)]
/-- a column holds just these letters -/
theorem zkey_iff {q n k : Nat} (hk : k < 21) (h : ∀ i, i < n → zle (b (q + i)) = true) (l : n ≤ 8) : (∀ i, i < 8 → zcol k i = if i < n then b (q + i) else 32) ↔ zkey k = zcode 27 b q n := by
  have w8 := zwl_8 k hk
  have cl : ∀ i, i < zwl k → zle (zcol k (0 + i)) = true := fun i hi => by
    rw [Nat.zero_add]
    exact decide_eq_true ((zcol_ok k hk i (by omega)).2.1 hi)
  refine ⟨fun g => ?_, fun g => ?_⟩
  · have nw : n = zwl k := by
      rcases Nat.lt_trichotomy n (zwl k) with c | c | c
      · have := g n (by omega)
        rw [if_neg (by omega)] at this
        have := (zcol_ok k hk n (by omega)).2.1 c
        omega
      · exact c
      · have := g (zwl k) (by omega)
        rw [if_pos c, (zcol_ok k hk (zwl k) (by omega)).2.2 (Nat.le_refl _)] at this
        have := of_decide_eq_true (h (zwl k) c)
        omega
    unfold zkey
    rw [← nw]
    refine zcode_eq n (fun i hi => ?_)
    have := g i (by omega)
    rw [if_pos hi] at this
    rw [Nat.zero_add]
    exact this
  · obtain ⟨a1, a2⟩ := zcode_i27 _ _ cl h g
    intro i hi
    by_cases c : i < n
    · rw [if_pos c]
      have := a2 i (by omega)
      rw [Nat.zero_add] at this
      exact this
    · rw [if_neg c]
      exact (zcol_ok k hk i hi).2.2 (by omega)
theorem zwn_lt {c k : Nat} (h : zwn c = some k) : k < 21 ∧ zkey k = c := by
  have := zff_lt 21 0 k h
  exact ⟨by omega, of_decide_eq_true this.2.2⟩
theorem zsg_lt {c : Nat} : 1 ≤ zsg c ∧ zsg c < 13 := by
  unfold zsg
  repeat' split
  all_goals omega
theorem zkq_lt {q : Nat} : zkq b s q < 34 := by
  unfold zkq
  by_cases c : s ≤ q
  · rw [if_pos c]; omega
  · rw [if_neg c]
    by_cases c1 : zle (b q) = true
    · rw [if_pos c1]
      by_cases c2 : 8 < zRe zle b s q - q
      · rw [if_pos c2]; omega
      · rw [if_neg c2]
        match ho : zwn (zcode 27 b q (zRe zle b s q - q)) with
        | none => show 2 < 34; omega
        | some k =>
          have := (zwn_lt ho).1
          show 13 + k < 34
          omega
    · rw [if_neg c1]
      by_cases c2 : zdi (b q) = true
      · rw [if_pos c2]
        by_cases c3 : 4 < zRe zdi b s q - q
        · rw [if_pos c3]; omega
        · rw [if_neg c3]; omega
      · rw [if_neg c2]
        have := zsg_lt (c := b q)
        omega
theorem zkq_0 {q : Nat} : zkq b s q = 0 ↔ s ≤ q := by
  unfold zkq
  by_cases c : s ≤ q
  · rw [if_pos c]; exact ⟨fun _ => c, fun _ => rfl⟩
  · rw [if_neg c]
    refine ⟨fun z => ?_, fun z => absurd z c⟩
    by_cases c1 : zle (b q) = true
    · rw [if_pos c1] at z
      by_cases c2 : 8 < zRe zle b s q - q
      · rw [if_pos c2] at z; omega
      · rw [if_neg c2] at z
        match ho : zwn (zcode 27 b q (zRe zle b s q - q)) with
        | none => rw [ho] at z; exact absurd z (by decide)
        | some k =>
          rw [ho] at z
          have z : 13 + k = 0 := z
          omega
    · rw [if_neg c1] at z
      by_cases c2 : zdi (b q) = true
      · rw [if_pos c2] at z
        by_cases c3 : 4 < zRe zdi b s q - q
        · rw [if_pos c3] at z; omega
        · rw [if_neg c3] at z; omega
      · rw [if_neg c2] at z
        have := zsg_lt (c := b q)
        omega
theorem znx_le {q : Nat} (h : q ≤ s) : q ≤ znx b s q ∧ znx b s q ≤ s ∧ (q < s → q < znx b s q) := by
  unfold znx
  by_cases c : s ≤ q
  · rw [if_pos c]; exact ⟨Nat.le_refl _, h, fun z => absurd z (by omega)⟩
  · rw [if_neg c]
    by_cases c1 : zle (b q) = true
    · rw [if_pos c1]
      have e := zRe_go (P := zle) (b := b) (s := s) (p := q) (by omega) c1
      have := zRe_1 (P := zle) (b := b) (s := s) (p := q + 1)
      exact ⟨zRe_1, zRe_2 h, fun _ => by omega⟩
    · rw [if_neg c1]
      by_cases c2 : zdi (b q) = true
      · rw [if_pos c2]
        have e := zRe_go (P := zdi) (b := b) (s := s) (p := q) (by omega) c2
        have := zRe_1 (P := zdi) (b := b) (s := s) (p := q + 1)
        exact ⟨zRe_1, zRe_2 h, fun _ => by omega⟩
      · rw [if_neg c2]; exact ⟨by omega, by omega, fun _ => by omega⟩
theorem zps_le : ∀ j, zps b s j ≤ s := by
  intro j
  induction j with
  | zero => exact Nat.zero_le _
  | succ j ih => exact (znx_le (zRe_2 ih)).2.1
theorem zplc_le {j : Nat} : zplc b s j ≤ s := zRe_2 (zps_le j)
theorem zplc_s {j : Nat} (h : s ≤ zplc b s j) : zplc b s (j + 1) = s := by
  have e : zplc b s j = s := Nat.le_antisymm zplc_le h
  show zRe zbl b s (znx b s (zplc b s j)) = s
  rw [e]
  have : znx b s s = s := if_pos (Nat.le_refl s)
  rw [this]
  exact zRe_no (by omega)
theorem zkd_z {i : Nat} (h : zkd b s i = 0) : ∀ j, i ≤ j → zkd b s j = 0 := by
  intro j hj
  unfold zkd at h ⊢
  by_cases c : j < 402
  · rw [if_pos c]
    rw [if_pos (by omega)] at h
    have h := zkq_0.mp h
    have g : ∀ k, s ≤ zplc b s (i + k) := by
      intro k
      induction k with
      | zero => exact h
      | succ k ih => rw [show i + (k + 1) = i + k + 1 by omega, zplc_s ih]; exact Nat.le_refl _
    have := g (j - i)
    rw [show i + (j - i) = j by omega] at this
    exact zkq_0.mpr this
  · rw [if_neg c]
theorem zplc_lt {i : Nat} (h : zplc b s i < s) : zplc b s i < zplc b s (i + 1) := by
  have a := (znx_le (b := b) (s := s) (q := zplc b s i) zplc_le).2.2 h
  have c := zRe_1 (P := zbl) (b := b) (s := s) (p := znx b s (zplc b s i))
  show zplc b s i < zRe zbl b s (znx b s (zplc b s i))
  omega
theorem zplc_m {i j : Nat} (h : i < j) (k : ∀ q, q < j → zplc b s q < s) : zplc b s i < zplc b s j := by
  have g : ∀ n, i + n < j → zplc b s i < zplc b s (i + n + 1) := by
    intro n
    induction n with
    | zero => intro z; exact zplc_lt (k i (by omega))
    | succ n ih =>
      intro z
      have a := ih (by omega)
      have c := zplc_lt (k (i + n + 1) (by omega))
      rw [show i + (n + 1) + 1 = i + n + 1 + 1 by omega]
      omega
  have := g (j - i - 1) (by omega)
  rw [show i + (j - i - 1) + 1 = j by omega] at this
  exact this
/-- a name -/
theorem zkq_2 {q : Nat} (h : zkq b s q = 2) : q < s ∧ zRe zle b s q - q ≤ 8 ∧ ∀ i, i < zRe zle b s q - q → zle (b (q + i)) = true := by
  have l3 : ∀ i, i < zRe zle b s q - q → zle (b (q + i)) = true := fun i hi => (zRe_3 (s := s) (p := q) (by omega) (by omega)).2
  unfold zkq at h
  by_cases c : s ≤ q
  · rw [if_pos c] at h; omega
  · rw [if_neg c] at h
    refine ⟨by omega, ?_, l3⟩
    by_cases c1 : zle (b q) = true
    · rw [if_pos c1] at h
      by_cases c2 : 8 < zRe zle b s q - q
      · rw [if_pos c2] at h; omega
      · omega
    · rw [zRe_no (P := zle) (fun z => c1 z.2)]
      omega
theorem zkd_2 {j : Nat} (h : zkd b s j = 2) : zkq b s (zplc b s j) = 2 := by
  unfold zkd at h
  by_cases c : j < 402
  · rw [if_pos c] at h; exact h
  · rw [if_neg c] at h; omega
theorem znm_iff {i j : Nat} (hi : zkd b s i = 2) (hj : zkd b s j = 2) : znm 32 b s i = znm 32 b s j ↔ znm 27 b s i = znm 27 b s j := by
  obtain ⟨_, _, a⟩ := zkq_2 (zkd_2 hi)
  obtain ⟨_, _, c⟩ := zkq_2 (zkd_2 hj)
  unfold znm
  refine ⟨fun e => ?_, fun e => ?_⟩
  · obtain ⟨n1, n2⟩ := zcode_i32 _ _ a c e
    rw [← n1]
    exact zcode_eq _ n2
  · obtain ⟨n1, n2⟩ := zcode_i27 _ _ a c e
    rw [← n1]
    exact zcode_eq _ n2
theorem znm_63 {i : Nat} (hi : zkd b s i = 2) : znm 32 b s i < 2 ^ 63 ∧ znm 27 b s i < 2 ^ 63 := by
  obtain ⟨_, l, a⟩ := zkq_2 (zkd_2 hi)
  exact zcode_63 a l
end ZToks
