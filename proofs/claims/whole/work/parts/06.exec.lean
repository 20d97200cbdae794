def mz_lc : List Value → MzL
  | [] => []
  | v :: vs => if v.category = 2 then some v :: none :: mz_lc vs else some v :: mz_lc vs
def mz_en (n : Nat) (vs : List Value) : MzL := mz_lc vs ++ List.replicate (n - (mz_lc vs).length) none
def mz_ko (rt : Option FieldType) (vs : List Value) : Bool := match rt, vs with
  | none, [] => true
  | some .int, [.int _] => true
  | some .boolean, [.int v] => decide (v = 0 ∨ v = 1)
  | some .long, [.long _] => true
  | _, _ => false
def mz_dc (M N d : Nat) (vs : List Value) : Option Nat := if (mz_lc vs).length ≤ mz_xl N then (if mz_hg N < mz_hg M then some d else match d with
  | 0 => none
  | d + 1 => if mz_hg N < mz_hg M + 32 then some d else none) else none
abbrev MzR : Type := Option (List Value × MzH)
def mz_ex (X : MzX) : Nat → Nat → Nat → Nat → MzL → List Value → MzH → MzR
  | 0, _, _, _, _, _, _ => none
  | n + 1, d, M, pc, L, st, h => match mz_fd (mz_code M) pc with
    | none => none
    | some e => match mz_act X e.2.1 e.2.2.2.1 pc (mz_mask e.2.2.2.2 L) st h with
      | none => none
      | some (.inl q) => mz_ex X n d M q.1 q.2.1 q.2.2.1 q.2.2.2
      | some (.inr (.inl q)) => (match mz_dc M q.1 d q.2.1 with
        | none => none
        | some d' => match mz_ex X n d' q.1 0 (mz_en (mz_xl q.1) q.2.1) [] h with
          | none => none
          | some u => mz_ex X n d M (pc + 3) (mz_mask e.2.2.2.2 L) (u.1 ++ q.2.2) u.2)
      | some (.inr (.inr vs)) => if mz_ko (mz_rt M) vs = true then some (vs, h) else none
theorem mz_ex_mono (X : MzX) : ∀ (n d M pc : Nat) (L : MzL) (st : List Value) (h : MzH) (r : List Value × MzH), mz_ex X n d M pc L st h = some r → mz_ex X (n + 1) d M pc L st h = some r := by
  intro n
  induction n with
  | zero => intro d M pc L st h r H; simp [mz_ex] at H
  | succ n ih =>
    intro d M pc L st h r H
    rw [mz_ex] at H ⊢
    cases he : mz_fd (mz_code M) pc with
    | none => rw [he] at H; cases H
    | some e =>
      rw [he] at H
      dsimp only at H ⊢
      cases ha : mz_act X e.2.1 e.2.2.2.1 pc (mz_mask e.2.2.2.2 L) st h with
      | none => rw [ha] at H; cases H
      | some a =>
        rw [ha] at H
        rcases a with q | q | vs
        · dsimp only at H ⊢
          exact ih _ _ _ _ _ _ _ H
        · dsimp only at H ⊢
          cases hd : mz_dc M q.1 d q.2.1 with
          | none => rw [hd] at H; cases H
          | some d' =>
            rw [hd] at H
            dsimp only at H ⊢
            cases hx : mz_ex X n d' q.1 0 (mz_en (mz_xl q.1) q.2.1) [] h with
            | none => rw [hx] at H; cases H
            | some u =>
              rw [hx] at H
              rw [ih _ _ _ _ _ _ _ hx]
              exact ih _ _ _ _ _ _ _ H
        · exact H
theorem mz_ex_le (X : MzX) {n k d M pc : Nat} {L : MzL} {st : List Value} {h : MzH} {r : List Value × MzH} (H : mz_ex X n d M pc L st h = some r) (hk : n ≤ k) : mz_ex X k d M pc L st h = some r := by
  induction hk with
  | refl => exact H
  | step _ ih => exact mz_ex_mono X _ _ _ _ _ _ _ _ ih
theorem mz_ex_det (X : MzX) {n k d M pc : Nat} {L : MzL} {st : List Value} {h : MzH} {r u : List Value × MzH} (H : mz_ex X n d M pc L st h = some r) (K : mz_ex X k d M pc L st h = some u) : r = u := by
  have h1 := mz_ex_le X H (Nat.le_max_left n k)
  have h2 := mz_ex_le X K (Nat.le_max_right n k)
  exact Option.some.inj (h1.symm.trans h2)
/-- the answer, whatever the number of steps -/
noncomputable def mz_At (X : MzX) (d M pc : Nat) (L : MzL) (st : List Value) (h : MzH) : MzR :=
  @dite MzR (∃ r, ∃ n, mz_ex X n d M pc L st h = some r) (Classical.propDecidable _) (fun H => some H.choose) (fun _ => none)
theorem mz_At_iff (X : MzX) {d M pc : Nat} {L : MzL} {st : List Value} {h : MzH} {r : List Value × MzH} : mz_At X d M pc L st h = some r ↔ ∃ n, mz_ex X n d M pc L st h = some r := by
  unfold mz_At
  by_cases H : ∃ r, ∃ n, mz_ex X n d M pc L st h = some r
  · rw [dif_pos H]
    constructor
    · intro e
      have := H.choose_spec
      rw [Option.some.inj e] at this
      exact this
    · rintro ⟨n, hn⟩
      obtain ⟨k, hk⟩ := H.choose_spec
      rw [mz_ex_det X hk hn]
  · rw [dif_neg H]
    constructor
    · intro e; cases e
    · rintro ⟨n, hn⟩; exact absurd ⟨r, n, hn⟩ H
theorem mz_At_ext (X : MzX) {d M pc d2 M2 pc2 : Nat} {L L2 : MzL} {st st2 : List Value} {h h2 : MzH} (H : ∀ r, (∃ n, mz_ex X n d M pc L st h = some r) ↔ ∃ n, mz_ex X n d2 M2 pc2 L2 st2 h2 = some r) : mz_At X d M pc L st h = mz_At X d2 M2 pc2 L2 st2 h2 := by
  apply Option.ext
  intro r
  rw [mz_At_iff, mz_At_iff]
  exact H r
theorem mz_At_nx (X : MzX) {d M pc : Nat} {L : MzL} {st : List Value} {h : MzH} {e : MzE} {q : Nat × MzL × List Value × MzH} (he : mz_fd (mz_code M) pc = some e) (ha : mz_act X e.2.1 e.2.2.2.1 pc (mz_mask e.2.2.2.2 L) st h = some (.inl q)) :
    mz_At X d M pc L st h = mz_At X d M q.1 q.2.1 q.2.2.1 q.2.2.2 := by
  apply mz_At_ext
  intro r
  constructor
  · rintro ⟨n, hn⟩
    cases n with
    | zero => simp [mz_ex] at hn
    | succ n =>
      rw [mz_ex, he] at hn
      dsimp only at hn
      rw [ha] at hn
      exact ⟨n, hn⟩
  · rintro ⟨n, hn⟩
    refine ⟨n + 1, ?_⟩
    rw [mz_ex, he]
    dsimp only
    rw [ha]
    exact hn
theorem mz_At_no (X : MzX) {d M pc : Nat} {L : MzL} {st : List Value} {h : MzH} {e : MzE} (he : mz_fd (mz_code M) pc = some e) (ha : mz_act X e.2.1 e.2.2.2.1 pc (mz_mask e.2.2.2.2 L) st h = none) : mz_At X d M pc L st h = none := by
  cases H : mz_At X d M pc L st h with
  | none => rfl
  | some r =>
    obtain ⟨n, hn⟩ := (mz_At_iff X).mp H
    cases n with
    | zero => simp [mz_ex] at hn
    | succ n =>
      rw [mz_ex, he] at hn
      dsimp only at hn
      rw [ha] at hn
      cases hn
theorem mz_At_rt (X : MzX) {d M pc : Nat} {L : MzL} {st : List Value} {h : MzH} {e : MzE} {vs : List Value} (he : mz_fd (mz_code M) pc = some e) (ha : mz_act X e.2.1 e.2.2.2.1 pc (mz_mask e.2.2.2.2 L) st h = some (.inr (.inr vs))) :
    mz_At X d M pc L st h = if mz_ko (mz_rt M) vs = true then some (vs, h) else none := by
  apply Option.ext
  intro r
  rw [mz_At_iff]
  constructor
  · rintro ⟨n, hn⟩
    cases n with
    | zero => simp [mz_ex] at hn
    | succ n =>
      rw [mz_ex, he] at hn
      dsimp only at hn
      rw [ha] at hn
      exact hn
  · intro hn
    refine ⟨1, ?_⟩
    rw [mz_ex, he]
    dsimp only
    rw [ha]
    exact hn
noncomputable def mz_run (X : MzX) (d N : Nat) (vs : List Value) (h : MzH) : MzR := mz_At X d N 0 (mz_en (mz_xl N) vs) [] h
theorem mz_At_cl (X : MzX) {d d' M pc : Nat} {L : MzL} {st : List Value} {h : MzH} {e : MzE} {q : Nat × List Value × List Value} (he : mz_fd (mz_code M) pc = some e) (ha : mz_act X e.2.1 e.2.2.2.1 pc (mz_mask e.2.2.2.2 L) st h = some (.inr (.inl q))) (hd : mz_dc M q.1 d q.2.1 = some d') :
    mz_At X d M pc L st h = (mz_run X d' q.1 q.2.1 h).bind (fun u => mz_At X d M (pc + 3) (mz_mask e.2.2.2.2 L) (u.1 ++ q.2.2) u.2) := by
  apply Option.ext
  intro r
  rw [mz_At_iff, Option.bind_eq_some_iff]
  constructor
  · rintro ⟨n, hn⟩
    cases n with
    | zero => simp [mz_ex] at hn
    | succ n =>
      rw [mz_ex, he] at hn
      dsimp only at hn
      rw [ha] at hn
      dsimp only at hn
      rw [hd] at hn
      dsimp only at hn
      cases hx : mz_ex X n d' q.1 0 (mz_en (mz_xl q.1) q.2.1) [] h with
      | none => rw [hx] at hn; cases hn
      | some u =>
        rw [hx] at hn
        exact ⟨u, (mz_At_iff X).mpr ⟨n, hx⟩, (mz_At_iff X).mpr ⟨n, hn⟩⟩
  · rintro ⟨u, hu, hr⟩
    obtain ⟨n, hn⟩ := (mz_At_iff X).mp hu
    obtain ⟨k, hk⟩ := (mz_At_iff X).mp hr
    refine ⟨max n k + 1, ?_⟩
    rw [mz_ex, he]
    dsimp only
    rw [ha]
    dsimp only
    rw [hd]
    dsimp only
    rw [mz_ex_le X hn (Nat.le_max_left n k)]
    exact mz_ex_le X hk (Nat.le_max_right n k)
theorem mz_ex_ko (X : MzX) : ∀ (n d M pc : Nat) (L : MzL) (st : List Value) (h : MzH) (r : List Value × MzH), mz_ex X n d M pc L st h = some r → mz_ko (mz_rt M) r.1 = true := by
  intro n
  induction n with
  | zero => intro d M pc L st h r H; simp [mz_ex] at H
  | succ n ih =>
    intro d M pc L st h r H
    rw [mz_ex] at H
    cases he : mz_fd (mz_code M) pc with
    | none => rw [he] at H; cases H
    | some e =>
      rw [he] at H
      dsimp only at H
      cases ha : mz_act X e.2.1 e.2.2.2.1 pc (mz_mask e.2.2.2.2 L) st h with
      | none => rw [ha] at H; cases H
      | some a =>
        rw [ha] at H
        rcases a with q | q | vs
        · dsimp only at H
          exact ih _ _ _ _ _ _ _ H
        · dsimp only at H
          cases hd : mz_dc M q.1 d q.2.1 with
          | none => rw [hd] at H; cases H
          | some d' =>
            rw [hd] at H
            dsimp only at H
            cases hx : mz_ex X n d' q.1 0 (mz_en (mz_xl q.1) q.2.1) [] h with
            | none => rw [hx] at H; cases H
            | some u =>
              rw [hx] at H
              exact ih _ _ _ _ _ _ _ H
        · dsimp only at H
          by_cases hk : mz_ko (mz_rt M) vs = true
          · rw [if_pos hk] at H
            cases H
            exact hk
          · rw [if_neg hk] at H
            cases H
