/-! a run that reads no script is the same with any script -/
theorem mz_act_lift {x : (Nat → Int32) × Nat} {i : Instr} {r : Nat × Nat × Nat} {pc : Nat} {L : MzL} {st : List Value} {h : MzH} {a : (Nat × MzL × List Value × MzH) ⊕ ((Nat × List Value × List Value) ⊕ List Value)} (ha : mz_act none i r pc L st h = some a) : mz_act (some x) i r pc L st h = some a := by
  cases i with
  | arraylength =>
    cases st with
    | nil => cases ha
    | cons v st =>
      cases v with
      | ref b =>
        cases b with
        | zero => cases ha
        | succ b => exact ha
      | int _ => cases ha
      | long _ => cases ha
      | float _ => cases ha
      | double _ => cases ha
      | null => cases ha
      | retAddr _ => cases ha
  | iaload =>
    replace ha : (match (generalizing := false) st with
      | .int i :: .ref 0 :: st => (match (generalizing := false) (none : MzX) with
        | some x => if mz_ok i x.2 = true then mz_nx (pc + 1) L (.int (x.1 i.toNatClampNeg) :: st) h else none
        | none => none)
      | _ => mz_ld 0 0 pc L st h) = some a := ha
    show (match (generalizing := false) st with
      | .int i :: .ref 0 :: st => (match (generalizing := false) (some x : MzX) with
        | some x => if mz_ok i x.2 = true then mz_nx (pc + 1) L (.int (x.1 i.toNatClampNeg) :: st) h else none
        | none => none)
      | _ => mz_ld 0 0 pc L st h) = some a
    split at ha
    next => cases ha
    next hno => exact ha
  | _ => exact ha
theorem mz_ex_lift {x : (Nat → Int32) × Nat} : ∀ (n d M pc : Nat) (L : MzL) (st : List Value) (h : MzH) (r : List Value × MzH), mz_ex none n d M pc L st h = some r → mz_ex (some x) n d M pc L st h = some r := by
  intro n
  induction n with
  | zero => intro d M pc L st h r H; simp [mz_ex] at H
  | succ n ih =>
    intro d M pc L st h r H
    rw [mz_ex] at H ⊢
    cases he : mz_fd (mz_code M) pc with
    | none => rw [he] at H; cases H
    | some e =>
      rw [he] at H
      dsimp only at H ⊢
      cases ha : mz_act none e.2.1 e.2.2.2.1 pc (mz_mask e.2.2.2.2 L) st h with
      | none => rw [ha] at H; cases H
      | some a =>
        rw [ha] at H
        rw [mz_act_lift ha]
        rcases a with q | q | vs
        · dsimp only at H ⊢
          exact ih _ _ _ _ _ _ _ H
        · dsimp only at H ⊢
          cases hd : mz_dc M q.1 d q.2.1 with
          | none => rw [hd] at H; cases H
          | some d' =>
            rw [hd] at H
            dsimp only at H ⊢
            cases hx : mz_ex none n d' q.1 0 (mz_en (mz_xl q.1) q.2.1) [] h with
            | none => rw [hx] at H; cases H
            | some u =>
              rw [hx] at H
              rw [ih _ _ _ _ _ _ _ hx]
              exact ih _ _ _ _ _ _ _ H
        · exact H
theorem mz_run_lift {x : (Nat → Int32) × Nat} {d N : Nat} {vs : List Value} {h : MzH} {u : List Value × MzH} (H : mz_run none d N vs h = some u) : mz_run (some x) d N vs h = some u := by
  obtain ⟨n, hn⟩ := (mz_At_iff none).mp H
  exact (mz_At_iff (some x)).mpr ⟨n, mz_ex_lift n _ _ _ _ _ _ _ hn⟩
/-- an int answer of the shallow functions is the machine's, with any script -/
theorem mz_rI_run {x : (Nat → Int32) × Nat} {d N : Nat} {vs : List Value} {m m2 : MzM} {v : Int32} (hna : mz_na N = true) (H : mz_rI d N vs m = some (v, m2)) : mz_run (some x) d N vs (mz_S0, m) = some ([.int v], (mz_S0, m2)) := by
  unfold mz_rI at H
  cases hr : mz_run none d N vs (mz_S0, m) with
  | none => rw [hr] at H; cases H
  | some u =>
    rw [hr] at H
    have hk := (mz_run_keep hna hr).1
    obtain ⟨u1, u2⟩ := u
    unfold mz_cI at H
    split at H
    next w hh he =>
      cases he
      cases H
      rw [mz_run_lift hr]
      dsimp only at hk
      rw [hk]
    next => cases H
/-! THE LAW's own steps -/
section MzLaw
variable {x : (Nat → Int32) × Nat} {pc : Nat} {L L2 : MzL} {st : List Value} {h : MzH} {r : MzR} {ln : Nat}
theorem lq_o {ins : Instr} {rr : Nat × Nat × Nat} (he : mz_fd (mz_code 291) pc = some (pc, ins, ln, rr, [])) {pc2 : Nat} {st2 : List Value} (ha : mz_act (some x) ins rr pc L st h = some (.inl (pc2, L2, st2, h))) (k : mz_At (some x) 8 291 pc2 L2 st2 h = r) : mz_At (some x) 8 291 pc L st h = r := by
  refine (mz_At_nx (some x) he (q := (pc2, L2, st2, h)) ?_).trans k
  show mz_act (some x) ins rr pc (mz_mask [] L) st h = _
  rw [show mz_mask [] L = L from by cases L <;> rfl]
  exact ha
theorem lq_call {i N k t : Nat} {vs rest : List Value} {m m2 : MzM} {v : Int32} (he : mz_fd (mz_code 291) pc = some (pc, .invokevirtual i, ln, (N, k, t), [])) (hi : mz_act (some x) (.invokevirtual i) (N, k, t) pc L st (mz_S0, m) = some (.inr (.inl (N, vs, rest)))) (hdc : mz_dc 291 N 8 vs = some 8) (hna : mz_na N = true) (hr : mz_rI 8 N vs m = some (v, m2)) (kk : mz_At (some x) 8 291 (pc + 3) L (.int v :: rest) (mz_S0, m2) = r) : mz_At (some x) 8 291 pc L st (mz_S0, m) = r := by
  rw [mz_At_cl (some x) he (q := (N, vs, rest)) (by show mz_act (some x) (.invokevirtual i) (N, k, t) pc (mz_mask [] L) st (mz_S0, m) = _; rw [show mz_mask [] L = L from by cases L <;> rfl]; exact hi) hdc]
  rw [mz_rI_run hna hr]
  show mz_At (some x) 8 291 (pc + 3) (mz_mask [] L) (.int v :: rest) (mz_S0, m2) = r
  rw [show mz_mask [] L = L from by cases L <;> rfl]
  exact kk
end MzLaw
