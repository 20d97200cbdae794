section MzQ
variable {γ : Type} {cv : MzR → Option γ} {d M pc : Nat} {L L' : MzL} {st : List Value} {m : MzM} {r : Option γ} {ln : Nat} {mk : List Bool}
theorem q_s {e : MzE} (he : mz_fd (mz_code M) pc = some e) {pc' : Nat} {st' : List Value} {m' : MzM} (ha : mz_act none e.2.1 e.2.2.2.1 pc (mz_mask e.2.2.2.2 L) st (mz_S0, m) = some (.inl (pc', L', st', (mz_S0, m')))) (k : cv (mz_T d M pc' L' st' m') = r) : cv (mz_T d M pc L st m) = r := by
  rw [← k]
  exact congrArg cv (mz_At_nx none he ha)
theorem q_getI {i ci k kd a : Nat} (he : mz_fd (mz_code M) pc = some (pc, .getfield i, ln, (ci, k, kd), mk)) (hm : mz_mask mk L = L') (hk : kd = 0 ∨ kd = 1) (ht : mz_tag mz_S0 a = 6 + ci) (hl : k < mz_len mz_S0 a) (kk : cv (mz_T d M (pc + 3) L' (.int (mz_rd m a k) :: st) m) = r) : cv (mz_T d M pc L (.ref a :: st) m) = r := by
  refine q_s he (pc' := pc + 3) (st' := .int (mz_rd m a k) :: st) (m' := m) ?_ kk
  show mz_get (ci, k, kd) pc (mz_mask mk L) (.ref a :: st) (mz_S0, m) = _
  unfold mz_get
  dsimp only
  rw [if_pos ⟨ht, hl⟩, hm]
  rcases hk with rfl | rfl <;> rfl
theorem q_getR {i ci k a b : Nat} (he : mz_fd (mz_code M) pc = some (pc, .getfield i, ln, (ci, k, 2), mk)) (hm : mz_mask mk L = L') (ht : mz_tag mz_S0 a = 6 + ci) (hl : k < mz_len mz_S0 a) (hr : mz_S0.2 a k = some b) (kk : cv (mz_T d M (pc + 3) L' (.ref b :: st) m) = r) : cv (mz_T d M pc L (.ref a :: st) m) = r := by
  refine q_s he (pc' := pc + 3) (st' := .ref b :: st) (m' := m) ?_ kk
  show mz_get (ci, k, 2) pc (mz_mask mk L) (.ref a :: st) (mz_S0, m) = _
  unfold mz_get
  dsimp only
  rw [if_pos ⟨ht, hl⟩, hm, hr]
  rfl
theorem q_putI {i ci k a : Nat} {v : Int32} (he : mz_fd (mz_code M) pc = some (pc, .putfield i, ln, (ci, k, 0), mk)) (hm : mz_mask mk L = L') (ht : mz_tag mz_S0 a = 6 + ci) (hl : k < mz_len mz_S0 a) (kk : cv (mz_T d M (pc + 3) L' st (mz_wr m a k v)) = r) : cv (mz_T d M pc L (.int v :: .ref a :: st) m) = r := by
  refine q_s he (pc' := pc + 3) (st' := st) (m' := mz_wr m a k v) ?_ kk
  show mz_put (ci, k, 0) pc (mz_mask mk L) (.int v :: .ref a :: st) (mz_S0, m) = _
  unfold mz_put
  dsimp only
  rw [if_pos ⟨ht, hl, Or.inl rfl⟩, hm]
  rfl
theorem q_putZ {i ci k a : Nat} {v : Int32} (he : mz_fd (mz_code M) pc = some (pc, .putfield i, ln, (ci, k, 1), mk)) (hm : mz_mask mk L = L') (ht : mz_tag mz_S0 a = 6 + ci) (hl : k < mz_len mz_S0 a) (hv : v = 0 ∨ v = 1) (kk : cv (mz_T d M (pc + 3) L' st (mz_wr m a k v)) = r) : cv (mz_T d M pc L (.int v :: .ref a :: st) m) = r := by
  refine q_s he (pc' := pc + 3) (st' := st) (m' := mz_wr m a k v) ?_ kk
  show mz_put (ci, k, 1) pc (mz_mask mk L) (.int v :: .ref a :: st) (mz_S0, m) = _
  unfold mz_put
  dsimp only
  rw [if_pos ⟨ht, hl, Or.inr ⟨rfl, hv⟩⟩, hm]
  rfl
theorem mz_gT {b : Bool} {x y : Option γ} (h0 : cv none = none) {u : MzR} (h1 : b = true → cv u = x) (h2 : b = false → u = none) : cv u = mz_g b x := by
  cases b with
  | true => exact h1 rfl
  | false => rw [h2 rfl]; exact h0
theorem q_putZg {i ci k a : Nat} {v : Int32} (h0 : cv none = none) (he : mz_fd (mz_code M) pc = some (pc, .putfield i, ln, (ci, k, 1), mk)) (hm : mz_mask mk L = L') (ht : mz_tag mz_S0 a = 6 + ci) (hl : k < mz_len mz_S0 a) (kk : decide (v = 0 ∨ v = 1) = true → cv (mz_T d M (pc + 3) L' st (mz_wr m a k v)) = r) : cv (mz_T d M pc L (.int v :: .ref a :: st) m) = mz_g (decide (v = 0 ∨ v = 1)) r := by
  refine mz_gT (y := r) h0 (fun h => q_putZ he hm ht hl (of_decide_eq_true h) (kk h)) (fun h => mz_At_no none he ?_)
  show mz_put (ci, k, 1) pc (mz_mask mk L) (.int v :: .ref a :: st) (mz_S0, m) = _
  unfold mz_put
  dsimp only
  rw [if_neg (fun z => by rcases z.2.2 with z | z
                          · cases z
                          · exact absurd z.2 (of_decide_eq_false h))]
theorem q_iald {a n j : Nat} {i : Int32} (he : mz_fd (mz_code M) pc = some (pc, .iaload, ln, (0, 0, 0), mk)) (hm : mz_mask mk L = L') (ha : a ≠ 0) (ht : mz_tag mz_S0 a = 0) (hn : mz_len mz_S0 a = n) (hok : mz_ok i n = true) (hj : i.toNatClampNeg = j) (kk : cv (mz_T d M (pc + 1) L' (.int (mz_rd m a j) :: st) m) = r) : cv (mz_T d M pc L (.int i :: .ref a :: st) m) = r := by
  subst hj
  refine q_s he (pc' := pc + 1) (st' := .int (mz_rd m a i.toNatClampNeg) :: st) (m' := m) ?_ kk
  obtain ⟨b, rfl⟩ : ∃ b, a = b + 1 := ⟨a - 1, by omega⟩
  show mz_ld 0 0 pc (mz_mask mk L) (.int i :: .ref (b + 1) :: st) (mz_S0, m) = _
  unfold mz_ld
  dsimp only
  rw [hn, if_pos ⟨Or.inl ht, hok⟩, hm]
  rfl
theorem q_ialdg {a n : Nat} {i : Int32} (h0 : cv none = none) (he : mz_fd (mz_code M) pc = some (pc, .iaload, ln, (0, 0, 0), mk)) (hm : mz_mask mk L = L') (ha : a ≠ 0) (ht : mz_tag mz_S0 a = 0) (hn : mz_len mz_S0 a = n) (kk : mz_ok i n = true → cv (mz_T d M (pc + 1) L' (.int (mz_rd m a i.toNatClampNeg) :: st) m) = r) : cv (mz_T d M pc L (.int i :: .ref a :: st) m) = mz_g (mz_ok i n) r := by
  refine mz_gT (y := r) h0 (fun h => q_iald he hm ha ht hn h rfl (kk h)) (fun h => mz_At_no none he ?_)
  obtain ⟨b, rfl⟩ : ∃ b, a = b + 1 := ⟨a - 1, by omega⟩
  show mz_ld 0 0 pc (mz_mask mk L) (.int i :: .ref (b + 1) :: st) (mz_S0, m) = _
  unfold mz_ld
  dsimp only
  rw [hn, if_neg (fun z => by rw [h] at z; cases z.2)]
theorem q_bald {a n j : Nat} {i : Int32} (he : mz_fd (mz_code M) pc = some (pc, .baload, ln, (0, 0, 0), mk)) (hm : mz_mask mk L = L') (ht : mz_tag mz_S0 a = 1 ∨ mz_tag mz_S0 a = 2) (hn : mz_len mz_S0 a = n) (hok : mz_ok i n = true) (hj : i.toNatClampNeg = j) (kk : cv (mz_T d M (pc + 1) L' (.int (mz_rd m a j) :: st) m) = r) : cv (mz_T d M pc L (.int i :: .ref a :: st) m) = r := by
  subst hj
  refine q_s he (pc' := pc + 1) (st' := .int (mz_rd m a i.toNatClampNeg) :: st) (m' := m) ?_ kk
  show mz_ld 1 2 pc (mz_mask mk L) (.int i :: .ref a :: st) (mz_S0, m) = _
  unfold mz_ld
  dsimp only
  rw [hn, if_pos ⟨ht, hok⟩, hm]
  rfl
theorem q_baldg {a n : Nat} {i : Int32} (h0 : cv none = none) (he : mz_fd (mz_code M) pc = some (pc, .baload, ln, (0, 0, 0), mk)) (hm : mz_mask mk L = L') (ht : mz_tag mz_S0 a = 1 ∨ mz_tag mz_S0 a = 2) (hn : mz_len mz_S0 a = n) (kk : mz_ok i n = true → cv (mz_T d M (pc + 1) L' (.int (mz_rd m a i.toNatClampNeg) :: st) m) = r) : cv (mz_T d M pc L (.int i :: .ref a :: st) m) = mz_g (mz_ok i n) r := by
  refine mz_gT (y := r) h0 (fun h => q_bald he hm ht hn h rfl (kk h)) (fun h => mz_At_no none he ?_)
  show mz_ld 1 2 pc (mz_mask mk L) (.int i :: .ref a :: st) (mz_S0, m) = _
  unfold mz_ld
  dsimp only
  rw [hn, if_neg (fun z => by rw [h] at z; cases z.2)]
theorem q_sald {a n j : Nat} {i : Int32} (he : mz_fd (mz_code M) pc = some (pc, .saload, ln, (0, 0, 0), mk)) (hm : mz_mask mk L = L') (ht : mz_tag mz_S0 a = 3) (hn : mz_len mz_S0 a = n) (hok : mz_ok i n = true) (hj : i.toNatClampNeg = j) (kk : cv (mz_T d M (pc + 1) L' (.int (mz_rd m a j) :: st) m) = r) : cv (mz_T d M pc L (.int i :: .ref a :: st) m) = r := by
  subst hj
  refine q_s he (pc' := pc + 1) (st' := .int (mz_rd m a i.toNatClampNeg) :: st) (m' := m) ?_ kk
  show mz_ld 3 3 pc (mz_mask mk L) (.int i :: .ref a :: st) (mz_S0, m) = _
  unfold mz_ld
  dsimp only
  rw [hn, if_pos ⟨Or.inl ht, hok⟩, hm]
  rfl
theorem q_saldg {a n : Nat} {i : Int32} (h0 : cv none = none) (he : mz_fd (mz_code M) pc = some (pc, .saload, ln, (0, 0, 0), mk)) (hm : mz_mask mk L = L') (ht : mz_tag mz_S0 a = 3) (hn : mz_len mz_S0 a = n) (kk : mz_ok i n = true → cv (mz_T d M (pc + 1) L' (.int (mz_rd m a i.toNatClampNeg) :: st) m) = r) : cv (mz_T d M pc L (.int i :: .ref a :: st) m) = mz_g (mz_ok i n) r := by
  refine mz_gT (y := r) h0 (fun h => q_sald he hm ht hn h rfl (kk h)) (fun h => mz_At_no none he ?_)
  show mz_ld 3 3 pc (mz_mask mk L) (.int i :: .ref a :: st) (mz_S0, m) = _
  unfold mz_ld
  dsimp only
  rw [hn, if_neg (fun z => by rw [h] at z; cases z.2)]
theorem q_lald {a n j : Nat} {i : Int32} (he : mz_fd (mz_code M) pc = some (pc, .laload, ln, (0, 0, 0), mk)) (hm : mz_mask mk L = L') (ht : mz_tag mz_S0 a = 4) (hn : mz_len mz_S0 a = n) (hok : mz_ok i n = true) (hj : i.toNatClampNeg = j) (kk : cv (mz_T d M (pc + 1) L' (.long (mz_rl m a j) :: st) m) = r) : cv (mz_T d M pc L (.int i :: .ref a :: st) m) = r := by
  subst hj
  refine q_s he (pc' := pc + 1) (st' := .long (mz_rl m a i.toNatClampNeg) :: st) (m' := m) ?_ kk
  show (if mz_tag mz_S0 a = 4 ∧ mz_ok i (mz_len mz_S0 a) = true then mz_nx (pc + 1) (mz_mask mk L) (.long (mz_rl m a i.toNatClampNeg) :: st) (mz_S0, m) else none) = _
  rw [hn, if_pos ⟨ht, hok⟩, hm]
  rfl
theorem q_laldg {a n : Nat} {i : Int32} (h0 : cv none = none) (he : mz_fd (mz_code M) pc = some (pc, .laload, ln, (0, 0, 0), mk)) (hm : mz_mask mk L = L') (ht : mz_tag mz_S0 a = 4) (hn : mz_len mz_S0 a = n) (kk : mz_ok i n = true → cv (mz_T d M (pc + 1) L' (.long (mz_rl m a i.toNatClampNeg) :: st) m) = r) : cv (mz_T d M pc L (.int i :: .ref a :: st) m) = mz_g (mz_ok i n) r := by
  refine mz_gT (y := r) h0 (fun h => q_lald he hm ht hn h rfl (kk h)) (fun h => mz_At_no none he ?_)
  show (if mz_tag mz_S0 a = 4 ∧ mz_ok i (mz_len mz_S0 a) = true then mz_nx (pc + 1) (mz_mask mk L) (.long (mz_rl m a i.toNatClampNeg) :: st) (mz_S0, m) else none) = _
  rw [hn, if_neg (fun z => by rw [h] at z; cases z.2)]
theorem q_aald {a n b : Nat} {i : Int32} (he : mz_fd (mz_code M) pc = some (pc, .aaload, ln, (0, 0, 0), mk)) (hm : mz_mask mk L = L') (ht : mz_tag mz_S0 a = 5) (hn : mz_len mz_S0 a = n) (hok : mz_ok i n = true) (hb : mz_S0.2 a i.toNatClampNeg = some b) (kk : cv (mz_T d M (pc + 1) L' (.ref b :: st) m) = r) : cv (mz_T d M pc L (.int i :: .ref a :: st) m) = r := by
  refine q_s he (pc' := pc + 1) (st' := .ref b :: st) (m' := m) ?_ kk
  show (if mz_tag mz_S0 a = 5 ∧ mz_ok i (mz_len mz_S0 a) = true then (match mz_S0.2 a i.toNatClampNeg with
    | some q => mz_nx (pc + 1) (mz_mask mk L) (.ref q :: st) (mz_S0, m)
    | none => none) else none) = _
  rw [hn, if_pos ⟨ht, hok⟩, hm, hb]
  rfl
theorem q_aaldg {a n : Nat} {i : Int32} {F : Nat → Nat} (h0 : cv none = none) (he : mz_fd (mz_code M) pc = some (pc, .aaload, ln, (0, 0, 0), mk)) (hm : mz_mask mk L = L') (ht : mz_tag mz_S0 a = 5) (hn : mz_len mz_S0 a = n) (hF : ∀ j, j < n → mz_S0.2 a j = some (F j)) (kk : mz_ok i n = true → cv (mz_T d M (pc + 1) L' (.ref (F i.toNatClampNeg) :: st) m) = r) : cv (mz_T d M pc L (.int i :: .ref a :: st) m) = mz_g (mz_ok i n) r := by
  refine mz_gT (y := r) h0 (fun h => q_aald he hm ht hn h (hF _ (Nat.not_le.mp fun z => mz_ok_inv h (Or.inr z))) (kk h)) (fun h => mz_At_no none he ?_)
  show (if mz_tag mz_S0 a = 5 ∧ mz_ok i (mz_len mz_S0 a) = true then (match mz_S0.2 a i.toNatClampNeg with
    | some q => mz_nx (pc + 1) (mz_mask mk L) (.ref q :: st) (mz_S0, m)
    | none => none) else none) = _
  rw [hn, if_neg (fun z => by rw [h] at z; cases z.2)]
theorem q_stA {ins : Instr} {t : Nat} {f : Int32 → Int32} {a n j : Nat} {i x : Int32} (he : mz_fd (mz_code M) pc = some (pc, ins, ln, (0, 0, 0), mk)) (hact : ∀ L2, mz_act none ins (0, 0, 0) pc L2 (.int x :: .int i :: .ref a :: st) (mz_S0, m) = mz_st t f pc L2 (.int x :: .int i :: .ref a :: st) (mz_S0, m)) (hm : mz_mask mk L = L') (ht : mz_tag mz_S0 a = t) (hn : mz_len mz_S0 a = n) (hok : mz_ok i n = true) (hj : i.toNatClampNeg = j) (kk : cv (mz_T d M (pc + 1) L' st (mz_wr m a j (f x))) = r) : cv (mz_T d M pc L (.int x :: .int i :: .ref a :: st) m) = r := by
  subst hj
  refine q_s he (pc' := pc + 1) (st' := st) (m' := mz_wr m a i.toNatClampNeg (f x)) ?_ kk
  show mz_act none ins (0, 0, 0) pc (mz_mask mk L) _ _ = _
  rw [hact]
  unfold mz_st
  dsimp only
  rw [hn, if_pos ⟨ht, hok⟩, hm]
  rfl
theorem q_stAg {ins : Instr} {t : Nat} {f : Int32 → Int32} {a n : Nat} {i x : Int32} (h0 : cv none = none) (he : mz_fd (mz_code M) pc = some (pc, ins, ln, (0, 0, 0), mk)) (hact : ∀ L2, mz_act none ins (0, 0, 0) pc L2 (.int x :: .int i :: .ref a :: st) (mz_S0, m) = mz_st t f pc L2 (.int x :: .int i :: .ref a :: st) (mz_S0, m)) (hm : mz_mask mk L = L') (ht : mz_tag mz_S0 a = t) (hn : mz_len mz_S0 a = n) (kk : mz_ok i n = true → cv (mz_T d M (pc + 1) L' st (mz_wr m a i.toNatClampNeg (f x))) = r) : cv (mz_T d M pc L (.int x :: .int i :: .ref a :: st) m) = mz_g (mz_ok i n) r := by
  refine mz_gT (y := r) h0 (fun h => q_stA he hact hm ht hn h rfl (kk h)) (fun h => mz_At_no none he ?_)
  show mz_act none ins (0, 0, 0) pc (mz_mask mk L) _ _ = _
  rw [hact]
  unfold mz_st
  dsimp only
  rw [hn, if_neg (fun z => by rw [h] at z; cases z.2)]
theorem q_actZ {a : Nat} {i x : Int32} (ht : mz_tag mz_S0 a = 1) : ∀ L2, mz_act none .bastore (0, 0, 0) pc L2 (.int x :: .int i :: .ref a :: st) (mz_S0, m) = mz_st 1 (vp_nar .boolean) pc L2 (.int x :: .int i :: .ref a :: st) (mz_S0, m) := by
  intro L2
  show (match mz_tag mz_S0 a with
    | 1 => mz_st 1 (vp_nar .boolean) pc L2 (.int x :: .int i :: .ref a :: st) (mz_S0, m)
    | _ => mz_st 2 (vp_nar .byte) pc L2 (.int x :: .int i :: .ref a :: st) (mz_S0, m)) = _
  rw [ht]
  rfl
theorem q_actB {a : Nat} {i x : Int32} (ht : mz_tag mz_S0 a = 2) : ∀ L2, mz_act none .bastore (0, 0, 0) pc L2 (.int x :: .int i :: .ref a :: st) (mz_S0, m) = mz_st 2 (vp_nar .byte) pc L2 (.int x :: .int i :: .ref a :: st) (mz_S0, m) := by
  intro L2
  show (match mz_tag mz_S0 a with
    | 1 => mz_st 1 (vp_nar .boolean) pc L2 (.int x :: .int i :: .ref a :: st) (mz_S0, m)
    | _ => mz_st 2 (vp_nar .byte) pc L2 (.int x :: .int i :: .ref a :: st) (mz_S0, m)) = _
  rw [ht]
  rfl
theorem q_last {a n j : Nat} {i : Int32} {x : Int64} (he : mz_fd (mz_code M) pc = some (pc, .lastore, ln, (0, 0, 0), mk)) (hm : mz_mask mk L = L') (ht : mz_tag mz_S0 a = 4) (hn : mz_len mz_S0 a = n) (hok : mz_ok i n = true) (hj : i.toNatClampNeg = j) (kk : cv (mz_T d M (pc + 1) L' st (mz_wl m a j x)) = r) : cv (mz_T d M pc L (.long x :: .int i :: .ref a :: st) m) = r := by
  subst hj
  refine q_s he (pc' := pc + 1) (st' := st) (m' := mz_wl m a i.toNatClampNeg x) ?_ kk
  show (if mz_tag mz_S0 a = 4 ∧ mz_ok i (mz_len mz_S0 a) = true then mz_nx (pc + 1) (mz_mask mk L) st (mz_setm (mz_S0, m) (mz_wl m a i.toNatClampNeg x)) else none) = _
  rw [hn, if_pos ⟨ht, hok⟩, hm]
  rfl
theorem q_lastg {a n : Nat} {i : Int32} {x : Int64} (h0 : cv none = none) (he : mz_fd (mz_code M) pc = some (pc, .lastore, ln, (0, 0, 0), mk)) (hm : mz_mask mk L = L') (ht : mz_tag mz_S0 a = 4) (hn : mz_len mz_S0 a = n) (kk : mz_ok i n = true → cv (mz_T d M (pc + 1) L' st (mz_wl m a i.toNatClampNeg x)) = r) : cv (mz_T d M pc L (.long x :: .int i :: .ref a :: st) m) = mz_g (mz_ok i n) r := by
  refine mz_gT (y := r) h0 (fun h => q_last he hm ht hn h rfl (kk h)) (fun h => mz_At_no none he ?_)
  show (if mz_tag mz_S0 a = 4 ∧ mz_ok i (mz_len mz_S0 a) = true then mz_nx (pc + 1) (mz_mask mk L) st (mz_setm (mz_S0, m) (mz_wl m a i.toNatClampNeg x)) else none) = _
  rw [hn, if_neg (fun z => by rw [h] at z; cases z.2)]
theorem q_alen {a n : Nat} {v : Int32} (he : mz_fd (mz_code M) pc = some (pc, .arraylength, ln, (0, 0, 0), mk)) (hm : mz_mask mk L = L') (ha : a ≠ 0) (ht : mz_tag mz_S0 a < 6) (hn : mz_len mz_S0 a = n) (hv : Int32.ofNat n = v) (kk : cv (mz_T d M (pc + 1) L' (.int v :: st) m) = r) : cv (mz_T d M pc L (.ref a :: st) m) = r := by
  subst hv; subst hn
  refine q_s he (pc' := pc + 1) (st' := .int (Int32.ofNat (mz_len mz_S0 a)) :: st) (m' := m) ?_ kk
  obtain ⟨b, rfl⟩ : ∃ b, a = b + 1 := ⟨a - 1, by omega⟩
  show (if mz_tag mz_S0 (b + 1) < 6 then mz_nx (pc + 1) (mz_mask mk L) (.int (Int32.ofNat (mz_len mz_S0 (b + 1))) :: st) (mz_S0, m) else none) = _
  rw [if_pos ht, hm]
  rfl
theorem q_cpy {i a b na nb sj dj nj : Nat} {n dp sp : Int32} (he : mz_fd (mz_code M) pc = some (pc, .invokestatic i, ln, (9998, 0, 0), mk)) (hm : mz_mask mk L = L') (ta : mz_tag mz_S0 a = 0) (tb : mz_tag mz_S0 b = 0) (la : mz_len mz_S0 a = na) (lb : mz_len mz_S0 b = nb) (h1 : ¬ sp < 0 ∧ ¬ dp < 0 ∧ ¬ n < 0) (hs : sp.toNatClampNeg = sj) (hd : dp.toNatClampNeg = dj) (hn : n.toNatClampNeg = nj) (h2 : sj + nj ≤ na ∧ dj + nj ≤ nb) (h3 : (st.map fun v => v.category).sum ≤ 8)
    (kk : cv (mz_T d M (pc + 3) L' st (mz_cp m a sj b dj nj)) = r) : cv (mz_T d M pc L (.int n :: .int dp :: .ref b :: .int sp :: .ref a :: st) m) = r := by
  subst hs; subst hd; subst hn; subst la; subst lb
  refine q_s he (pc' := pc + 3) (st' := st) (m' := mz_cp m a sp.toNatClampNeg b dp.toNatClampNeg n.toNatClampNeg) ?_ kk
  rw [show mz_act none (.invokestatic i) (9998, 0, 0) pc (mz_mask mk L) (.int n :: .int dp :: .ref b :: .int sp :: .ref a :: st) (mz_S0, m) = mz_cpy pc (mz_mask mk L) (.int n :: .int dp :: .ref b :: .int sp :: .ref a :: st) (mz_S0, m) from rfl]
  unfold mz_cpy
  dsimp only
  rw [if_pos ⟨ta, tb, h1.1, h1.2.1, h1.2.2, h2.1, h2.2, h3⟩, hm]
  rfl
theorem q_max {i : Nat} {x y : Int32} (he : mz_fd (mz_code M) pc = some (pc, .invokestatic i, ln, (9997, 0, 0), mk)) (hm : mz_mask mk L = L') (h3 : (st.map fun v => v.category).sum ≤ 8) (kk : cv (mz_T d M (pc + 3) L' (.int (if x < y then y else x) :: st) m) = r) : cv (mz_T d M pc L (.int y :: .int x :: st) m) = r := by
  refine q_s he (pc' := pc + 3) (st' := .int (if x < y then y else x) :: st) (m' := m) ?_ kk
  rw [show mz_act none (.invokestatic i) (9997, 0, 0) pc (mz_mask mk L) (.int y :: .int x :: st) (mz_S0, m) = mz_mth (fun x y => if x < y then y else x) pc (mz_mask mk L) (.int y :: .int x :: st) (mz_S0, m) from rfl]
  unfold mz_mth
  dsimp only
  rw [if_pos h3, hm]
  rfl
theorem q_min {i : Nat} {x y : Int32} (he : mz_fd (mz_code M) pc = some (pc, .invokestatic i, ln, (9996, 0, 0), mk)) (hm : mz_mask mk L = L') (h3 : (st.map fun v => v.category).sum ≤ 8) (kk : cv (mz_T d M (pc + 3) L' (.int (if y < x then y else x) :: st) m) = r) : cv (mz_T d M pc L (.int y :: .int x :: st) m) = r := by
  refine q_s he (pc' := pc + 3) (st' := .int (if y < x then y else x) :: st) (m' := m) ?_ kk
  rw [show mz_act none (.invokestatic i) (9996, 0, 0) pc (mz_mask mk L) (.int y :: .int x :: st) (mz_S0, m) = mz_mth (fun x y => if y < x then y else x) pc (mz_mask mk L) (.int y :: .int x :: st) (mz_S0, m) from rfl]
  unfold mz_mth
  dsimp only
  rw [if_pos h3, hm]
  rfl
theorem q_abs {i : Nat} {x : Int32} (he : mz_fd (mz_code M) pc = some (pc, .invokestatic i, ln, (9995, 0, 0), mk)) (hm : mz_mask mk L = L') (h3 : (st.map fun v => v.category).sum ≤ 8) (kk : cv (mz_T d M (pc + 3) L' (.int (if 0 ≤ x then x else 0 - x) :: st) m) = r) : cv (mz_T d M pc L (.int x :: st) m) = r := by
  refine q_s he (pc' := pc + 3) (st' := .int (if 0 ≤ x then x else 0 - x) :: st) (m' := m) ?_ kk
  rw [show mz_act none (.invokestatic i) (9995, 0, 0) pc (mz_mask mk L) (.int x :: st) (mz_S0, m) = mz_abs pc (mz_mask mk L) (.int x :: st) (mz_S0, m) from rfl]
  unfold mz_abs
  dsimp only
  rw [if_pos h3, hm]
  rfl
theorem q_div {ins : Instr} {z : Int32 → Int32 → Int32} {x y : Int32} (h0 : cv none = none) (he : mz_fd (mz_code M) pc = some (pc, ins, ln, (0, 0, 0), mk)) (hact : ∀ L2, mz_act none ins (0, 0, 0) pc L2 (.int y :: .int x :: st) (mz_S0, m) = mz_bin (fun x y => if y = 0 then none else some (z x y)) pc L2 (.int y :: .int x :: st) (mz_S0, m)) (hm : mz_mask mk L = L') (kk : decide (y ≠ 0) = true → cv (mz_T d M (pc + 1) L' (.int (z x y) :: st) m) = r) : cv (mz_T d M pc L (.int y :: .int x :: st) m) = mz_g (decide (y ≠ 0)) r := by
  refine mz_gT (y := r) h0 (fun h => q_s he (pc' := pc + 1) (st' := .int (z x y) :: st) (m' := m) ?_ (kk h)) (fun h => mz_At_no none he ?_)
  · show mz_act none ins (0, 0, 0) pc (mz_mask mk L) _ _ = _
    rw [hact]
    unfold mz_bin
    dsimp only
    rw [if_neg (of_decide_eq_true h), hm]
    rfl
  · show mz_act none ins (0, 0, 0) pc (mz_mask mk L) _ _ = _
    rw [hact]
    unfold mz_bin
    dsimp only
    rw [if_pos (Decidable.of_not_not (of_decide_eq_false h))]
theorem q_if {i : Instr} {t : Nat} {x y : Int32} {P : Prop} {hP : Decidable P} {st0 : List Value} {r1 r2 : Option γ} (he : mz_fd (mz_code M) pc = some (pc, i, ln, (0, 0, 0), mk)) {c : ClassFile.Cond} {off : Int} (hact : ∀ L2, mz_act none i (0, 0, 0) pc L2 st0 (mz_S0, m) = mz_if c off pc x y L2 st (mz_S0, m)) (hm : mz_mask mk L = L') (htg : mz_tg pc off = some t) (hc : mz_cmp c x y = decide P)
    (k1 : P → cv (mz_T d M t L' st m) = r1) (k2 : ¬ P → cv (mz_T d M (pc + 3) L' st m) = r2) : cv (mz_T d M pc L st0 m) = if P then r1 else r2 := by
  by_cases h : P
  · rw [if_pos h]
    refine q_s he (pc' := t) (st' := st) (m' := m) ?_ (k1 h)
    show mz_act none i (0, 0, 0) pc (mz_mask mk L) _ _ = _
    rw [hact]
    unfold mz_if
    rw [htg, hc, decide_eq_true h, hm]
    rfl
  · rw [if_neg h]
    refine q_s he (pc' := pc + 3) (st' := st) (m' := m) ?_ (k2 h)
    show mz_act none i (0, 0, 0) pc (mz_mask mk L) _ _ = _
    rw [hact]
    unfold mz_if
    rw [htg, hc, decide_eq_false h, hm]
    rfl
theorem q_retI {v : Int32} (he : mz_fd (mz_code M) pc = some (pc, .ireturn, ln, (0, 0, 0), mk)) (hrt : mz_rt M = some .int) : mz_cI (mz_T d M pc L [.int v] m) = some (v, m) := by
  rw [show mz_T d M pc L [.int v] m = _ from mz_At_rt none he (vs := [.int v]) rfl, hrt]
  rfl
theorem q_retZ {v : Int32} (he : mz_fd (mz_code M) pc = some (pc, .ireturn, ln, (0, 0, 0), mk)) (hrt : mz_rt M = some .boolean) (hv : v = 0 ∨ v = 1) : mz_cI (mz_T d M pc L [.int v] m) = some (v, m) := by
  rw [show mz_T d M pc L [.int v] m = _ from mz_At_rt none he (vs := [.int v]) rfl, hrt]
  show mz_cI (if decide (v = 0 ∨ v = 1) = true then some ([.int v], (mz_S0, m)) else none) = _
  rw [if_pos (decide_eq_true hv)]
  rfl
theorem q_retZg {v : Int32} (he : mz_fd (mz_code M) pc = some (pc, .ireturn, ln, (0, 0, 0), mk)) (hrt : mz_rt M = some .boolean) : mz_cI (mz_T d M pc L [.int v] m) = mz_g (decide (v = 0 ∨ v = 1)) (some (v, m)) := by
  rw [show mz_T d M pc L [.int v] m = _ from mz_At_rt none he (vs := [.int v]) rfl, hrt]
  show mz_cI (if decide (v = 0 ∨ v = 1) = true then some ([.int v], (mz_S0, m)) else none) = _
  cases decide (v = 0 ∨ v = 1) <;> rfl
theorem q_retJ {v : Int64} (he : mz_fd (mz_code M) pc = some (pc, .lreturn, ln, (0, 0, 0), mk)) (hrt : mz_rt M = some .long) : mz_cJ (mz_T d M pc L [.long v] m) = some (v, m) := by
  rw [show mz_T d M pc L [.long v] m = _ from mz_At_rt none he (vs := [.long v]) rfl, hrt]
  rfl
theorem q_retV (he : mz_fd (mz_code M) pc = some (pc, .return_, ln, (0, 0, 0), mk)) (hrt : mz_rt M = none) : mz_cV (mz_T d M pc L [] m) = some m := by
  rw [show mz_T d M pc L [] m = _ from mz_At_rt none he (vs := []) rfl, hrt]
  rfl
theorem mz_dc_lt {N n : Nat} {vs : List Value} (hl : (mz_lc vs).length = n) (hx : n ≤ mz_xl N) (hg : mz_hg N < mz_hg M) : mz_dc M N d vs = some d := by
  unfold mz_dc
  rw [hl, if_pos hx, if_pos hg]
theorem mz_dc_rec {N n : Nat} {vs : List Value} (hl : (mz_lc vs).length = n) (hx : n ≤ mz_xl N) (hg : ¬ mz_hg N < mz_hg M) (hg2 : mz_hg N < mz_hg M + 32) : mz_dc M N (d + 1) vs = some d := by
  unfold mz_dc
  rw [hl, if_pos hx, if_neg hg]
  show (if mz_hg N < mz_hg M + 32 then some d else none) = some d
  rw [if_pos hg2]
theorem q_call {e : MzE} {d' N : Nat} {vs rest : List Value} (he : mz_fd (mz_code M) pc = some e) (hm : mz_mask e.2.2.2.2 L = L') (ha : mz_act none e.2.1 e.2.2.2.1 pc L' st (mz_S0, m) = some (.inr (.inl (N, vs, rest)))) (hdc : mz_dc M N d vs = some d') (hna : mz_na N = true) : mz_T d M pc L st m = (mz_run none d' N vs (mz_S0, m)).bind (fun u => mz_T d M (pc + 3) L' (u.1 ++ rest) u.2.2) := by
  subst hm
  refine (mz_At_cl none he ha hdc).trans ?_
  cases hr : mz_run none d' N vs (mz_S0, m) with
  | none => rfl
  | some u =>
    show mz_At none d M (pc + 3) _ _ u.2 = mz_At none d M (pc + 3) _ _ (mz_S0, u.2.2)
    rw [(mz_run_keep hna hr).1]
theorem q_callI {e : MzE} {d' N : Nat} {vs rest : List Value} {f : Int32 → MzM → Option γ} (h0 : cv none = none) (he : mz_fd (mz_code M) pc = some e) (hm : mz_mask e.2.2.2.2 L = L') (ha : mz_act none e.2.1 e.2.2.2.1 pc L' st (mz_S0, m) = some (.inr (.inl (N, vs, rest)))) (hdc : mz_dc M N d vs = some d') (hna : mz_na N = true) (hrt : mz_rt N = some .int ∨ mz_rt N = some .boolean)
    (kk : ∀ v m', cv (mz_T d M (pc + 3) L' (.int v :: rest) m') = f v m') : cv (mz_T d M pc L st m) = (mz_rI d' N vs m).bind (fun u => f u.1 u.2) := by
  rw [q_call he hm ha hdc hna]
  unfold mz_rI
  cases hr : mz_run none d' N vs (mz_S0, m) with
  | none => exact h0
  | some u =>
    have hk := (mz_run_keep hna hr).2
    obtain ⟨v, hv⟩ : ∃ v, u.1 = [.int v] := by
      rcases mz_ko_kind hk with z | z | ⟨v, z⟩
      · rw [z] at hk; rcases hrt with h | h <;> (rw [h] at hk; cases hk)
      · exact z
      · rw [z] at hk; rcases hrt with h | h <;> (rw [h] at hk; cases hk)
    obtain ⟨u1, u2⟩ := u
    dsimp only at hv
    subst hv
    exact kk v u2.2
theorem q_callV {e : MzE} {d' N : Nat} {vs rest : List Value} {f : MzM → Option γ} (h0 : cv none = none) (he : mz_fd (mz_code M) pc = some e) (hm : mz_mask e.2.2.2.2 L = L') (ha : mz_act none e.2.1 e.2.2.2.1 pc L' st (mz_S0, m) = some (.inr (.inl (N, vs, rest)))) (hdc : mz_dc M N d vs = some d') (hna : mz_na N = true) (hrt : mz_rt N = none)
    (kk : ∀ m', cv (mz_T d M (pc + 3) L' rest m') = f m') : cv (mz_T d M pc L st m) = (mz_rV d' N vs m).bind f := by
  rw [q_call he hm ha hdc hna]
  unfold mz_rV
  cases hr : mz_run none d' N vs (mz_S0, m) with
  | none => exact h0
  | some u =>
    have hk := (mz_run_keep hna hr).2
    have hv : u.1 = [] := by
      rcases mz_ko_kind hk with z | ⟨v, z⟩ | ⟨v, z⟩
      · exact z
      · rw [z, hrt] at hk; cases hk
      · rw [z, hrt] at hk; cases hk
    obtain ⟨u1, u2⟩ := u
    dsimp only at hv
    subst hv
    exact kk u2.2
theorem q_callJ {e : MzE} {d' N : Nat} {vs rest : List Value} {f : Int64 → MzM → Option γ} (h0 : cv none = none) (he : mz_fd (mz_code M) pc = some e) (hm : mz_mask e.2.2.2.2 L = L') (ha : mz_act none e.2.1 e.2.2.2.1 pc L' st (mz_S0, m) = some (.inr (.inl (N, vs, rest)))) (hdc : mz_dc M N d vs = some d') (hna : mz_na N = true) (hrt : mz_rt N = some .long)
    (kk : ∀ v m', cv (mz_T d M (pc + 3) L' (.long v :: rest) m') = f v m') : cv (mz_T d M pc L st m) = (mz_rJ d' N vs m).bind (fun u => f u.1 u.2) := by
  rw [q_call he hm ha hdc hna]
  unfold mz_rJ
  cases hr : mz_run none d' N vs (mz_S0, m) with
  | none => exact h0
  | some u =>
    have hk := (mz_run_keep hna hr).2
    obtain ⟨v, hv⟩ : ∃ v, u.1 = [.long v] := by
      rcases mz_ko_kind hk with z | ⟨v, z⟩ | z
      · rw [z, hrt] at hk; cases hk
      · rw [z, hrt] at hk; cases hk
      · exact z
    obtain ⟨u1, u2⟩ := u
    dsimp only at hv
    subst hv
    exact kk v u2.2
theorem mz_inv_virt {N k t b : Nat} {st rest : List Value} {vs : List Value} {h : MzH} (h1 : st.take k = (.ref b :: vs).reverse) (h2 : st.drop k = rest) (h3 : k ≤ st.length) (h4 : (rest.map fun v => v.category).sum ≤ 8) (h5 : mz_tag h.1 b = t) (h6 : t ≠ 1000) : mz_inv N k t st h = some (.inr (.inl (N, .ref b :: vs, rest))) := by
  unfold mz_inv
  rw [h2, h1, List.reverse_reverse, if_pos ⟨h3, h4⟩]
  split
  next => exact absurd rfl h6
  next =>
    dsimp only
    rw [if_pos h5]
end MzQ
