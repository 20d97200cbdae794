/-! the reference reads an expression: by the grammar's rules -/
section ZRexp2
variable {kd vl nr pl : Nat → Nat} {N sd d : Nat}
theorem zMR_e {j n t : Nat} {R : ZR} (h : zME kd vl nr pl N sd d j n t R) : zMR kd vl nr pl N sd d (2 * j) n t R := by
  intro i
  refine ⟨fun e => ?_, fun e => absurd e (by omega)⟩
  have : i = j := by omega
  subst this
  exact h
theorem zMR_o {j n t : Nat} {R : ZR} (h : zMO kd vl nr pl N sd d j n t R) : zMR kd vl nr pl N sd d (2 * j + 1) n t R := by
  intro i
  refine ⟨fun e => absurd e (by omega), fun e => ?_⟩
  have : i = j := by omega
  subst this
  exact h
theorem zROu_b {n c : Nat} {L W : List Nat} {j : Nat} {x : MzM} {h : Option MzM} {e : Nat × Nat} (k : zROu kd pl N sd d n c L W j x h (znz (.inl e))) : (e.2 ≤ 400 ∧ zRX sd pl x h e.1 e.2) ∨ (¬ e.2 ≤ 400 ∧ zRX sd pl x h 2 400) := by
  by_cases q : e.2 ≤ 400
  · rw [znz_l q] at k
    exact Or.inl ⟨q, k⟩
  · rw [znz_b q] at k
    exact Or.inr ⟨q, k⟩
theorem zROu_b2 {n c : Nat} {L W : List Nat} {j : Nat} {x : MzM} {h : Option MzM} {e : Nat × Nat} (k : (e.2 ≤ 400 ∧ zRX sd pl x h e.1 e.2) ∨ (¬ e.2 ≤ 400 ∧ zRX sd pl x h 2 400)) : zROu kd pl N sd d n c L W j x h (znz (.inl e)) := by
  rcases k with ⟨q, k⟩ | ⟨q, k⟩
  · rw [znz_l q]; exact k
  · rw [znz_b q]; exact k
theorem zRX_b {x x1 : MzM} {h h' : Option MzM} {e : Nat × Nat} (g : zFr (zXR sd) x x1) (q : h = h') (k : (e.2 ≤ 400 ∧ zRX sd pl x1 h' e.1 e.2) ∨ (¬ e.2 ≤ 400 ∧ zRX sd pl x1 h' 2 400)) : (e.2 ≤ 400 ∧ zRX sd pl x h e.1 e.2) ∨ (¬ e.2 ≤ 400 ∧ zRX sd pl x h 2 400) := by
  rcases k with ⟨a, k⟩ | ⟨a, k⟩
  · exact Or.inl ⟨a, zRX_t g q k⟩
  · exact Or.inr ⟨a, zRX_t g q k⟩
theorem zBk_6 {W : List Nat} {j : Nat} : zBk j (6 :: W) := fun a W' e => by
  have : 6 = a := (List.cons.inj e).1
  exact ⟨fun _ => Or.inl this.symm, fun _ => this.symm⟩
theorem zBk_w {W : List Nat} {j k : Nat} (h : zop j k) : zBk j (zkr k :: W) := fun a W' e => by
  have e : zkr k = a := (List.cons.inj e).1
  have q := (zkr_op h).2.2.2
  have j2 : j < 2 := by unfold zop at h; omega
  exact ⟨fun z => by have := q z; omega, fun z => absurd z (by omega)⟩
theorem zLk_w {L : List Nat} {j k : Nat} (h : zop j k) (l : zLk j L) : zLk (j + 1) (L ++ [zkr k]) := by
  have q := zkr_op h
  have j2 : j < 2 := by unfold zop at h; omega
  rcases (show j = 0 ∨ j = 1 by omega) with rfl | rfl
  · rcases l with rfl | ⟨z, _⟩ | ⟨z, _⟩
    · exact Or.inr (Or.inl ⟨by omega, _, q.2.2.1 rfl, rfl⟩)
    · omega
    · omega
  · rcases l with rfl | ⟨z, s, hs, rfl⟩ | ⟨z, _⟩
    · exact Or.inr (Or.inr ⟨by omega, _, q.2.2.2 rfl, Or.inl rfl⟩)
    · exact Or.inr (Or.inr ⟨by omega, _, q.2.2.2 rfl, Or.inr ⟨s, hs, rfl⟩⟩)
    · omega
theorem r_main (hk : ∀ i, 402 ≤ i → kd i = 0) (hs : sd < 2) {md n t : Nat} {R : ZR} (g : zG kd vl md n t R) : zMR kd vl nr pl N sd d md n t R := by
  refine (g (fun md n t R => zG kd vl md n t R ∧ zMR kd vl nr pl N sd d md n t R) ⟨?_, ?_, ?_, ?_, ?_, ?_, ?_, ?_, ?_, ?_, ?_, ?_, ?_, ?_⟩).2
  · intro n t h
    refine ⟨zG_i h, zMR_e (j := 0) fun hn x W c tk hB hW h1 h2 ht hr => ?_⟩
    exact r_uc hs tk ht hr h1 h2 (by omega) (by omega) (r_unitI tk ht hr h)
  · intro n t h h'
    refine ⟨zG_v h h', zMR_e (j := 0) fun hn x W c tk hB hW h1 h2 ht hr => ?_⟩
    exact r_uc hs tk ht hr h1 h2 (by omega) (by omega) (r_unitV tk ht hr h h')
  · intro n t h h'
    refine ⟨zG_r h h', zMR_e (j := 0) fun hn x W c tk hB hW h1 h2 ht hr => ?_⟩
    have l := tk.2.1
    have n6 : n = 6 := by omega
    subst n6
    exact zROu_b2 (e := (2, t)) (Or.inl ⟨by show t ≤ 400; omega, r_room tk ht hr h (by omega)⟩)
  · intro n t h h' h''
    refine ⟨zG_x h h' h'', zMR_e (j := 0) fun hn x W c tk hB hW h1 h2 ht hr => ?_⟩
    have l := tk.2.1
    exact zROu_b2 (e := (1, t)) (Or.inl ⟨by show t ≤ 400; omega, r_nou tk ht hr h h' h''⟩)
  · intro n t t2 P h hn6 g h3
    refine ⟨zG_p h hn6 g.1 h3, zMR_e (j := 0) fun hn x W c tk hB hW h1 h2 ht hr => ?_⟩
    have l := tk.2.1
    have gf : t + 1 + P.length ≤ t2 := (zG_f hk g.1).1
    rcases r_open (d := d) hs tk ht hr h hn6 (by omega) with ⟨c4, x3, e3, r3, n3, f3, k3⟩ | ⟨c4, bad⟩
    · have tk3 := zTkR_x tk f3
      have ih := (g.2 2).1 rfl (by omega) x3 (6 :: W) c tk3 zBk_6 (by rw [List.length_cons]; omega) h1 (by omega) n3 r3
      by_cases c5 : t2 ≤ 400
      · rw [znz_r c5] at ih
        obtain ⟨x4, L4, E, e4, r4, n4, A4, q4, l4, f4, s8, s6⟩ := ih
        have q4' : E ++ L4.map zoc = P := q4
        have ql : E.length + L4.length = P.length := by rw [← q4', List.length_append, List.length_map]
        rcases r_close (d := d) hs (zTkR_x tk3 f4) n4 r4 h3 (by omega) l4 (by omega) (by omega) (by show c + E.length + L4.length ≤ 420 * sd + t2; omega) with ⟨c6, x5, e5, r5, n5, A5, f5⟩ | ⟨c6, bad⟩
        · rw [znz_r (show t2 + 1 ≤ 400 from c6)]
          refine ⟨x5, [], E ++ L4.map zoc, e3.trans (e4.trans e5), ?_, n5, zCA_app (zCA_pre k3 A4) A5, ?_, Or.inl rfl, zFr_t f3 (zFr_t f4 f5), fun z => absurd z (by omega), fun z => absurd z (by omega)⟩
          · have ee : c + (E ++ L4.map zoc).length = c + E.length + L4.length := by rw [List.length_append, List.length_map]; omega
            rw [ee]
            exact r5
          · rw [q4']
            show P ++ [] = [] ++ P
            rw [List.append_nil, List.nil_append]
        · have c6 : t2 = 400 := c6
          rw [znz_o (by omega)]
          exact zRX_t (zFr_t f3 f4) (e3.trans e4) bad
      · rw [znz_o c5] at ih
        rw [znz_o (by omega)]
        exact zRX_t f3 e3 ih
    · rw [znz_o (by omega)]
      exact bad
  · intro n t t2 P h hn6 g h3
    refine ⟨zG_p1 h hn6 g.1 h3, zMR_e (j := 0) fun hn x W c tk hB hW h1 h2 ht hr => ?_⟩
    have l := tk.2.1
    have gf : t + 1 + P.length ≤ t2 := (zG_f hk g.1).1
    refine zROu_b2 (e := (1, t2)) ?_
    rcases r_open (d := d) hs tk ht hr h hn6 (by omega) with ⟨c4, x3, e3, r3, n3, f3, k3⟩ | ⟨c4, bad⟩
    · have tk3 := zTkR_x tk f3
      have ih := (g.2 2).1 rfl (by omega) x3 (6 :: W) c tk3 zBk_6 (by rw [List.length_cons]; omega) h1 (by omega) n3 r3
      by_cases c5 : t2 ≤ 400
      · rw [znz_r c5] at ih
        obtain ⟨x4, L4, E, e4, r4, n4, A4, q4, l4, f4, s8, s6⟩ := ih
        have q4' : E ++ L4.map zoc = P := q4
        have ql : E.length + L4.length = P.length := by rw [← q4', List.length_append, List.length_map]
        have ll := zLk_l l4
        have bad := r_noclose (d := d) hs (zTkR_x tk3 f4) n4 r4 h3 (s6 (by omega)) (s8 (by omega)) (by omega) (by rw [List.length_append, List.length_cons]; omega) (by omega) (by show c + E.length ≤ 420 * sd + t2; omega)
        exact Or.inl ⟨c5, zRX_t (zFr_t f3 f4) (e3.trans e4) bad⟩
      · rw [znz_o c5] at ih
        exact Or.inr ⟨c5, zRX_t f3 e3 ih⟩
    · exact Or.inr ⟨by show ¬ t2 ≤ 400; omega, bad⟩
  · intro n t e h hn6 g
    refine ⟨zG_p2 h hn6 g.1, zMR_e (j := 0) fun hn x W c tk hB hW h1 h2 ht hr => ?_⟩
    have l := tk.2.1
    have gf : t + 1 ≤ e.2 := (zG_f hk g.1).1
    refine zROu_b2 ?_
    rcases r_open (d := d) hs tk ht hr h hn6 (by omega) with ⟨c4, x3, e3, r3, n3, f3, k3⟩ | ⟨c4, bad⟩
    · have tk3 := zTkR_x tk f3
      have ih := (g.2 2).1 rfl (by omega) x3 (6 :: W) c tk3 zBk_6 (by rw [List.length_cons]; omega) h1 (by omega) n3 r3
      exact zRX_b f3 e3 (zROu_b ih)
    · exact Or.inr ⟨by omega, bad⟩
  · intro j n t hj hz
    refine ⟨zG_m0 hj hz, zMR_o fun hn x W L c tk hL hB h3 hW h1 h2 ht hr => ?_⟩
    have l := tk.2.1
    rw [znz_r (by omega)]
    refine ⟨x, L, [], rfl, hr, ht, zCA_k (fun _ _ _ => rfl), ?_, hL, zFr_r, fun _ => ?_, fun z => ?_⟩
    · show [] ++ L.map zoc = L.map zoc ++ []
      rw [List.nil_append, List.append_nil]
    · show kd t ≠ 8 ∧ kd t ≠ 9
      rcases (show j = 0 ∨ j = 1 by omega) with rfl | rfl
      · unfold zop at hz; omega
      · exact h3 rfl
    · show kd t ≠ 6 ∧ kd t ≠ 7
      unfold zop at hz; omega
  · intro j n t t2 t3 Q S hz g g2
    refine ⟨zG_m hz g.1 g2.1, zMR_o fun hn x W L c tk hL hB h3 hW h1 h2 ht hr => ?_⟩
    have l := tk.2.1
    have gf : t + 1 + Q.length ≤ t2 := (zG_f hk g.1).1
    have gf2 : t2 + S.length ≤ t3 := (zG_f hk g2.1).1
    rcases r_op (d := d) hs tk ht hr hz hL hB (by omega) h1 h2 with ⟨c4, x3, e3, r3, n3, A3, f3⟩ | ⟨c4, bad⟩
    · have tk3 := zTkR_x tk f3
      have ih := (g.2 j).1 rfl hn x3 (zkr (kd t) :: W) (c + L.length) tk3 (zBk_w hz) (by rw [List.length_cons]; omega) (by omega) (by omega) n3 r3
      by_cases c5 : t2 ≤ 400
      · rw [znz_r c5] at ih
        obtain ⟨x4, L4, E, e4, r4, n4, A4, q4, l4, f4, s8, s6⟩ := ih
        have q4' : E ++ L4.map zoc = Q := q4
        have ql : E.length + L4.length = Q.length := by rw [← q4', List.length_append, List.length_map]
        have r4' : zRs x4 t2 n ((L4 ++ [zkr (kd t)]) ++ W) (c + L.length + E.length) := by rw [List.append_assoc]; exact r4
        have ih2 := (g2.2 j).2 rfl hn x4 W (L4 ++ [zkr (kd t)]) (c + L.length + E.length) (zTkR_x tk3 f4) (zLk_w hz l4) hB (fun z => s8 (by omega)) hW (by omega) (by rw [List.length_append]; show c + L.length + E.length + (L4.length + 1) ≤ 420 * sd + t2; omega) n4 r4'
        by_cases c6 : t3 ≤ 400
        · rw [znz_r c6] at ih2 ⊢
          obtain ⟨x5, L5, E5, e5, r5, n5, A5, q5, l5, f5, v8, v6⟩ := ih2
          have q5' : E5 ++ L5.map zoc = (L4 ++ [zkr (kd t)]).map zoc ++ S := q5
          have le : c + (L.map zoc ++ E).length = c + L.length + E.length := by rw [List.length_append, List.length_map]; omega
          refine ⟨x5, L5, (L.map zoc ++ E) ++ E5, e3.trans (e4.trans e5), ?_, n5, zCA_app (zCA_app A3 (by rw [List.length_map]; exact A4)) (by rw [le]; exact A5), ?_, l5, zFr_t f3 (zFr_t f4 f5), v8, v6⟩
          · have le2 : c + ((L.map zoc ++ E) ++ E5).length = c + L.length + E.length + E5.length := by rw [List.length_append, ← Nat.add_assoc, le]
            rw [le2]
            exact r5
          · show (L.map zoc ++ E) ++ E5 ++ L5.map zoc = L.map zoc ++ (Q ++ (kd t - 4, 0) :: S)
            rw [List.append_assoc, List.append_assoc, q5', List.map_append, List.append_assoc (L4.map zoc), ← List.append_assoc E, q4']
            show L.map zoc ++ (Q ++ (zoc (zkr (kd t)) :: S)) = _
            rw [(zkr_op hz).2.1]
        · rw [znz_o c6] at ih2 ⊢
          exact zRX_t (zFr_t f3 f4) (e3.trans e4) ih2
      · rw [znz_o c5] at ih
        rw [znz_o (by omega)]
        exact zRX_t f3 e3 ih
    · rw [znz_o (by omega)]
      exact bad
  · intro j n t e hz g
    refine ⟨zG_m1 hz g.1, zMR_o fun hn x W L c tk hL hB h3 hW h1 h2 ht hr => ?_⟩
    have l := tk.2.1
    have gf : t + 1 ≤ e.2 := (zG_f hk g.1).1
    refine zROu_b2 ?_
    rcases r_op (d := d) hs tk ht hr hz hL hB (by omega) h1 h2 with ⟨c4, x3, e3, r3, n3, A3, f3⟩ | ⟨c4, bad⟩
    · have tk3 := zTkR_x tk f3
      have ih := (g.2 j).1 rfl hn x3 (zkr (kd t) :: W) (c + L.length) tk3 (zBk_w hz) (by rw [List.length_cons]; omega) (by omega) (by omega) n3 r3
      exact zRX_b f3 e3 (zROu_b ih)
    · exact Or.inr ⟨by omega, bad⟩
  · intro j n t t2 Q e hz g g2
    refine ⟨zG_m2 hz g.1 g2.1, zMR_o fun hn x W L c tk hL hB h3 hW h1 h2 ht hr => ?_⟩
    have l := tk.2.1
    have gf : t + 1 + Q.length ≤ t2 := (zG_f hk g.1).1
    have gf2 : t2 ≤ e.2 := (zG_f hk g2.1).1
    refine zROu_b2 ?_
    rcases r_op (d := d) hs tk ht hr hz hL hB (by omega) h1 h2 with ⟨c4, x3, e3, r3, n3, A3, f3⟩ | ⟨c4, bad⟩
    · have tk3 := zTkR_x tk f3
      have ih := (g.2 j).1 rfl hn x3 (zkr (kd t) :: W) (c + L.length) tk3 (zBk_w hz) (by rw [List.length_cons]; omega) (by omega) (by omega) n3 r3
      by_cases c5 : t2 ≤ 400
      · rw [znz_r c5] at ih
        obtain ⟨x4, L4, E, e4, r4, n4, A4, q4, l4, f4, s8, s6⟩ := ih
        have q4' : E ++ L4.map zoc = Q := q4
        have ql : E.length + L4.length = Q.length := by rw [← q4', List.length_append, List.length_map]
        have r4' : zRs x4 t2 n ((L4 ++ [zkr (kd t)]) ++ W) (c + L.length + E.length) := by rw [List.append_assoc]; exact r4
        have ih2 := (g2.2 j).2 rfl hn x4 W (L4 ++ [zkr (kd t)]) (c + L.length + E.length) (zTkR_x tk3 f4) (zLk_w hz l4) hB (fun z => s8 (by omega)) hW (by omega) (by rw [List.length_append]; show c + L.length + E.length + (L4.length + 1) ≤ 420 * sd + t2; omega) n4 r4'
        exact zRX_b (zFr_t f3 f4) (e3.trans e4) (zROu_b ih2)
      · rw [znz_o c5] at ih
        exact Or.inr ⟨by omega, zRX_t f3 e3 ih⟩
    · exact Or.inr ⟨by omega, bad⟩
  · intro j n t t2 t3 Q S hj g g2
    refine ⟨zG_a hj g.1 g2.1, zMR_e (j := j + 1) fun hn x W c tk hB hW h1 h2 ht hr => ?_⟩
    have gf : t + Q.length ≤ t2 := (zG_f hk g.1).1
    have gf2 : t2 + S.length ≤ t3 := (zG_f hk g2.1).1
    have ih := (g.2 j).1 rfl hn x W c tk (zBk_d hB hj) (by omega) h1 h2 ht hr
    by_cases c5 : t2 ≤ 400
    · rw [znz_r c5] at ih
      obtain ⟨x4, L4, E, e4, r4, n4, A4, q4, l4, f4, s8, s6⟩ := ih
      have q4' : E ++ L4.map zoc = Q := q4
      have ql : E.length + L4.length = Q.length := by rw [← q4', List.length_append, List.length_map]
      have ih2 := (g2.2 j).2 rfl hn x4 W L4 (c + E.length) (zTkR_x tk f4) (zLk_m l4 (by omega)) hB (fun z => s8 (by omega)) hW (by omega) (by show c + E.length + L4.length ≤ 420 * sd + t2; omega) n4 r4
      by_cases c6 : t3 ≤ 400
      · rw [znz_r c6] at ih2 ⊢
        obtain ⟨x5, L5, E5, e5, r5, n5, A5, q5, l5, f5, v8, v6⟩ := ih2
        have q5' : E5 ++ L5.map zoc = L4.map zoc ++ S := q5
        refine ⟨x5, L5, E ++ E5, e4.trans e5, ?_, n5, zCA_app A4 A5, ?_, l5, zFr_t f4 f5, v8, v6⟩
        · have le2 : c + (E ++ E5).length = c + E.length + E5.length := by rw [List.length_append, ← Nat.add_assoc]
          rw [le2]
          exact r5
        · show E ++ E5 ++ L5.map zoc = [] ++ (Q ++ S)
          rw [List.append_assoc, q5', ← List.append_assoc, q4', List.nil_append]
      · rw [znz_o c6] at ih2 ⊢
        exact zRX_t f4 e4 ih2
    · rw [znz_o c5] at ih
      rw [znz_o (by omega)]
      exact ih
  · intro j n t e hj g
    refine ⟨zG_a1 hj g.1, zMR_e (j := j + 1) fun hn x W c tk hB hW h1 h2 ht hr => ?_⟩
    exact zROu_b2 (zROu_b ((g.2 j).1 rfl hn x W c tk (zBk_d hB hj) (by omega) h1 h2 ht hr))
  · intro j n t t2 Q e hj g g2
    refine ⟨zG_a2 hj g.1 g2.1, zMR_e (j := j + 1) fun hn x W c tk hB hW h1 h2 ht hr => ?_⟩
    have gf : t + Q.length ≤ t2 := (zG_f hk g.1).1
    have gf2 : t2 ≤ e.2 := (zG_f hk g2.1).1
    have ih := (g.2 j).1 rfl hn x W c tk (zBk_d hB hj) (by omega) h1 h2 ht hr
    refine zROu_b2 ?_
    by_cases c5 : t2 ≤ 400
    · rw [znz_r c5] at ih
      obtain ⟨x4, L4, E, e4, r4, n4, A4, q4, l4, f4, s8, s6⟩ := ih
      have q4' : E ++ L4.map zoc = Q := q4
      have ql : E.length + L4.length = Q.length := by rw [← q4', List.length_append, List.length_map]
      have ih2 := (g2.2 j).2 rfl hn x4 W L4 (c + E.length) (zTkR_x tk f4) (zLk_m l4 (by omega)) hB (fun z => s8 (by omega)) hW (by omega) (by show c + E.length + L4.length ≤ 420 * sd + t2; omega) n4 r4
      exact zRX_b f4 e4 (zROu_b ih2)
    · rw [znz_o c5] at ih
      exact Or.inr ⟨by omega, ih⟩
/-- a whole expression -/
def zREx (pl : Nat → Nat) (N sd c : Nat) (x : MzM) (h : Option MzM) : ZR → Prop
  | .inl q => zRX sd pl x h q.1 q.2
  | .inr q => ∃ x', h = some x' ∧ mz_rd x' 239 13 = 0 ∧ mz_rd x' 239 11 = nI q.1 ∧ q.1 < N ∧ mz_rd x' 239 12 = 0 ∧ mz_rd x' 239 39 = nI (c + q.2.length) ∧ zCA x x' c q.2 ∧ zFr (zXR sd) x x'
theorem r_expr (hk : ∀ i, 402 ≤ i → kd i = 0) (hs : sd < 2) {x : MzM} {t c : Nat} {R : ZR} (tk : zTkR kd vl nr pl N x) (ht : t < N) (h13 : mz_rd x 239 13 = 0) (h11 : mz_rd x 239 11 = nI t) (h12 : mz_rd x 239 12 = 0) (h39 : mz_rd x 239 39 = nI c) (h1 : 420 * sd ≤ c) (h2 : c ≤ 420 * sd + t) (g : zG kd vl 4 0 t R) : zREx pl N sd c x (R_X12_expression d x) (znz R) := by
  have l := tk.2.1
  obtain ⟨x1, hx⟩ : ∃ q : MzM, q = mz_wr x 239 43 0 := ⟨_, rfl⟩
  have f1 : zFr (zXR sd) x x1 := by rw [hx]; exact zFr_w (by unfold zXR; omega)
  have k1 : ∀ a i, a = 265 ∨ a = 266 → mz_rd x1 a i = mz_rd x a i := fun a i z => by rw [hx, m_ne (by omega)]
  have e := R_X12_expression_eq d x
  rw [← hx, show mz_rd x1 239 12 = 0 by rw [hx, m_ni (by omega)]; exact h12, H_X12_expression_12_eq, if_neg (show ¬ (1 : Int32) = 0 by decide), if_neg (fun z => z (show mz_rd x1 239 13 = 0 by rw [hx, m_ni (by omega)]; exact h13))] at e
  have m := (r_main (nr := nr) (pl := pl) (N := N) (sd := sd) (d := d) hk hs g 2).1 rfl (by omega) x1 [] c (zTkR_x tk f1) (fun _ _ q => absurd q (by simp)) (by show 0 + 2 ≤ 3 * 0 + 2; omega) h1 h2 ht ⟨by rw [hx, m_ni (by omega)]; exact h13, by rw [hx, m_ni (by omega)]; exact h11, by rw [hx, m_ni (by omega)]; exact h12, by rw [hx, m_eq]; rfl, trivial, by rw [hx, m_ni (by omega)]; exact h39⟩
  rw [e]
  match R, g, m with
  | .inl q, g, m =>
    rcases zROu_b m with ⟨a, b⟩ | ⟨a, b⟩
    · rw [znz_l a]; exact zRX_t f1 rfl b
    · rw [znz_b a]; exact zRX_t f1 rfl b
  | .inr (t2, P), g, m =>
    have gf : t + P.length ≤ t2 := (zG_f hk g).1
    by_cases c5 : t2 ≤ 400
    · rw [znz_r c5] at m ⊢
      obtain ⟨x4, L4, E, e4, r4, n4, A4, q4, l4, f4, s8, s6⟩ := m
      have q4' : E ++ L4.map zoc = P := q4
      have ql : E.length + L4.length = P.length := by rw [← q4', List.length_append, List.length_map]
      have ll := zLk_l l4
      have tk4 := zTkR_x (zTkR_x tk f1) f4
      have e5 := r_96no (d := d) tk4 n4 r4 (s6 (by omega)) (s8 (by omega)) (fun _ => rfl)
      obtain ⟨r1, r2, r3, r4', r5, r6⟩ := r4
      obtain ⟨x5, e6, f5, a1, a2, a3⟩ := r_out (d := d) (y := 0) hs L4 [] x4 (c + E.length) (zLk_op l4) (Or.inl ⟨rfl, fun _ _ q => absurd q (by simp)⟩) r4' r5 r6 (by omega) (by omega) (by rw [List.append_nil]; omega)
      rw [if_pos (show nI 0 ≤ 0 by decide), r_outE, e6, Option.bind_some] at e5
      have g5 : ∀ i, i ≠ 39 → i ≠ 43 → mz_rd x5 239 i = mz_rd x4 239 i := fun i p q => f5.1 239 i (by omega)
      refine ⟨x5, e4.trans e5, (g5 _ (by omega) (by omega)).trans r1, (g5 _ (by omega) (by omega)).trans r2, n4, (g5 _ (by omega) (by omega)).trans r3, ?_, ?_, zFr_t f1 (zFr_t f4 (zXR_o f5))⟩
      · rw [a2]
        show nI (c + E.length + L4.length) = nI (c + P.length)
        rw [← ql, Nat.add_assoc]
      · have := zCA_app (zCA_pre k1 A4) a3
        rw [q4'] at this
        exact this
    · rw [znz_o c5] at m ⊢
      exact zRX_t f1 rfl m
end ZRexp2
