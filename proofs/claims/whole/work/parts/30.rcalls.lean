/-! The same calls of the model. -/
theorem seF_up {n : Nat} {f : Nat → Nat} (g : GD n f) {i : Nat} (hi : i < n) (t : Nat) : seF f i t = up (up f (5 * i) (if f (5 * i + 3) = 4 then 0 else f (5 * i))) (5 * i + 3) t := by
  obtain ⟨g1, g2, g3, g4, g5, g6⟩ := g.2.1 i hi
  unfold seF
  by_cases c : f (5 * i) = 3
  · rw [if_pos c, if_pos (g5.mp c), up_comm (by omega)]
  · rw [if_neg c, if_neg (fun q => c (g5.mpr q)), up_self]
abbrev MS (h : ev_H) (f : Nat → Nat) : Prop := IA h 61 4 (fun _ => True) (fun t => nI (f (60 + t)))
section RCALLS
variable {scr : List Int32} {d : Nat} {h : ev_H} {n : Nat} {f : Nat → Nat} {q : Nat → Int32} {im : Nat → Int32}
theorem r_rule (hM : MO h n q) (hS : ST h f im) (hR : RS h) (g : GD n f) {w : Int32} (hd : 1 ≤ d) : ev_X scr d cd_X6_rule 0 [.ref 57, .int w, .float 0, .float 0] [] h (RQ h f im (.int (a_rule n f w))) := by
  have hn := g.1
  refine ex_go 80 rfl ?_
  refine ev_loop n (fun i => ev_X scr d cd_X6_rule 4 [.ref 57, .int w, .int (nI (bs (fun m => decide (f (5 * m + 3) = 4)) i)), .int (nI i)] [] h _) (fun i hi K => ?_) ?_
  · have g4 := (g.2.1 i hi).2.2.2.1
    refine ex_nop rfl ?_
    refine ex_go 80 rfl ?_
    refine ex_getf rfl hM rfl rfl ?_
    refine ex_igeF rfl (nI_ge hi (by first | omega | decide)) ?_
    refine ex_go 80 rfl ?_
    refine ex_getf rfl hM rfl rfl ?_
    refine ex_go 80 rfl ?_
    try dsimp only
    try simp only [nI_inc, nI_1, nI_add, nI_mul2, tb_and, tb_or, tb_andn, nI_x5, nI_x2, nI_p0, nI_p2, nI_p3, nI_p4, nI_q45]
    refine ex_ia _ rfl hS rfl (by first | exact trivial | assumption | (show _ < _; omega)) (by omega) (by omega) rfl ?_
    simp (disch := omega) only [rs_lt, rv_0, rv_1, rv_2, rv_3, rv_4, rv_40, rv_41, rv_42, rv_43, rv_44]
    refine ex_go 80 rfl ?_
    refine ex_ineM 1 2 23 (v := nI (tb_b (decide (f (5 * i + 3) = 4)))) rfl rfl rfl (if10 (tv_m4 g4)) ?_
    refine ex_cs rfl rfl rfl (d' := 0) (by omega) (c_flag) ?_
    refine ex_go 80 rfl ?_
    dsimp only
    rw [nI_inc, bs_fl (fun m => decide (f (5 * m + 3) = 4)) (by omega)]
    exact K
  · have e : bs (fun m => decide (f (5 * m + 3) = 4)) n = bs (fun m => decide (f (5 * m) = 3)) n := bs_cong (fun i hi => decide_eq_decide.mpr (g.2.1 i hi).2.2.2.2.1.symm)
    rw [e]
    unfold a_rule
    refine ex_nop rfl ?_
    refine ex_go 80 rfl ?_
    refine ex_getf rfl hM rfl rfl ?_
    refine ex_igeT rfl (nI_le (Nat.le_refl _) (by first | omega | decide)) ?_
    cases hw : isM 6 w
    · refine ex_go 80 rfl ?_
      refine ex_tsw (t := 57) rfl (tsw_d (k := 5) hw rfl rfl) ?_
      refine ex_go 80 rfl ?_
      exact ex_iret rfl (rq_s hS hR)
    · obtain ⟨j, hj, rfl⟩ := isM_of hw (by decide)
      rw [ix_nI (by omega), if_pos rfl]
      rcases (by omega : j = 0 ∨ j = 1 ∨ j = 2 ∨ j = 3 ∨ j = 4 ∨ j = 5) with rfl | rfl | rfl | rfl | rfl | rfl
      · refine ex_go 80 rfl ?_
        refine ex_tsw (t := 32) rfl (by decide) ?_
        refine ex_go 80 rfl ?_
        refine ex_getf rfl hM rfl rfl ?_
        exact ex_iret rfl (rq_s hS hR)
      · refine ex_go 80 rfl ?_
        refine ex_tsw (t := 35) rfl (by decide) ?_
        refine ex_go 80 rfl ?_
        refine ex_getf rfl hM rfl rfl ?_
        refine ex_go 80 rfl ?_
        refine ex_ia 41 rfl hS rfl (by first | exact trivial | assumption | (show _ < _; omega)) (by omega) (by omega) rfl ?_
        simp (disch := omega) only [rs_lt, rv_0, rv_1, rv_2, rv_3, rv_4, rv_40, rv_41, rv_42, rv_43, rv_44]
        exact ex_iret rfl (rq_s hS hR)
      · refine ex_go 80 rfl ?_
        refine ex_tsw (t := 40) rfl (by decide) ?_
        refine ex_go 80 rfl ?_
        refine ex_getf rfl hM rfl rfl ?_
        refine ex_go 80 rfl ?_
        refine ex_ia 42 rfl hS rfl (by first | exact trivial | assumption | (show _ < _; omega)) (by omega) (by omega) rfl ?_
        simp (disch := omega) only [rs_lt, rv_0, rv_1, rv_2, rv_3, rv_4, rv_40, rv_41, rv_42, rv_43, rv_44]
        exact ex_iret rfl (rq_s hS hR)
      · refine ex_go 80 rfl ?_
        refine ex_tsw (t := 45) rfl (by decide) ?_
        refine ex_go 80 rfl ?_
        refine ex_getf rfl hM rfl rfl ?_
        refine ex_go 80 rfl ?_
        refine ex_ia 43 rfl hS rfl (by first | exact trivial | assumption | (show _ < _; omega)) (by omega) (by omega) rfl ?_
        simp (disch := omega) only [rs_lt, rv_0, rv_1, rv_2, rv_3, rv_4, rv_40, rv_41, rv_42, rv_43, rv_44]
        exact ex_iret rfl (rq_s hS hR)
      · refine ex_go 80 rfl ?_
        refine ex_tsw (t := 50) rfl (by decide) ?_
        refine ex_go 80 rfl ?_
        refine ex_getf rfl hM rfl rfl ?_
        refine ex_go 80 rfl ?_
        refine ex_ia 40 rfl hS rfl (by first | exact trivial | assumption | (show _ < _; omega)) (by omega) (by omega) rfl ?_
        simp (disch := omega) only [rs_lt, rv_0, rv_1, rv_2, rv_3, rv_4, rv_40, rv_41, rv_42, rv_43, rv_44]
        exact ex_iret rfl (rq_s hS hR)
      · refine ex_go 80 rfl ?_
        refine ex_tsw (t := 55) rfl (by decide) ?_
        refine ex_go 80 rfl ?_
        exact ex_iret rfl (rq_s hS hR)
theorem r_man (hM : MO h n q) (hS : ST h f im) (hR : RS h) (g : GD n f) {m w : Int32} (hd : 2 ≤ d) : ev_X scr d cd_X6_man 0 [.ref 57, .int m, .int w] [] h (RQ h f im (.int (a_man n f m w))) := by
  have hn := g.1
  unfold a_man
  refine ex_go 80 rfl ?_
  refine ex_cv rfl rfl rfl rfl hM rfl (d' := 1) (by omega) (c_isMan hM hn (Nat.le_refl _)) ?_
  cases hm : isM n m
  · refine ex_zeqT rfl (by decide) ?_
    refine ex_go 80 rfl ?_
    exact ex_iret rfl (rq_s hS hR)
  · obtain ⟨i, hi, rfl⟩ := isM_of hm (by omega)
    refine ex_zeqF rfl (by decide) ?_
    refine ex_go 80 rfl ?_
    try dsimp only
    try simp only [nI_inc, nI_1, nI_add, nI_mul2, tb_and, tb_or, tb_andn, nI_x5, nI_x2, nI_p0, nI_p2, nI_p3, nI_p4, nI_q45]
    refine ex_cs rfl rfl rfl (d' := 0) (by omega) (c_in0 6 (by decide)) ?_
    cases hw : isM 6 w
    · refine ex_zneF rfl (by decide) ?_
      refine ex_go 80 rfl ?_
      exact ex_iret rfl (rq_s hS hR)
    · obtain ⟨j, hj, rfl⟩ := isM_of hw (by decide)
      rw [ix_nI (by omega), ix_nI (by omega), Bool.true_and, if_pos rfl]
      refine ex_zneT rfl (by decide) ?_
      refine ex_go 80 rfl ?_
      refine ex_cvx rfl rfl rfl rfl hM rfl (d' := 0) (by omega) (c_starts hM hS hR.1) ?_
      rintro v1 h1 ⟨rfl, hA1, hB1⟩
      have hM1 := hB1.mo hM (by decide)
      refine ex_go 80 rfl ?_
      refine ex_ige rfl (fun hc => ?_) (fun hc => ?_)
      · have h5 : ¬ j < 5 := Nat.not_lt.mpr ((nI_leI (a := 5) (by decide) (by omega)).mp hc)
        rw [if_neg h5]
        refine ex_go 80 rfl ?_
        refine ex_cv rfl rfl rfl rfl hM1 rfl (d' := 1) (by omega) (c_oddsOf hM1 hA1 g hi (Nat.le_refl _)) ?_
        exact ex_iret rfl (rq_9 hS hR hB1 hA1)
      · have h5 : j < 5 := Nat.lt_of_not_le (fun q => hc ((nI_leI (a := 5) (by decide) (by omega)).mpr q))
        rw [if_pos h5]
        refine ex_go 80 rfl ?_
        refine ex_cv rfl rfl rfl rfl hM1 rfl (d' := 0) (by omega) (c_ofw hM1 hA1 (by omega) h5 rfl) ?_
        refine ex_go 80 rfl ?_
        exact ex_iret rfl (rq_9 hS hR hB1 hA1)
theorem r_ten (hM : MO h n q) (hS : ST h f im) (hR : RS h) (hMo : MS h f) (g : GD n f) {t w : Int32} (hd : 3 ≤ d) : ev_X scr d cd_X6_ten 0 [.ref 57, .int t, .int w] [] h (RQ h f im (.int (a_ten n f t w))) := by
  have hn := g.1
  unfold a_ten
  refine ex_go 80 rfl ?_
  refine ex_cs rfl rfl rfl (d' := 1) (by omega) (c_isTenR (Nat.le_refl _)) ?_
  cases ht : isM 4 t
  · refine ex_zneF rfl (by decide) ?_
    refine ex_go 80 rfl ?_
    exact ex_iret rfl (rq_s hS hR)
  · obtain ⟨i, hi, rfl⟩ := isM_of ht (by omega)
    refine ex_zneT rfl (by decide) ?_
    refine ex_go 80 rfl ?_
    refine ex_cvx rfl rfl rfl rfl hM rfl (d' := 0) (by omega) (c_starts hM hS hR.1) ?_
    rintro v1 h1 ⟨rfl, hA1, hB1⟩
    have hM1 := hB1.mo hM (by decide)
    have hMo1 := hMo.sb hB1 (by decide)
    cases hw : isM 4 w
    · refine ex_go 80 rfl ?_
      refine ex_tsw (t := 28) rfl (tsw_d (k := 3) hw rfl rfl) ?_
      refine ex_go 80 rfl ?_
      exact ex_iret rfl (rq_9 hS hR hB1 hA1)
    · obtain ⟨j, hj, rfl⟩ := isM_of hw (by decide)
      rw [ix_nI (by omega), ix_nI (by omega), Bool.true_and, if_pos rfl]
      rcases (by omega : j = 0 ∨ j = 1 ∨ j = 2 ∨ j = 3) with rfl | rfl | rfl | rfl
      · refine ex_go 80 rfl ?_
        refine ex_tsw (t := 9) rfl (by decide) ?_
        refine ex_go 80 rfl ?_
        refine ex_cv rfl rfl rfl rfl hM1 rfl (d' := 1) (by omega) (c_menOf hM1 hA1 hn hi (Nat.le_refl _)) ?_
        exact ex_iret rfl (rq_9 hS hR hB1 hA1)
      · refine ex_go 80 rfl ?_
        refine ex_tsw (t := 13) rfl (by decide) ?_
        refine ex_go 80 rfl ?_
        refine ex_getf rfl hM1 rfl rfl ?_
        refine ex_go 80 rfl ?_
        refine ex_ia _ rfl hMo1 rfl (by first | exact trivial | assumption | (show _ < _; omega)) (by omega) (by omega) rfl ?_
        exact ex_iret rfl (rq_9 hS hR hB1 hA1)
      · refine ex_go 80 rfl ?_
        refine ex_tsw (t := 18) rfl (by decide) ?_
        refine ex_go 80 rfl ?_
        refine ex_cv rfl rfl rfl rfl hM1 rfl (d' := 2) (by omega) (c_harmOf hM1 hA1 g hi (Nat.le_refl _)) ?_
        exact ex_iret rfl (rq_9 hS hR hB1 hA1)
      · refine ex_go 80 rfl ?_
        refine ex_tsw (t := 22) rfl (by decide) ?_
        refine ex_go 80 rfl ?_
        refine ex_cv rfl rfl rfl rfl hM1 rfl (d' := 1) (by omega) (c_menOf hM1 hA1 hn hi (Nat.le_refl _)) ?_
        refine ex_cv rfl rfl rfl rfl hM1 rfl (d' := 1) (by omega) (c_allGoods hM1 hA1 hn (Nat.lt_trans (bs_256 _ hn) (by decide)) (Nat.le_refl _)) ?_
        exact ex_iret rfl (rq_9 hS hR hB1 hA1)
theorem c_moveR (hM : MO h n q) (hS : ST h f im) (hR : RS h) (hMo : MS h f) (g : GD n f) {m t : Int32} (hd : 3 ≤ d) : ev_X scr d cd_X6_move 0 [.ref 57, .int m, .int t, .float 0] [] h (RQ h (s_move n f m t) im (.int (a_move n f m t))) := by
  have hn := g.1
  unfold a_move s_move
  refine ex_go 80 rfl ?_
  refine ex_cv rfl rfl rfl rfl hM rfl (d' := 1) (by omega) (c_isMan hM hn (Nat.le_refl _)) ?_
  cases hm : isM n m
  · refine ex_zeqT rfl (by decide) ?_
    refine ex_go 80 rfl ?_
    exact ex_iret rfl (rq_s hS hR)
  · obtain ⟨i, hi, rfl⟩ := isM_of hm (by omega)
    refine ex_zeqF rfl (by decide) ?_
    refine ex_go 80 rfl ?_
    refine ex_cs rfl rfl rfl (d' := 1) (by omega) (c_isTenR (Nat.le_refl _)) ?_
    cases ht : isM 4 t
    · refine ex_zneF rfl (by decide) ?_
      refine ex_go 80 rfl ?_
      exact ex_iret rfl (rq_s hS hR)
    · obtain ⟨j, hj, rfl⟩ := isM_of ht (by omega)
      obtain ⟨g1, g2, g3, g4, g5, g6⟩ := g.2.1 i hi
      rw [ix_nI (by omega), ix_nI (by omega), Bool.true_and, if_pos rfl, if_pos rfl]
      have tail : ∀ h1, MO h1 n q → ST h1 f im → RS h1 → RY h h1 → ev_X scr d cd_X6_move 27 [.ref 57, .int (nI i), .int (nI j), .int (tv (f (5 * i + 3)))] [] h1 (RQ h (seF f i j) im (.int (tv (f (5 * i + 3))))) := by
        intro h1 hM1 hS1 hR1 hY1
        rw [seF_up g hi]
        refine ex_go 80 rfl ?_
        refine ex_getf rfl hM1 rfl rfl ?_
        refine ex_go 80 rfl ?_
        try dsimp only
        try simp only [nI_inc, nI_1, nI_add, nI_mul2, tb_and, tb_or, tb_andn, nI_x5, nI_x2, nI_p0, nI_p2, nI_p3, nI_p4, nI_q45]
        refine ex_ine rfl (fun hc => ?_) (fun hc => ?_)
        · rw [tv_m4 g4] at hc
          rw [if_neg hc]
          refine ex_go 80 rfl ?_
          refine ex_getf rfl hM1 rfl rfl ?_
          refine ex_go 80 rfl ?_
          try dsimp only
          try simp only [nI_inc, nI_1, nI_add, nI_mul2, tb_and, tb_or, tb_andn, nI_x5, nI_x2, nI_p0, nI_p2, nI_p3, nI_p4, nI_q45]
          refine ex_ia _ rfl hS1 rfl (by first | exact trivial | assumption | (show _ < _; omega)) (by omega) (by omega) rfl ?_
          simp (disch := omega) only [rs_lt, rv_0, rv_1, rv_2, rv_3, rv_4, rv_40, rv_41, rv_42, rv_43, rv_44]
          refine ex_is _ rfl hS1 rfl (by omega) (by omega) (fun h2 hA2 hB2 => ?_)
          have hS2 := ST.st (v := f (5 * i)) hA2 (fun _ => Or.inl trivial) (by omega) (rvx_n (by omega)).symm
          have hM2 := hB2.mo hM1 (by decide)
          refine ex_go 80 rfl ?_
          try dsimp only
          try simp only [nI_inc, nI_1, nI_add, nI_mul2, tb_and, tb_or, tb_andn, nI_x5, nI_x2, nI_p0, nI_p2, nI_p3, nI_p4, nI_q45]
          refine ex_cvx rfl rfl rfl rfl hM2 rfl (d' := 0) (by omega) (c_becomes (v := j) hM2 hS2 (by omega) (by rw [rvx_t (by omega), tv_lt hj])) ?_
          rintro v3 h3 ⟨rfl, hS3, hB3⟩
          rw [rv_3 _ (by omega), up_ne (by omega)]
          exact ex_iret rfl (⟨rfl, hS3, hR1.b8 (hB2.tr hB3), hY1.tr (hB2.tr hB3).ry8⟩)
        · rw [tv_m4 g4] at hc
          rw [if_pos hc]
          refine ex_go 80 rfl ?_
          refine ex_is _ rfl hS1 rfl (by omega) (by omega) (fun h2 hA2 hB2 => ?_)
          have hS2 := ST.st (v := 0) hA2 (fun _ => Or.inl trivial) (by omega) (by rw [rvx_n (by omega)]; rfl)
          have hM2 := hB2.mo hM1 (by decide)
          refine ex_go 80 rfl ?_
          try dsimp only
          try simp only [nI_inc, nI_1, nI_add, nI_mul2, tb_and, tb_or, tb_andn, nI_x5, nI_x2, nI_p0, nI_p2, nI_p3, nI_p4, nI_q45]
          refine ex_cvx rfl rfl rfl rfl hM2 rfl (d' := 0) (by omega) (c_becomes (v := j) hM2 hS2 (by omega) (by rw [rvx_t (by omega), tv_lt hj])) ?_
          rintro v3 h3 ⟨rfl, hS3, hB3⟩
          rw [rv_3 _ (by omega), up_ne (by omega)]
          exact ex_iret rfl (⟨rfl, hS3, hR1.b8 (hB2.tr hB3), hY1.tr (hB2.tr hB3).ry8⟩)
      refine ex_zneT rfl (by decide) ?_
      refine ex_go 80 rfl ?_
      refine ex_getf rfl hM rfl rfl ?_
      refine ex_go 80 rfl ?_
      try dsimp only
      try simp only [nI_inc, nI_1, nI_add, nI_mul2, tb_and, tb_or, tb_andn, nI_x5, nI_x2, nI_p0, nI_p2, nI_p3, nI_p4, nI_q45]
      refine ex_ia _ rfl hS rfl (by first | exact trivial | assumption | (show _ < _; omega)) (by omega) (by omega) rfl ?_
      simp (disch := omega) only [rs_lt, rv_0, rv_1, rv_2, rv_3, rv_4, rv_40, rv_41, rv_42, rv_43, rv_44]
      refine ex_go 80 rfl ?_
      refine ex_ieq rfl (fun hc => ?_) (fun hc => ?_)
      · rw [tv_eq hj] at hc
        have e : wns n f i j = 0 := if_neg (fun c => c.1 hc)
        rw [if_pos e, if_pos e]
        exact tail h hM hS hR RY.rf
      · rw [tv_eq hj] at hc
        refine ex_go 80 rfl ?_
        refine ex_cvx rfl rfl rfl rfl hM rfl (d' := 2) (by omega) (c_isFull hM hS hR.1 hMo g hj (Nat.le_refl _)) ?_
        rintro v1 h1 ⟨rfl, hA1, hB1⟩
        by_cases c : f (60 + j) ≤ sz n f j
        · have e : wns n f i j = -3 := if_pos ⟨hc, c⟩
          rw [decide_eq_true c, e, if_neg (by decide), if_neg (by decide)]
          refine ex_zeqF rfl (by decide) ?_
          refine ex_go 80 rfl ?_
          exact ex_iret rfl (rq_9 hS hR hB1 hA1)
        · have e : wns n f i j = 0 := if_neg (fun k => c k.2)
          rw [decide_eq_false c, if_pos e, if_pos e]
          refine ex_zeqT rfl (by decide) ?_
          exact tail h1 (hB1.mo hM (by decide)) (hS.b9 hB1) (hR.b9 hB1 hA1) hB1.ry9
theorem r_leave (hM : MO h n q) (hS : ST h f im) (hR : RS h) (g : GD n f) {m : Int32} (hd : 2 ≤ d) : ev_X scr d cd_X6_leave 0 [.ref 57, .int m] [] h (RQ h (s_leave n f m) im (.int (a_leave n f m))) := by
  have hn := g.1
  unfold a_leave s_leave
  refine ex_go 80 rfl ?_
  refine ex_cv rfl rfl rfl rfl hM rfl (d' := 1) (by omega) (c_isMan hM hn (Nat.le_refl _)) ?_
  cases hm : isM n m
  · have er : rit n f m = -1 := by unfold rit; rw [hm]; rfl
    rw [er, if_neg (by decide), if_neg (by decide)]
    refine ex_zneF rfl (by decide) ?_
    refine ex_go 80 rfl ?_
    exact ex_iret rfl (rq_s hS hR)
  · obtain ⟨i, hi, rfl⟩ := isM_of hm (by omega)
    obtain ⟨g1, g2, g3, g4, g5, g6⟩ := g.2.1 i hi
    have er : rit n f (nI i) = if f (5 * i + 3) < 4 then 0 else -2 := by unfold rit; rw [hm, ix_nI (by omega)]; rfl
    rw [er, ix_nI (by omega)]
    refine ex_zneT rfl (by decide) ?_
    refine ex_go 80 rfl ?_
    refine ex_cv rfl rfl rfl rfl hM rfl (d' := 0) (by omega) (c_isWanderer hM hS (by omega) g4) ?_
    by_cases c : f (5 * i + 3) = 4
    · rw [decide_eq_true c, if_neg (show ¬ f (5 * i + 3) < 4 by omega), if_neg (by decide), if_neg (by decide)]
      refine ex_zeqF rfl (by decide) ?_
      refine ex_go 80 rfl ?_
      exact ex_iret rfl (rq_s hS hR)
    · rw [decide_eq_false c, if_pos (show f (5 * i + 3) < 4 by omega), if_pos rfl, if_pos rfl]
      refine ex_zeqT rfl (by decide) ?_
      refine ex_go 80 rfl ?_
      refine ex_getf rfl hM rfl rfl ?_
      refine ex_go 80 rfl ?_
      try dsimp only
      try simp only [nI_inc, nI_1, nI_add, nI_mul2, tb_and, tb_or, tb_andn, nI_x5, nI_x2, nI_p0, nI_p2, nI_p3, nI_p4, nI_q45]
      refine ex_is _ rfl hS rfl (by omega) (by omega) (fun h1 hA1 hB1 => ?_)
      have hS1 := ST.st (v := 3) hA1 (fun _ => Or.inl trivial) (by omega) (by rw [rvx_n (by omega)]; rfl)
      have hM1 := hB1.mo hM (by decide)
      have e40 : up f (5 * i) 3 40 = f 40 := up_ne (by omega)
      refine ex_go 80 rfl ?_
      refine ex_getf rfl hM1 rfl rfl ?_
      refine ex_go 80 rfl ?_
      refine ex_ia 40 rfl hS1 rfl (by first | exact trivial | assumption | (show _ < _; omega)) (by omega) (by omega) rfl ?_
      simp (disch := omega) only [rs_lt, rv_0, rv_1, rv_2, rv_3, rv_4, rv_40, rv_41, rv_42, rv_43, rv_44]
      refine ex_go 80 rfl ?_
      try dsimp only
      try simp only [nI_inc, nI_1, nI_add, nI_mul2, tb_and, tb_or, tb_andn, nI_x5, nI_x2, nI_p0, nI_p2, nI_p3, nI_p4, nI_q45]
      rw [tb_sh1 i (by omega), tb_andn, e40]
      refine ex_is 40 rfl hS1 rfl (by omega) (by omega) (fun h2 hA2 hB2 => ?_)
      have hS2 := ST.st (v := tb_wo (f 40) (2 ^ i)) hA2 (fun _ => Or.inl trivial) (by omega) (by rw [rvx_n (by omega)])
      have hM2 := hB2.mo hM1 (by decide)
      refine ex_go 80 rfl ?_
      try dsimp only
      try simp only [nI_inc, nI_1, nI_add, nI_mul2, tb_and, tb_or, tb_andn, nI_x5, nI_x2, nI_p0, nI_p2, nI_p3, nI_p4, nI_q45]
      refine ex_cvx rfl rfl rfl rfl hM2 rfl (d' := 0) (by omega) (c_becomes (v := 4) hM2 hS2 (by omega) (by rw [rvx_t (by omega)]; rfl)) ?_
      rintro v3 h3 ⟨rfl, hS3, hB3⟩
      rw [rv_3 _ (by omega), up_ne (by omega), up_ne (by omega)]
      rw [up_comm (k := 40) (by omega), up_comm (k := 5 * i) (by omega)] at hS3
      exact ex_iret rfl (⟨rfl, hS3, hR.b8 ((hB1.tr hB2).tr hB3), ((hB1.tr hB2).tr hB3).ry8⟩)
theorem r_swap (hM : MO h n q) (hS : ST h f im) (hR : RS h) (g : GD n f) {m k : Int32} (hd : 2 ≤ d) : ev_X scr d cd_X6_swap 0 [.ref 57, .int m, .int k, .float 0, .float 0] [] h (RQ h (s_swap n f m k) im (.int (a_swap n f m k))) := by
  have hn := g.1
  unfold a_swap s_swap
  refine ex_go 80 rfl ?_
  refine ex_cv rfl rfl rfl rfl hM rfl (d' := 1) (by omega) (c_isMan hM hn (Nat.le_refl _)) ?_
  cases hm : isM n m
  · have e : prm n m k = false := by unfold prm; rw [hm]; rfl
    rw [e]
    refine ex_zeqT rfl (by decide) ?_
    refine ex_go 80 rfl ?_
    exact ex_iret rfl (rq_s hS hR)
  · refine ex_zeqF rfl (by decide) ?_
    refine ex_go 80 rfl ?_
    refine ex_cv rfl rfl rfl rfl hM rfl (d' := 1) (by omega) (c_isMan hM hn (Nat.le_refl _)) ?_
    cases hk : isM n k
    · have e : prm n m k = false := by unfold prm; rw [hm, hk]; rfl
      rw [e]
      refine ex_zeqT rfl (by decide) ?_
      refine ex_go 80 rfl ?_
      exact ex_iret rfl (rq_s hS hR)
    · refine ex_zeqF rfl (by decide) ?_
      refine ex_go 80 rfl ?_
      refine ex_ine rfl (fun hc => ?_) (fun hc => ?_)
      · have e : prm n m k = true := by unfold prm; rw [hm, hk, decide_eq_true hc]; rfl
        obtain ⟨i, j, hi, hj, hij, rfl, rfl, ei, ej⟩ := prm_of hn e
        rw [e, ei, ej, if_pos rfl, if_pos rfl]
        have gi := (g.2.1 i hi).2.2.2.1
        have gj := (g.2.1 j hj).2.2.2.1
        have no : ¬ (f (5 * i + 3) < 4 ∧ f (5 * j + 3) < 4 ∧ f (5 * i + 3) ≠ f (5 * j + 3)) → ev_X scr d cd_X6_swap 40 [.ref 57, .int (nI i), .int (nI j), .int (tv (f (5 * i + 3))), .int (tv (f (5 * j + 3)))] [] h (RQ h (if msw f i j = true then exF f i j else f) im (.int (if msw f i j = true then tv (f (5 * j + 3)) else -2))) := by
          intro c
          have e2 : msw f i j = false := decide_eq_false c
          rw [e2]
          refine ex_go 80 rfl ?_
          exact ex_iret rfl (rq_s hS hR)
        refine ex_go 80 rfl ?_
        refine ex_getf rfl hM rfl rfl ?_
        refine ex_go 80 rfl ?_
        try dsimp only
        try simp only [nI_inc, nI_1, nI_add, nI_mul2, tb_and, tb_or, tb_andn, nI_x5, nI_x2, nI_p0, nI_p2, nI_p3, nI_p4, nI_q45]
        refine ex_ia _ rfl hS rfl (by first | exact trivial | assumption | (show _ < _; omega)) (by omega) (by omega) rfl ?_
        simp (disch := omega) only [rs_lt, rv_0, rv_1, rv_2, rv_3, rv_4, rv_40, rv_41, rv_42, rv_43, rv_44]
        refine ex_go 80 rfl ?_
        refine ex_getf rfl hM rfl rfl ?_
        refine ex_go 80 rfl ?_
        try dsimp only
        try simp only [nI_inc, nI_1, nI_add, nI_mul2, tb_and, tb_or, tb_andn, nI_x5, nI_x2, nI_p0, nI_p2, nI_p3, nI_p4, nI_q45]
        refine ex_ia _ rfl hS rfl (by first | exact trivial | assumption | (show _ < _; omega)) (by omega) (by omega) rfl ?_
        simp (disch := omega) only [rs_lt, rv_0, rv_1, rv_2, rv_3, rv_4, rv_40, rv_41, rv_42, rv_43, rv_44]
        refine ex_go 80 rfl ?_
        refine ex_ieq rfl (fun h1 => ?_) (fun h1 => ?_)
        · rw [tv_m4 gi] at h1
          exact no (fun c => by omega)
        · rw [tv_m4 gi] at h1
          refine ex_go 80 rfl ?_
          refine ex_ieq rfl (fun h2 => ?_) (fun h2 => ?_)
          · rw [tv_m4 gj] at h2
            exact no (fun c => by omega)
          · rw [tv_m4 gj] at h2
            refine ex_go 80 rfl ?_
            refine ex_ine rfl (fun h3 => ?_) (fun h3 => ?_)
            · rw [tv_inj gi gj] at h3
              have e2 : msw f i j = true := decide_eq_true ⟨by omega, by omega, h3⟩
              rw [e2, if_pos rfl, if_pos rfl]
              refine ex_go 80 rfl ?_
              refine ex_getf rfl hM rfl rfl ?_
              refine ex_go 80 rfl ?_
              try dsimp only
              try simp only [nI_inc, nI_1, nI_add, nI_mul2, tb_and, tb_or, tb_andn, nI_x5, nI_x2, nI_p0, nI_p2, nI_p3, nI_p4, nI_q45]
              refine ex_is _ rfl hS rfl (by omega) (by omega) (fun h4 hA4 hB4 => ?_)
              have hS4 := ST.st (v := f (5 * j + 3)) hA4 (fun _ => Or.inl trivial) (by omega) (by rw [rvx_t (by omega)])
              have hM4 := hB4.mo hM (by decide)
              refine ex_go 80 rfl ?_
              refine ex_getf rfl hM4 rfl rfl ?_
              refine ex_go 80 rfl ?_
              try dsimp only
              try simp only [nI_inc, nI_1, nI_add, nI_mul2, tb_and, tb_or, tb_andn, nI_x5, nI_x2, nI_p0, nI_p2, nI_p3, nI_p4, nI_q45]
              refine ex_is _ rfl hS4 rfl (by omega) (by omega) (fun h5 hA5 hB5 => ?_)
              have hS5 := ST.st (v := f (5 * i + 3)) hA5 (fun _ => Or.inl trivial) (by omega) (by rw [rvx_t (by omega)])
              refine ex_go 80 rfl ?_
              exact ex_iret rfl (⟨rfl, hS5, hR.b8 (hB4.tr hB5), (hB4.tr hB5).ry8⟩)
            · rw [tv_inj gi gj] at h3
              exact no (fun c => c.2.2 h3)
      · have e : prm n m k = false := by unfold prm; rw [hm, hk, decide_eq_false (fun c => c hc)]; rfl
        rw [e]
        refine ex_go 80 rfl ?_
        exact ex_iret rfl (rq_s hS hR)
theorem r_watch (hM : MO h n q) (hS : ST h f im) (hR : RS h) (g : GD n f) {m : Int32} (b : Bool) (hd : 2 ≤ d) : ev_X scr d cd_X6_watch 0 [.ref 57, .int m, .int (nI (tb_b b))] [] h (RQ h (s_watch n f m b) im (.int (a_watch n f m))) := by
  have hn := g.1
  have hw := g.w
  unfold a_watch s_watch
  refine ex_go 80 rfl ?_
  refine ex_cv rfl rfl rfl rfl hM rfl (d' := 1) (by omega) (c_isMan hM hn (Nat.le_refl _)) ?_
  cases hm : isM n m
  · have er : rit n f m = -1 := by unfold rit; rw [hm]; rfl
    rw [er, if_neg (by decide), if_neg (by decide)]
    refine ex_zneF rfl (by decide) ?_
    refine ex_go 80 rfl ?_
    exact ex_iret rfl (rq_s hS hR)
  · obtain ⟨i, hi, rfl⟩ := isM_of hm (by omega)
    obtain ⟨g1, g2, g3, g4, g5, g6⟩ := g.2.1 i hi
    have er : rit n f (nI i) = if f (5 * i + 3) < 4 then 0 else -2 := by unfold rit; rw [hm, ix_nI (by omega)]; rfl
    rw [er, ix_nI (by omega)]
    refine ex_zneT rfl (by decide) ?_
    refine ex_go 80 rfl ?_
    refine ex_cv rfl rfl rfl rfl hM rfl (d' := 0) (by omega) (c_isWanderer hM hS (by omega) g4) ?_
    by_cases c : f (5 * i + 3) = 4
    · rw [decide_eq_true c, if_neg (show ¬ f (5 * i + 3) < 4 by omega), if_neg (by decide), if_neg (by decide)]
      refine ex_zeqF rfl (by decide) ?_
      refine ex_go 80 rfl ?_
      exact ex_iret rfl (rq_s hS hR)
    · rw [decide_eq_false c, if_pos (show f (5 * i + 3) < 4 by omega), if_pos rfl, if_pos rfl]
      refine ex_zeqT rfl (by decide) ?_
      refine ex_go 80 rfl ?_
      refine ex_cvx rfl rfl rfl rfl hM rfl (d' := 0) (by omega) (c_becomesBit (k := 40) hM hS b (by decide) (by decide) (by omega) (by omega)) ?_
      rintro v1 h1 ⟨rfl, hS1, hB1⟩
      exact ex_iret rfl (rq_8 hS1 hR hB1)
theorem r_kin (hM : MO h n q) (hS : ST h f im) (hR : RS h) (g : GD n f) {m k : Int32} (b : Bool) (hd : 2 ≤ d) : ev_X scr d cd_X6_kin 0 [.ref 57, .int m, .int k, .int (nI (tb_b b))] [] h (RQ h (s_kin n f m k b) im (.int (a_kin n f m k))) := by
  have hn := g.1
  unfold a_kin s_kin
  refine ex_go 80 rfl ?_
  refine ex_cv rfl rfl rfl rfl hM rfl (d' := 1) (by omega) (c_isMan hM hn (Nat.le_refl _)) ?_
  cases hm : isM n m
  · have e : prm n m k = false := by unfold prm; rw [hm]; rfl
    rw [e]
    refine ex_zeqT rfl (by decide) ?_
    refine ex_go 80 rfl ?_
    exact ex_iret rfl (rq_s hS hR)
  · refine ex_zeqF rfl (by decide) ?_
    refine ex_go 80 rfl ?_
    refine ex_cv rfl rfl rfl rfl hM rfl (d' := 1) (by omega) (c_isMan hM hn (Nat.le_refl _)) ?_
    cases hk : isM n k
    · have e : prm n m k = false := by unfold prm; rw [hm, hk]; rfl
      rw [e]
      refine ex_zeqT rfl (by decide) ?_
      refine ex_go 80 rfl ?_
      exact ex_iret rfl (rq_s hS hR)
    · refine ex_zeqF rfl (by decide) ?_
      refine ex_go 80 rfl ?_
      refine ex_ine rfl (fun hc => ?_) (fun hc => ?_)
      · have e : prm n m k = true := by unfold prm; rw [hm, hk, decide_eq_true hc]; rfl
        obtain ⟨i, j, hi, hj, hij, rfl, rfl, ei, ej⟩ := prm_of hn e
        rw [e, ei, ej, if_pos rfl, if_pos rfl]
        have gi := g.2.2.2.2.2.1 i (by omega)
        have gj := g.2.2.2.2.2.1 j (by omega)
        refine ex_go 80 rfl ?_
        try dsimp only
        try simp only [nI_inc, nI_1, nI_add, nI_mul2, tb_and, tb_or, tb_andn, nI_x5, nI_x2, nI_p0, nI_p2, nI_p3, nI_p4, nI_q45]
        refine ex_cvx rfl rfl rfl rfl hM rfl (d' := 0) (by omega) (c_becomesBit hM hS b (by omega) (by omega) (by omega) (by omega)) ?_
        rintro v1 h1 ⟨rfl, hS1, hB1⟩
        have hM1 := hB1.mo hM (by decide)
        have e4 : ∀ v, up f (5 * j + 4) v (5 * i + 4) = f (5 * i + 4) := fun v => up_ne (by omega)
        refine ex_go 80 rfl ?_
        try dsimp only
        try simp only [nI_inc, nI_1, nI_add, nI_mul2, tb_and, tb_or, tb_andn, nI_x5, nI_x2, nI_p0, nI_p2, nI_p3, nI_p4, nI_q45]
        refine ex_cvx rfl rfl rfl rfl hM1 rfl (d' := 0) (by omega) (c_becomesBit hM1 hS1 b (by omega) (by omega) (by rw [e4]; omega) (by omega)) ?_
        rintro v2 h2 ⟨rfl, hS2, hB2⟩
        rw [e4] at hS2
        rw [e4, up_comm (by omega)] at *
        exact ex_iret rfl (⟨rfl, hS2, hR.b8 (hB1.tr hB2), (hB1.tr hB2).ry8⟩)
      · have e : prm n m k = false := by unfold prm; rw [hm, hk, decide_eq_false (fun c => c hc)]; rfl
        rw [e]
        refine ex_go 80 rfl ?_
        exact ex_iret rfl (rq_s hS hR)
theorem r_odd (hM : MO h n q) (hS : ST h f im) (hR : RS h) (g : GD n f) {m v : Int32} (hd : 2 ≤ d) : ev_X scr d cd_X6_odd 0 [.ref 57, .int m, .int v] [] h (RQ h (s_odd n f m v) im (.int (a_odd n f m v))) := by
  have hn := g.1
  unfold a_odd s_odd
  refine ex_go 80 rfl ?_
  refine ex_cv rfl rfl rfl rfl hM rfl (d' := 1) (by omega) (c_isMan hM hn (Nat.le_refl _)) ?_
  cases hm : isM n m
  · refine ex_zeqT rfl (by decide) ?_
    refine ex_go 80 rfl ?_
    exact ex_iret rfl (rq_s hS hR)
  · obtain ⟨i, hi, rfl⟩ := isM_of hm (by omega)
    have gi := (g.2.1 i hi).1
    refine ex_zeqF rfl (by decide) ?_
    refine ex_go 80 rfl ?_
    try dsimp only
    try simp only [nI_inc, nI_1, nI_add, nI_mul2, tb_and, tb_or, tb_andn, nI_x5, nI_x2, nI_p0, nI_p2, nI_p3, nI_p4, nI_q45]
    refine ex_cs rfl rfl rfl (d' := 0) (by omega) (c_in0 10 (by decide)) ?_
    cases hv : isM 10 v
    · refine ex_zneF rfl (by decide) ?_
      refine ex_go 80 rfl ?_
      exact ex_iret rfl (rq_s hS hR)
    · obtain ⟨j, hj, rfl⟩ := isM_of hv (by omega)
      rw [ix_nI (by omega), ix_nI (by omega), Bool.true_and, if_pos rfl, if_pos rfl]
      refine ex_zneT rfl (by decide) ?_
      refine ex_go 80 rfl ?_
      refine ex_getf rfl hM rfl rfl ?_
      refine ex_go 80 rfl ?_
      try dsimp only
      try simp only [nI_inc, nI_1, nI_add, nI_mul2, tb_and, tb_or, tb_andn, nI_x5, nI_x2, nI_p0, nI_p2, nI_p3, nI_p4, nI_q45]
      refine ex_ia _ rfl hS rfl (by first | exact trivial | assumption | (show _ < _; omega)) (by omega) (by omega) rfl ?_
      simp (disch := omega) only [rs_lt, rv_0, rv_1, rv_2, rv_3, rv_4, rv_40, rv_41, rv_42, rv_43, rv_44]
      refine ex_go 80 rfl ?_
      refine ex_ine rfl (fun hc => ?_) (fun hc => ?_)
      · have h2 : ¬ f (5 * i) = 2 := fun q => hc (by rw [q]; rfl)
        rw [if_neg h2, if_neg h2]
        refine ex_go 80 rfl ?_
        try dsimp only
        try simp only [nI_inc, nI_1, nI_add, nI_mul2, tb_and, tb_or, tb_andn, nI_x5, nI_x2, nI_p0, nI_p2, nI_p3, nI_p4, nI_q45]
        refine ex_cvx rfl rfl rfl rfl hM rfl (d' := 0) (by omega) (c_becomes (v := j) hM hS (by omega) (by rw [rvx_n (by omega)])) ?_
        rintro v1 h1 ⟨rfl, hS1, hB1⟩
        rw [rv_1]
        exact ex_iret rfl (rq_8 hS1 hR hB1)
      · have h2 : f (5 * i) = 2 := (nI_eq (b := 2) (by omega) (by decide)).mp hc
        rw [if_pos h2, if_pos h2]
        refine ex_go 80 rfl ?_
        exact ex_iret rfl (rq_s hS hR)
theorem r_goods (hM : MO h n q) (hS : ST h f im) (hR : RS h) (g : GD n f) {m v : Int32} (hd : 2 ≤ d) : ev_X scr d cd_X6_goods 0 [.ref 57, .int m, .int v] [] h (RQ h (s_goods n f m v) im (.int (a_goods n f m v))) := by
  have hn := g.1
  unfold a_goods s_goods
  refine ex_go 80 rfl ?_
  refine ex_cv rfl rfl rfl rfl hM rfl (d' := 1) (by omega) (c_isMan hM hn (Nat.le_refl _)) ?_
  cases hm : isM n m
  · refine ex_zeqT rfl (by decide) ?_
    refine ex_go 80 rfl ?_
    exact ex_iret rfl (rq_s hS hR)
  · obtain ⟨i, hi, rfl⟩ := isM_of hm (by omega)
    refine ex_zeqF rfl (by decide) ?_
    refine ex_go 80 rfl ?_
    try dsimp only
    try simp only [nI_inc, nI_1, nI_add, nI_mul2, tb_and, tb_or, tb_andn, nI_x5, nI_x2, nI_p0, nI_p2, nI_p3, nI_p4, nI_q45]
    refine ex_cs rfl rfl rfl (d' := 0) (by omega) (c_in0 100 (by decide)) ?_
    cases hv : isM 100 v
    · refine ex_zeqT rfl (by decide) ?_
      refine ex_go 80 rfl ?_
      exact ex_iret rfl (rq_s hS hR)
    · obtain ⟨j, hj, rfl⟩ := isM_of hv (by omega)
      rw [ix_nI (by omega), ix_nI (by omega), Bool.true_and, if_pos rfl, if_pos rfl]
      refine ex_zeqF rfl (by decide) ?_
      refine ex_go 80 rfl ?_
      try dsimp only
      try simp only [nI_inc, nI_1, nI_add, nI_mul2, tb_and, tb_or, tb_andn, nI_x5, nI_x2, nI_p0, nI_p2, nI_p3, nI_p4, nI_q45]
      refine ex_cvx rfl rfl rfl rfl hM rfl (d' := 0) (by omega) (c_becomes (v := j) hM hS (by omega) (by rw [rvx_n (by omega)])) ?_
      rintro v1 h1 ⟨rfl, hS1, hB1⟩
      rw [rv_2]
      refine ex_go 80 rfl ?_
      exact ex_iret rfl (rq_8 hS1 hR hB1)
theorem r_law (hM : MO h n q) (hS : ST h f im) (hR : RS h) {w v : Int32} (hd : 2 ≤ d) : ev_X scr d cd_X6_law 0 [.ref 57, .int w, .int v] [] h (RQ h (s_law f w v) im (.int (a_law f w v))) := by
  unfold a_law s_law
  refine ex_go 80 rfl ?_
  refine ex_cs rfl rfl rfl (d' := 1) (by omega) (c_isPart (Nat.le_refl _)) ?_
  cases hw : isM 2 w
  · have h0 : ¬ w = 0 := fun c => by rw [c] at hw; exact absurd hw (by decide)
    have h1 : ¬ w = 1 := fun c => by rw [c] at hw; exact absurd hw (by decide)
    rw [decide_eq_false h0, decide_eq_false h1]
    refine ex_zeqT rfl (by decide) ?_
    refine ex_go 80 rfl ?_
    exact ex_iret rfl (rq_s hS hR)
  · obtain ⟨j, hj, rfl⟩ := isM_of hw (by omega)
    refine ex_zeqF rfl (by decide) ?_
    rcases (by omega : j = 0 ∨ j = 1) with rfl | rfl
    · rw [show decide (nI 0 = 0) = true from rfl, show decide (nI 0 = 1) = false from by decide]
      refine ex_go 80 rfl ?_
      try dsimp only
      try simp only [nI_inc, nI_1, nI_add, nI_mul2, tb_and, tb_or, tb_andn, nI_x5, nI_x2, nI_p0, nI_p2, nI_p3, nI_p4, nI_q45]
      refine ex_zneF rfl (by decide) ?_
      refine ex_go 80 rfl ?_
      refine ex_cs rfl rfl rfl (d' := 0) (by omega) (c_in0 100 (by decide)) ?_
      cases hv : isM 100 v
      · refine ex_zneF rfl (by decide) ?_
        refine ex_go 80 rfl ?_
        exact ex_iret rfl (rq_s hS hR)
      · obtain ⟨j, hj, rfl⟩ := isM_of hv (by omega)
        rw [ix_nI (by omega)]
        refine ex_zneT rfl (by decide) ?_
        refine ex_go 80 rfl ?_
        refine ex_zneF rfl (by decide) ?_
        refine ex_go 80 rfl ?_
        refine ex_cvx rfl rfl rfl rfl hM rfl (d' := 0) (by omega) (c_becomes (k := 41) (v := j) hM hS (by omega) (by rw [rvx_n (by omega)])) ?_
        rintro v1 h1 ⟨rfl, hS1, hB1⟩
        exact ex_iret rfl (rq_8 hS1 hR hB1)
    · rw [show decide (nI 1 = 0) = false from by decide, show decide (nI 1 = 1) = true from rfl]
      refine ex_go 80 rfl ?_
      try dsimp only
      try simp only [nI_inc, nI_1, nI_add, nI_mul2, tb_and, tb_or, tb_andn, nI_x5, nI_x2, nI_p0, nI_p2, nI_p3, nI_p4, nI_q45]
      refine ex_zneT rfl (by decide) ?_
      refine ex_go 80 rfl ?_
      refine ex_cs rfl rfl rfl (d' := 0) (by omega) (c_in0 10 (by decide)) ?_
      cases hv : isM 10 v
      · refine ex_zneF rfl (by decide) ?_
        refine ex_go 80 rfl ?_
        exact ex_iret rfl (rq_s hS hR)
      · obtain ⟨j, hj, rfl⟩ := isM_of hv (by omega)
        rw [ix_nI (by omega)]
        refine ex_zneT rfl (by decide) ?_
        refine ex_go 80 rfl ?_
        refine ex_zneT rfl (by decide) ?_
        refine ex_go 80 rfl ?_
        refine ex_cvx rfl rfl rfl rfl hM rfl (d' := 0) (by omega) (c_becomes (k := 42) (v := j) hM hS (by omega) (by rw [rvx_n (by omega)])) ?_
        rintro v1 h1 ⟨rfl, hS1, hB1⟩
        exact ex_iret rfl (rq_8 hS1 hR hB1)
end RCALLS
