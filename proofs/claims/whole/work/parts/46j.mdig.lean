/-! text: the model's figures. -/
section MDIG
variable {scr : List Int32} {d : Nat} {h : ev_H} {n : Nat} {tp : Nat → Nat} {tl : Nat}
theorem c_nextD {u : Nat → Int32} (hM : MO h n u) (hTp : IA h 64 160 (fun i => i < tl) (fun i => nI (tp i))) (hq : u 4 = nI tl) (ht : tl ≤ 160) (hb : ∀ i, i < tl → tp i < 128) {s : Nat} (h5 : u 5 = nI s) (h6 : u 6 = nI s) (h8 : u 8 = nI 0) (h9 : u 9 = 0) (hs : s ≤ tl) {c : Int32} (hd : 1 ≤ d) : ev_X scr d cd_X6_next 71 [.ref 57, .int c] [] h (fun v h' => v = none ∧ SB 57 h h' ∧ ∃ u', MO h' n u' ∧ (∀ j, j < 5 ∨ j = 6 ∨ j = 7 ∨ j = 11 → u' j = u j) ∧ u' 5 = nI (run tp tl (qB 48 57) s) ∧ (run tp tl (qB 48 57) s - s ≤ 2 → u' 9 = 0 ∧ u' 8 = nI (vlu tp s (run tp tl (qB 48 57) s - s))) ∧ (¬ run tp tl (qB 48 57) s - s ≤ 2 → u' 9 = 1 ∧ u' 10 = nI s)) := by
  obtain ⟨r1, r2⟩ := run_le (tp := tp) (Q := qB 48 57) hs
  have e0 : ux (ux u 8 (nI (vlu tp s (min (s - s) 2)))) 5 (nI s) = u := by
    funext j
    unfold ux
    split
    · rename_i e; rw [e, h5]
    · split
      · rename_i e
        rw [e, h8, Nat.sub_self]
        rfl
      · rfl
  have L : ∀ h1, MO h1 n (ux (ux u 8 (nI (vlu tp s (min (s - s) 2)))) 5 (nI s)) → SB 57 h h1 → ev_X scr d cd_X6_next 71 [.ref 57, .int c] [] h1 (fun v h' => v = none ∧ SB 57 h h' ∧ ∃ u', MO h' n u' ∧ (∀ j, j < 5 ∨ j = 6 ∨ j = 7 ∨ j = 11 → u' j = u j) ∧ u' 5 = nI (run tp tl (qB 48 57) s) ∧ (run tp tl (qB 48 57) s - s ≤ 2 → u' 9 = 0 ∧ u' 8 = nI (vlu tp s (run tp tl (qB 48 57) s - s))) ∧ (¬ run tp tl (qB 48 57) s - s ≤ 2 → u' 9 = 1 ∧ u' 10 = nI s)) := by
    refine ev_loopF s (tl + 1) (by omega) (fun i => i ≤ tl → run tp tl (qB 48 57) i = run tp tl (qB 48 57) s → ∀ h1, MO h1 n (ux (ux u 8 (nI (vlu tp s (min (i - s) 2)))) 5 (nI i)) → SB 57 h h1 → ev_X scr d cd_X6_next 71 [.ref 57, .int c] [] h1 (fun v h' => v = none ∧ SB 57 h h' ∧ ∃ u', MO h' n u' ∧ (∀ j, j < 5 ∨ j = 6 ∨ j = 7 ∨ j = 11 → u' j = u j) ∧ u' 5 = nI (run tp tl (qB 48 57) s) ∧ (run tp tl (qB 48 57) s - s ≤ 2 → u' 9 = 0 ∧ u' 8 = nI (vlu tp s (run tp tl (qB 48 57) s - s))) ∧ (¬ run tp tl (qB 48 57) s - s ≤ 2 → u' 9 = 1 ∧ u' 10 = nI s))) (fun i hi1 hi2 K hit hr h1 hO1 hB1 => ?_) (fun hit => absurd hit (by omega)) hs rfl
    · have hT1 := hTp.sb hB1 (by decide)
      generalize hw : nI (vlu tp s (min (i - s) 2)) = w at *
      have e4 : ux (ux u 8 w) 5 (nI i) 4 = nI tl := by rw [ux_ne (by decide), ux_ne (by decide)]; exact hq
      have e5 : ux (ux u 8 w) 5 (nI i) 5 = nI i := ux_eq
      have e6 : ux (ux u 8 w) 5 (nI i) 6 = nI s := by rw [ux_ne (by decide), ux_ne (by decide)]; exact h6
      have e8 : ux (ux u 8 w) 5 (nI i) 8 = w := by rw [ux_ne (by decide), ux_eq]
      refine ex_nop rfl ?_
      refine ex_go 80 rfl ?_
      refine ex_getf rfl hO1 rfl rfl ?_
      rw [e5]
      refine ex_cv rfl rfl rfl rfl hO1 rfl (d' := 0) (by omega) (c_byteAt hO1 hT1 e4 ht (by omega)) ?_
      refine ex_go 80 rfl ?_
      try dsimp only
      try simp only [nI_inc, nI_1, nI_add, nI_mul2, tb_and, tb_or, tb_andn, nI_x5, nI_x2, nI_p0, nI_p2, nI_p3, nI_p4, nI_q45]
      refine ex_cs rfl rfl rfl (d' := 0) (by omega) (c_inB (lo := 48) (hi := 57) ht hb (by decide) (by decide)) ?_
      by_cases c1 : i < tl ∧ qB 48 57 (tp i) = true
      · rw [decide_eq_true c1.1, c1.2]
        rw [run_t c1.1 c1.2] at hr
        have hq48 : 48 ≤ tp i ∧ tp i ≤ 57 := by
          have := c1.2
          unfold qB at this
          rw [decide_eq_true_eq] at this
          exact this
        have tail : ∀ v8 : Int32, v8 = nI (vlu tp s (min (i + 1 - s) 2)) → ev_X scr d cd_X6_next 103 [.ref 57, .int c] [.int v8, .ref 57] h1 (fun v h' => v = none ∧ SB 57 h h' ∧ ∃ u', MO h' n u' ∧ (∀ j, j < 5 ∨ j = 6 ∨ j = 7 ∨ j = 11 → u' j = u j) ∧ u' 5 = nI (run tp tl (qB 48 57) s) ∧ (run tp tl (qB 48 57) s - s ≤ 2 → u' 9 = 0 ∧ u' 8 = nI (vlu tp s (run tp tl (qB 48 57) s - s))) ∧ (¬ run tp tl (qB 48 57) s - s ≤ 2 → u' 9 = 1 ∧ u' 10 = nI s)) := by
          intro v8 hv8
          refine ex_pf rfl hO1 rfl rfl (fun h2 hO2 hB2 => ?_)
          have hO2' : MO h2 n (ux (ux (ux u 8 w) 5 (nI i)) 8 v8) := hO2
          refine ex_go 80 rfl ?_
          refine ex_getf rfl hO2' rfl rfl ?_
          refine ex_go 80 rfl ?_
          dsimp only
          rw [ux_ne (by decide), e5, nI_1]
          refine ex_pf rfl hO2' rfl rfl (fun h3 hO3 hB3 => ?_)
          have hO4 : MO h3 n (ux (ux u 8 (nI (vlu tp s (min (i + 1 - s) 2)))) 5 (nI (i + 1))) := by
            rw [← hv8]
            refine Eq.trans hO3 ?_
            rfl
          refine ex_go 80 rfl ?_
          exact K (by omega) hr h3 hO4 ((hB1.tr hB2).tr hB3)
        refine ex_zeqF rfl (by decide) ?_
        refine ex_go 80 rfl ?_
        refine ex_getf rfl hO1 rfl rfl ?_
        refine ex_go 80 rfl ?_
        refine ex_getf rfl hO1 rfl rfl ?_
        refine ex_go 80 rfl ?_
        try dsimp only
        try simp only [nI_inc, nI_1, nI_add, nI_mul2, tb_and, tb_or, tb_andn, nI_x5, nI_x2, nI_p0, nI_p2, nI_p3, nI_p4, nI_q45]
        rw [e5, e6, pk_sub hi1]
        by_cases c2 : i - s < 2
        · have ev : vlu tp s (min (i + 1 - s) 2) = 10 * vlu tp s (min (i - s) 2) + (tp i - 48) := by
            rw [Nat.min_eq_left (by omega), Nat.min_eq_left (by omega), show i + 1 - s = (i - s) + 1 by omega, vlu, show s + (i - s) = i by omega]
          refine ex_igeF rfl (nI_ge (b := 2) c2 (by decide)) ?_
          refine ex_go 80 rfl ?_
          refine ex_getf rfl hO1 rfl rfl ?_
          refine ex_go 80 rfl ?_
          try dsimp only
          try simp only [nI_inc, nI_1, nI_add, nI_mul2, tb_and, tb_or, tb_andn, nI_x5, nI_x2, nI_p0, nI_p2, nI_p3, nI_p4, nI_q45]
          refine ex_getf rfl hO1 rfl rfl ?_
          rw [e8, e5]
          refine ex_cv rfl rfl rfl rfl hO1 rfl (d' := 0) (by omega) (c_byteAt hO1 hT1 e4 ht (by omega)) ?_
          refine ex_go 4 rfl ?_
          refine tail _ ?_
          show 10 * w + bA tp tl i - 48 = _
          rw [ev, ← hw, bA, if_pos c1.1, show (10 : Int32) = nI 10 from rfl, nI_mul2, nI_add, show (48 : Int32) = nI 48 from rfl, pk_sub (by omega)]
          congr 1
          omega
        · refine ex_igeT rfl (nI_le (a := 2) (by omega) (by omega)) ?_
          refine ex_go 80 rfl ?_
          refine ex_getf rfl hO1 rfl rfl ?_
          rw [e8]
          exact tail _ (by rw [← hw, Nat.min_eq_right (by omega), Nat.min_eq_right (by omega)])
      · have ef : (decide (i < tl) && qB 48 57 (tp i)) = false := by
          cases hx : (decide (i < tl) && qB 48 57 (tp i))
          · rfl
          · rw [Bool.and_eq_true, decide_eq_true_eq] at hx
            exact absurd hx c1
        rw [ef]
        rw [run_f c1] at hr
        rw [← hr]
        refine ex_zeqT rfl (by decide) ?_
        refine ex_go 80 rfl ?_
        refine ex_getf rfl hO1 rfl rfl ?_
        refine ex_go 80 rfl ?_
        refine ex_getf rfl hO1 rfl rfl ?_
        refine ex_go 80 rfl ?_
        try dsimp only
        try simp only [nI_inc, nI_1, nI_add, nI_mul2, tb_and, tb_or, tb_andn, nI_x5, nI_x2, nI_p0, nI_p2, nI_p3, nI_p4, nI_q45]
        rw [e5, e6, pk_sub hi1]
        refine ex_igtM 1 2 122 (v := nI (tb_b (decide (i - s ≤ 2)))) rfl rfl rfl (if01 (by rw [show (2 : Int32) = nI 2 from rfl, nI_ltI (by decide) (by omega)]; omega)) ?_
        refine ex_go 80 rfl ?_
        refine ex_cvx rfl rfl rfl rfl hO1 rfl (d' := 0) (by omega) (c_needs hO1 (decide (i - s ≤ 2))) ?_
        rintro v2 h2 ⟨rfl, hO2, hB2⟩
        have e9 : ux (ux u 8 w) 5 (nI i) 9 = 0 := by rw [ux_ne (by decide), ux_ne (by decide)]; exact h9
        refine ex_go 80 rfl (ex_vret rfl ⟨rfl, hB1.tr hB2, _, hO2, ?_⟩)
        unfold ndq
        by_cases c3 : i - s ≤ 2
        · rw [decide_eq_true c3, if_neg (fun z => absurd z.1 (by decide))]
          exact ⟨fun j hj => by rw [ux_ne (by omega), ux_ne (by omega)], e5, fun _ => ⟨e9, by rw [e8, ← hw, Nat.min_eq_left c3]⟩, fun z => absurd c3 z⟩
        · rw [decide_eq_false c3, if_pos ⟨rfl, e9⟩]
          exact ⟨fun j hj => by rw [ux_ne (by omega), ux_ne (by omega), ux_ne (by omega), ux_ne (by omega)], by rw [ux_ne (by decide), ux_ne (by decide)]; exact e5, fun z => absurd z c3, fun _ => ⟨by rw [ux_ne (by decide), ux_eq], by rw [ux_eq]; exact e6⟩⟩
  exact L h (by rw [e0]; exact hM) SB.rf
end MDIG
