/-! text: the model's next token, whole. -/
def MN (tp : Nat → Nat) (tl p : Nat) (q q' : Nat → Int32) : Prop := (∀ j, j < 5 ∨ j = 11 → q' j = q j) ∧ q' 6 = nI (tS tp tl p) ∧ (tO tp tl p = true → q' 9 = 0 ∧ q' 5 = nI (tE tp tl p) ∧ q' 7 = nI (tK tp tl p) ∧ (tK tp tl p = 2 → q' 8 = nI (tV tp tl p))) ∧ (tO tp tl p = false → q' 9 = 1 ∧ q' 10 = nI (tS tp tl p))
section MTOK
variable {scr : List Int32} {d : Nat} {h : ev_H} {n : Nat} {q : Nat → Int32} {tp : Nat → Nat} {tl p : Nat}
/-- the loop over letters -/
theorem c_nextN {u : Nat → Int32} (hM : MO h n u) (hTp : IA h 64 160 (fun i => i < tl) (fun i => nI (tp i))) (hq : u 4 = nI tl) (ht : tl ≤ 160) (hb : ∀ i, i < tl → tp i < 128) {s : Nat} (h5 : u 5 = nI s) (hs : s ≤ tl) {c : Int32} (hd : 1 ≤ d) : ev_X scr d cd_X6_next 42 [.ref 57, .int c] [] h (fun v h' => v = none ∧ MO h' n (ux u 5 (nI (run tp tl (qB 97 122) s))) ∧ SB 57 h h') := by
  have e0 : ux u 5 (nI s) = u := by
    funext j
    unfold ux
    split
    · rename_i e; rw [e, h5]
    · rfl
  have L : ∀ h1, MO h1 n (ux u 5 (nI s)) → SB 57 h h1 → ev_X scr d cd_X6_next 42 [.ref 57, .int c] [] h1 (fun v h' => v = none ∧ MO h' n (ux u 5 (nI (run tp tl (qB 97 122) s))) ∧ SB 57 h h') := by
    refine ev_loopF s (tl + 1) (by omega) (fun i => i ≤ tl → run tp tl (qB 97 122) i = run tp tl (qB 97 122) s → ∀ h1, MO h1 n (ux u 5 (nI i)) → SB 57 h h1 → ev_X scr d cd_X6_next 42 [.ref 57, .int c] [] h1 (fun v h' => v = none ∧ MO h' n (ux u 5 (nI (run tp tl (qB 97 122) s))) ∧ SB 57 h h')) (fun i hi1 hi2 K hit hr h1 hO1 hB1 => ?_) (fun hit => absurd hit (by omega)) hs rfl
    · have hT1 := hTp.sb hB1 (by decide)
      have e4 : ux u 5 (nI i) 4 = nI tl := by rw [ux_ne (by decide)]; exact hq
      have e5 : ux u 5 (nI i) 5 = nI i := ux_eq
      refine ex_nop rfl ?_
      refine ex_go 80 rfl ?_
      refine ex_getf rfl hO1 rfl rfl ?_
      rw [e5]
      refine ex_cv rfl rfl rfl rfl hO1 rfl (d' := 0) (by omega) (c_byteAt hO1 hT1 e4 ht (by omega)) ?_
      refine ex_go 80 rfl ?_
      try dsimp only
      try simp only [nI_inc, nI_1, nI_add, nI_mul2, tb_and, tb_or, tb_andn, nI_x5, nI_x2, nI_p0, nI_p2, nI_p3, nI_p4, nI_q45]
      refine ex_cs rfl rfl rfl (d' := 0) (by omega) (c_inB (lo := 97) (hi := 122) ht hb (by decide) (by decide)) ?_
      by_cases c1 : i < tl ∧ qB 97 122 (tp i) = true
      · rw [decide_eq_true c1.1, c1.2]
        rw [run_t c1.1 c1.2] at hr
        refine ex_zeqF rfl (by decide) ?_
        refine ex_go 80 rfl ?_
        refine ex_getf rfl hO1 rfl rfl ?_
        refine ex_go 80 rfl ?_
        try dsimp only
        try simp only [nI_inc, nI_1, nI_add, nI_mul2, tb_and, tb_or, tb_andn, nI_x5, nI_x2, nI_p0, nI_p2, nI_p3, nI_p4, nI_q45]
        rw [e5, nI_1]
        refine ex_pf rfl hO1 rfl rfl (fun h2 hO2 hB2 => ?_)
        have hO3 : MO h2 n (ux u 5 (nI (i + 1))) := by
          refine Eq.trans hO2 ?_
          rfl
        refine ex_go 80 rfl ?_
        exact K (by omega) hr h2 hO3 (hB1.tr hB2)
      · have ef : (decide (i < tl) && qB 97 122 (tp i)) = false := by
          cases hx : (decide (i < tl) && qB 97 122 (tp i))
          · rfl
          · rw [Bool.and_eq_true, decide_eq_true_eq] at hx
            exact absurd hx c1
        rw [ef]
        rw [run_f c1] at hr
        rw [← hr]
        refine ex_zeqT rfl (by decide) ?_
        exact ex_vret rfl (⟨rfl, hO1, hB1⟩)
  exact L h (by rw [e0]; exact hM) SB.rf
end MTOK
