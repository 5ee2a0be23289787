/-! text: the model's next token, all of it. -/
section MNXT
variable {scr : List Int32} {d : Nat} {h : ev_H} {n : Nat} {q : Nat → Int32} {tp : Nat → Nat} {tl p : Nat}
theorem c_next (hM : MO h n q) (hTp : IA h 64 160 (fun i => i < tl) (fun i => nI (tp i))) (hq : q 4 = nI tl) (ht : tl ≤ 160) (hb : ∀ i, i < tl → tp i < 128) (h9 : q 9 = 0) (h5 : q 5 = nI p) (hp : p ≤ tl) (hd : 2 ≤ d) : ev_X scr d cd_X6_next 0 [.ref 57, .float 0] [] h (fun v h' => v = none ∧ SB 57 h h' ∧ ∃ q', MO h' n q' ∧ MN tp tl p q q') := by
  obtain ⟨r1, r2⟩ := run_le (tp := tp) (Q := qS) hp
  have r3 := run_end (tp := tp) (Q := qS) hp
  have e0 : ux q 5 (nI p) = q := by
    funext j
    unfold ux
    split
    · rename_i e; rw [e, h5]
    · rfl
  have dS : tS tp tl p = run tp tl qS p := rfl
  have M : ∀ h1, MO h1 n (ux q 5 (nI (tS tp tl p))) → SB 57 h h1 → ev_X scr d cd_X6_next 18 [.ref 57, .float 0] [] h1 (fun v h' => v = none ∧ SB 57 h h' ∧ ∃ q', MO h' n q' ∧ MN tp tl p q q') := by
    intro h1 hO1 hB1
    refine ex_go 80 rfl ?_
    refine ex_getf rfl hO1 rfl rfl ?_
    refine ex_pf rfl hO1 rfl rfl (fun h2 hO2 hB2 => ?_)
    have hO2' : MO h2 n (ux (ux q 5 (nI (tS tp tl p))) 6 (nI (tS tp tl p))) := hO2
    have hBB := hB1.tr hB2
    have hT2 := hTp.sb hBB (by decide)
    generalize hu : ux (ux q 5 (nI (tS tp tl p))) 6 (nI (tS tp tl p)) = u at *
    have u5 : u 5 = nI (tS tp tl p) := by rw [← hu, ux_ne (by decide), ux_eq]
    have u6 : u 6 = nI (tS tp tl p) := by rw [← hu, ux_eq]
    have u4 : u 4 = nI tl := by rw [← hu, ux_ne (by decide), ux_ne (by decide)]; exact hq
    have u9 : u 9 = 0 := by rw [← hu, ux_ne (by decide), ux_ne (by decide)]; exact h9
    have uo : ∀ j, j < 5 ∨ j = 11 → u j = q j := fun j hj => by rw [← hu, ux_ne (by omega), ux_ne (by omega)]
    refine ex_go 80 rfl ?_
    refine ex_getf rfl hO2' rfl rfl ?_
    rw [u5]
    refine ex_cv rfl rfl rfl rfl hO2' rfl (d' := 0) (by omega) (c_byteAt hO2' hT2 u4 ht (by omega)) ?_
    by_cases c : tS tp tl p < tl
    · have hbs := hb _ c
      have eb : bA tp tl (tS tp tl p) = nI (tp (tS tp tl p)) := if_pos c
      have ge0 : (0 : Int32) ≤ bA tp tl (tS tp tl p) := by rw [eb]; exact nI_pos' (by omega)
      refine ex_go 80 rfl ?_
      refine ex_zgeT rfl (ge0) ?_
      refine ex_go 80 rfl ?_
      try dsimp only
      try simp only [nI_inc, nI_1, nI_add, nI_mul2, tb_and, tb_or, tb_andn, nI_x5, nI_x2, nI_p0, nI_p2, nI_p3, nI_p4, nI_q45]
      refine ex_cs rfl rfl rfl (d' := 0) (by omega) (c_inB (lo := 97) (hi := 122) ht hb (by decide) (by decide)) ?_
      rw [decide_eq_true c, Bool.true_and]
      cases ca : qB 97 122 (tp (tS tp tl p))
      · refine ex_zeqT rfl (by decide) ?_
        refine ex_go 80 rfl ?_
        try dsimp only
        try simp only [nI_inc, nI_1, nI_add, nI_mul2, tb_and, tb_or, tb_andn, nI_x5, nI_x2, nI_p0, nI_p2, nI_p3, nI_p4, nI_q45]
        refine ex_cs rfl rfl rfl (d' := 0) (by omega) (c_inB (lo := 48) (hi := 57) ht hb (by decide) (by decide)) ?_
        rw [decide_eq_true c, Bool.true_and]
        cases cd : qB 48 57 (tp (tS tp tl p))
        · refine ex_zeqT rfl (by decide) ?_
          refine ex_go 80 rfl ?_
          refine ex_pf rfl hO2' rfl rfl (fun h5' hO5 hB5 => ?_)
          have hO5' : MO h5' n (ux u 7 3) := hO5
          refine ex_go 80 rfl ?_
          refine ex_ineM 1 2 135 (v := nI (tb_b (decide (tp (tS tp tl p) = 59)))) rfl rfl rfl (if10 (by rw [eb]; exact nI_eq (b := 59) (by omega) (by decide))) ?_
          refine ex_go 80 rfl ?_
          refine ex_cvx rfl rfl rfl rfl hO5' rfl (d' := 0) (by omega) (c_needs hO5' (decide (tp (tS tp tl p) = 59))) ?_
          rintro v6 h6 ⟨rfl, hO6, hB6⟩
          refine ex_go 80 rfl ?_
          refine ex_getf rfl hO6 rfl rfl ?_
          refine ex_go 80 rfl ?_
          try dsimp only
          try simp only [nI_inc, nI_1, nI_add, nI_mul2, tb_and, tb_or, tb_andn, nI_x5, nI_x2, nI_p0, nI_p2, nI_p3, nI_p4, nI_q45]
          refine ex_pf rfl hO6 rfl rfl (fun h7 hO7 hB7 => ?_)
          have e9 : ux u 7 3 9 = 0 := by rw [ux_ne (by decide)]; exact u9
          by_cases c59 : tp (tS tp tl p) = 59
          · have kK : tK tp tl p = 3 := by unfold tK; rw [if_neg (by omega), if_pos c59]
            have kE : tE tp tl p = tS tp tl p + 1 := by unfold tE; rw [if_pos kK]
            have kO : tO tp tl p = true := by unfold tO; rw [kK]; rfl
            have en : ndq (ux u 7 3) (decide (tp (tS tp tl p) = 59)) 1 = ux u 7 3 := by unfold ndq; rw [decide_eq_true c59, if_neg (fun z => absurd z.1 (by decide))]
            rw [en] at hO7
            have hO7' : MO h7 n (ux (ux u 7 3) 5 (u 5 + 1)) := hO7
            refine ex_vret rfl ⟨rfl, (hBB.tr hB5).tr (hB6.tr hB7), _, hO7', fun j hj => ?_, ?_, fun _ => ⟨?_, ?_, ?_, fun z => ?_⟩, fun z => ?_⟩
            · rw [ux_ne (by omega), ux_ne (by omega), uo j hj]
            · rw [ux_ne (by decide), ux_ne (by decide), u6]
            · rw [ux_ne (by decide), ux_ne (by decide), u9]
            · rw [ux_eq, u5, kE, nI_1]
            · rw [ux_ne (by decide), ux_eq, kK]; rfl
            · rw [kK] at z; exact absurd z (by decide)
            · rw [kO] at z; exact absurd z (by decide)
          · have kK : tK tp tl p = 4 := by unfold tK; rw [if_neg (by omega), if_neg c59, ca, if_neg (by decide), cd, if_neg (by decide)]
            have kO : tO tp tl p = false := by unfold tO; rw [kK]; exact decide_eq_false (fun z => z.1 rfl)
            have en : ndq (ux u 7 3) (decide (tp (tS tp tl p) = 59)) 1 = ux (ux (ux u 7 3) 9 1) 10 (ux u 7 3 6) := by unfold ndq; rw [decide_eq_false c59, if_pos ⟨rfl, e9⟩]
            rw [en] at hO7
            have hO7' : MO h7 n (ux (ux (ux (ux u 7 3) 9 1) 10 (ux u 7 3 6)) 5 (u 5 + 1)) := hO7
            refine ex_vret rfl ⟨rfl, (hBB.tr hB5).tr (hB6.tr hB7), _, hO7', fun j hj => ?_, ?_, fun z => ?_, fun _ => ⟨?_, ?_⟩⟩
            · rw [ux_ne (by omega), ux_ne (by omega), ux_ne (by omega), ux_ne (by omega), uo j hj]
            · rw [ux_ne (by decide), ux_ne (by decide), ux_ne (by decide), ux_ne (by decide), u6]
            · rw [kO] at z; exact absurd z (by decide)
            · rw [ux_ne (by decide), ux_ne (by decide), ux_eq]
            · rw [ux_ne (by decide), ux_eq, ux_ne (by decide), u6]
        · have c59 : ¬ tp (tS tp tl p) = 59 := fun z => by rw [z] at cd; exact absurd cd (by decide)
          have kK : tK tp tl p = 2 := by unfold tK; rw [if_neg (by omega), if_neg c59, ca, if_neg (by decide), cd, if_pos rfl]
          have kE : tE tp tl p = run tp tl (qB 48 57) (tS tp tl p) := by unfold tE; rw [kK, if_neg (by decide), if_neg (by decide), if_pos rfl]
          have kO : tO tp tl p = decide (run tp tl (qB 48 57) (tS tp tl p) - tS tp tl p ≤ 2) := by
            unfold tO
            rw [kK, kE]
            refine decide_eq_decide.mpr ?_
            constructor
            · intro z
              apply Classical.byContradiction
              intro w
              exact z.2 ⟨rfl, by omega⟩
            · intro z
              exact ⟨by decide, fun w => by omega⟩
          refine ex_zeqF rfl (by decide) ?_
          refine ex_go 80 rfl ?_
          refine ex_pf rfl hO2' rfl rfl (fun h5' hO5 hB5 => ?_)
          have hO5' : MO h5' n (ux u 7 2) := hO5
          refine ex_go 80 rfl ?_
          refine ex_pf rfl hO5' rfl rfl (fun h6 hO6 hB6 => ?_)
          have hO6' : MO h6 n (ux (ux u 7 2) 8 0) := hO6
          have hB6' := (hBB.tr hB5).tr hB6
          refine ex_mono (c_nextD (s := tS tp tl p) hO6' (hTp.sb hB6' (by decide)) (by rw [ux_ne (by decide), ux_ne (by decide)]; exact u4) ht hb (by rw [ux_ne (by decide), ux_ne (by decide)]; exact u5) (by rw [ux_ne (by decide), ux_ne (by decide)]; exact u6) ux_eq (by rw [ux_ne (by decide), ux_ne (by decide)]; exact u9) (by omega) (by omega)) ?_
          rintro v7 h7 ⟨rfl, hB7, u', hO7, q1, q2, q3, q4⟩
          refine ⟨rfl, hB6'.tr hB7, u', hO7, fun j hj => ?_, ?_, fun z => ?_, fun z => ?_⟩
          · rw [q1 j (by omega), ux_ne (by omega), ux_ne (by omega), uo j hj]
          · rw [q1 6 (by omega), ux_ne (by decide), ux_ne (by decide), u6]
          · rw [kO, decide_eq_true_eq] at z
            obtain ⟨w1, w2⟩ := q3 z
            exact ⟨w1, by rw [q2, kE], by rw [q1 7 (by omega), ux_ne (by decide), ux_eq, kK]; rfl, fun _ => by rw [w2]; unfold tV; rw [kE]⟩
          · rw [kO, decide_eq_false_iff_not] at z
            exact q4 z
      · have c59 : ¬ tp (tS tp tl p) = 59 := fun z => by rw [z] at ca; exact absurd ca (by decide)
        have kK : tK tp tl p = 1 := by unfold tK; rw [if_neg (by omega), if_neg c59, ca, if_pos rfl]
        have kE : tE tp tl p = run tp tl (qB 97 122) (tS tp tl p) := by unfold tE; rw [kK, if_neg (by decide), if_pos rfl]
        have kO : tO tp tl p = true := by unfold tO; rw [kK]; exact decide_eq_true ⟨by decide, fun z => absurd z.1 (by decide)⟩
        refine ex_zeqF rfl (by decide) ?_
        refine ex_go 80 rfl ?_
        refine ex_pf rfl hO2' rfl rfl (fun h5' hO5 hB5 => ?_)
        have hO5' : MO h5' n (ux u 7 1) := hO5
        have hB5' := hBB.tr hB5
        refine ex_mono (c_nextN (s := tS tp tl p) hO5' (hTp.sb hB5' (by decide)) (by rw [ux_ne (by decide)]; exact u4) ht hb (by rw [ux_ne (by decide)]; exact u5) (by omega) (by omega)) ?_
        rintro v7 h7 ⟨rfl, hO7, hB7⟩
        refine ⟨rfl, hB5'.tr hB7, _, hO7, fun j hj => ?_, ?_, fun _ => ⟨?_, ?_, ?_, fun z => ?_⟩, fun z => ?_⟩
        · rw [ux_ne (by omega), ux_ne (by omega), uo j hj]
        · rw [ux_ne (by decide), ux_ne (by decide), u6]
        · rw [ux_ne (by decide), ux_ne (by decide), u9]
        · rw [ux_eq, kE]
        · rw [ux_ne (by decide), ux_eq, kK]; rfl
        · rw [kK] at z; exact absurd z (by decide)
        · rw [kO] at z; exact absurd z (by decide)
    · have eb : bA tp tl (tS tp tl p) = -1 := if_neg c
      have kK : tK tp tl p = 0 := by unfold tK; rw [if_pos (by omega)]
      have kE : tE tp tl p = tS tp tl p := by unfold tE; rw [kK, if_neg (by decide), if_neg (by decide), if_neg (by decide)]
      have kO : tO tp tl p = true := by unfold tO; rw [kK]; exact decide_eq_true ⟨by decide, fun z => absurd z.1 (by decide)⟩
      rw [eb]
      refine ex_go 80 rfl ?_
      refine ex_zgeF rfl (by decide) ?_
      refine ex_go 80 rfl ?_
      refine ex_pf rfl hO2' rfl rfl (fun h5' hO5 hB5 => ?_)
      have hO5' : MO h5' n (ux u 7 0) := hO5
      refine ex_go 80 rfl (ex_vret rfl ⟨rfl, hBB.tr hB5, _, hO5', fun j hj => ?_, ?_, fun _ => ⟨?_, ?_, ?_, fun z => ?_⟩, fun z => ?_⟩)
      · rw [ux_ne (by omega), uo j hj]
      · rw [ux_ne (by decide), u6]
      · rw [ux_ne (by decide), u9]
      · rw [ux_ne (by decide), u5, kE]
      · rw [ux_eq, kK]; rfl
      · rw [kK] at z; exact absurd z (by decide)
      · rw [kO] at z; exact absurd z (by decide)
  have L : ∀ h1, MO h1 n (ux q 5 (nI p)) → SB 57 h h1 → ev_X scr d cd_X6_next 4 [.ref 57, .float 0] [] h1 (fun v h' => v = none ∧ SB 57 h h' ∧ ∃ q', MO h' n q' ∧ MN tp tl p q q') := by
    refine ev_loopF p (tl + 1) (by omega) (fun i => i ≤ tl → run tp tl qS i = run tp tl qS p → ∀ h1, MO h1 n (ux q 5 (nI i)) → SB 57 h h1 → ev_X scr d cd_X6_next 4 [.ref 57, .float 0] [] h1 (fun v h' => v = none ∧ SB 57 h h' ∧ ∃ q', MO h' n q' ∧ MN tp tl p q q')) (fun i hi1 hi2 K hit hr h1 hO1 hB1 => ?_) (fun hit => absurd hit (by omega)) hp rfl
    · have hT1 := hTp.sb hB1 (by decide)
      have e4 : ux q 5 (nI i) 4 = nI tl := by rw [ux_ne (by decide)]; exact hq
      have e5 : ux q 5 (nI i) 5 = nI i := ux_eq
      refine ex_nop rfl ?_
      refine ex_go 80 rfl ?_
      refine ex_getf rfl hO1 rfl rfl ?_
      rw [e5]
      refine ex_cv rfl rfl rfl rfl hO1 rfl (d' := 0) (by omega) (c_byteAt hO1 hT1 e4 ht (by omega)) ?_
      by_cases c1 : i < tl ∧ qS (tp i) = true
      · have e32 : tp i = 32 := by have := c1.2; unfold qS at this; rw [decide_eq_true_eq] at this; exact this
        have eb : bA tp tl i = 32 := by unfold bA; rw [if_pos c1.1, e32]; rfl
        rw [run_t c1.1 c1.2] at hr
        rw [eb]
        refine ex_go 80 rfl ?_
        refine ex_ineF rfl (rfl) ?_
        refine ex_go 80 rfl ?_
        refine ex_getf rfl hO1 rfl rfl ?_
        refine ex_go 80 rfl ?_
        try dsimp only
        try simp only [nI_inc, nI_1, nI_add, nI_mul2, tb_and, tb_or, tb_andn, nI_x5, nI_x2, nI_p0, nI_p2, nI_p3, nI_p4, nI_q45]
        rw [e5, nI_1]
        refine ex_pf rfl hO1 rfl rfl (fun h2 hO2 hB2 => ?_)
        have hO3 : MO h2 n (ux q 5 (nI (i + 1))) := by
          refine Eq.trans hO2 ?_
          rfl
        refine ex_go 80 rfl ?_
        exact K (by omega) hr h2 hO3 (hB1.tr hB2)
      · have eb : ¬ bA tp tl i = 32 := fun z => by
          unfold bA at z
          by_cases c2 : i < tl
          · have := hb i c2
            rw [if_pos c2] at z
            have e32 : tp i = 32 := (nI_eq (b := 32) (by omega) (by decide)).mp z
            exact c1 ⟨c2, by unfold qS; rw [decide_eq_true_eq]; exact e32⟩
          · rw [if_neg c2] at z; exact absurd z (by decide)
        rw [run_f c1] at hr
        refine ex_go 80 rfl ?_
        refine ex_ineT rfl (eb) ?_
        rw [dS, ← hr] at M
        exact M h1 hO1 hB1
  refine ex_go 80 rfl ?_
  refine ex_getf rfl hM rfl rfl ?_
  rw [h9]
  refine ex_zleT rfl (by decide) ?_
  exact L h (by rw [e0]; exact hM) SB.rf
end MNXT
