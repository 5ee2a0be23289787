/-! text: the model's draft: made, tried, kept. -/
theorem rv_f0 : ∀ j, j < 57 → rv f0F j = if j = 42 then 2 else if j = 41 then 12 else if j % 5 = 3 ∧ j < 5 * 8 then -4 else 0 := by decide
section MDRAFT
variable {scr : List Int32} {d : Nat} {h : ev_H} {n : Nat} {q im : Nat → Int32} {f f' : Nat → Nat} {kp : Nat → Bool}
theorem c_firstDraft (hM : MO h n q) (hL : LA h 62 57) (hL2 : LA h 63 4) : ev_X scr d cd_X6_firstDraft 0 [.ref 57, .float 0] [] h (fun v h' => v = none ∧ RFm h h' ∧ DRF h' f0F ∧ DMF h' f0F ∧ ∃ q', MO h' n q' ∧ q' 0 = 0 ∧ q' 1 = 0 ∧ q' 2 = 0 ∧ q' 3 = -4 ∧ ∀ j, 4 ≤ j → q' j = q j) := by
  generalize hQ : (fun (v : Option Value) (h' : ev_H) => v = none ∧ RFm h h' ∧ DRF h' f0F ∧ DMF h' f0F ∧ ∃ q', MO h' n q' ∧ q' 0 = 0 ∧ q' 1 = 0 ∧ q' 2 = 0 ∧ q' 3 = -4 ∧ ∀ j, 4 ≤ j → q' j = q j) = Q
  have L3 : ∀ h1 q1, MO h1 n q1 → RFm h h1 → DRF h1 f0F → LA h1 63 4 → q1 0 = 0 → (∀ j, 4 ≤ j → q1 j = q j) → ev_X scr d cd_X6_firstDraft 45 [.ref 57, .int (nI 0)] [] h1 Q := by
    intro h1 q1 hM1 hR1 hD1 hL1 z0 e1
    refine ev_loop 4 (fun i => ∀ h2, IA h2 63 4 (fun k => k < i ∧ True) (fun t => nI (f0F (60 + t))) → SB 63 h1 h2 → ev_X scr d cd_X6_firstDraft 45 [.ref 57, .int (nI i)] [] h2 Q) (fun i hi K h2 hA2 hB2 => ?_) (fun h2 hA2 hB2 => ?_) h1 hL1.none SB.rf
    · have hM2 := (hB2.2 57 (by decide)).trans hM1
      refine ex_nop rfl ?_
      refine ex_go 80 rfl ?_
      refine ex_igeF rfl (nI_ge hi (by first | omega | decide)) ?_
      refine ex_go 80 rfl ?_
      refine ex_getf rfl hM2 rfl rfl ?_
      refine ex_go 80 rfl ?_
      refine ex_is _ rfl hA2 rfl (by omega) (by omega) (fun h3 hA3 hB3 => ?_)
      refine ex_go 80 rfl ?_
      try dsimp only
      try simp only [nI_inc, nI_1, nI_add, nI_mul2, tb_and, tb_or, tb_andn, nI_x5, nI_x2, nI_p0, nI_p2, nI_p3, nI_p4, nI_q45]
      exact K h3 (hA3.grow (fun _ => by rcases (by omega : i = 0 ∨ i = 1 ∨ i = 2 ∨ i = 3) with rfl | rfl | rfl | rfl <;> rfl)) (hB2.tr hB3)
    · have hM2 : MO h2 n q1 := (hB2.2 57 (by decide)).trans hM1
      refine ex_nop rfl ?_
      refine ex_go 80 rfl ?_
      refine ex_igeT rfl (nI_le (Nat.le_refl _) (by first | omega | decide)) ?_
      refine ex_go 80 rfl ?_
      refine ex_pf rfl hM2 rfl rfl (fun h3 hO3 hB3 => ?_)
      have hM3 : MO h3 n (ux q1 1 0) := hO3
      refine ex_go 80 rfl ?_
      refine ex_pf rfl hM3 rfl rfl (fun h4 hO4 hB4 => ?_)
      have hM4 : MO h4 n (ux (ux q1 1 0) 2 0) := hO4
      refine ex_go 80 rfl ?_
      refine ex_pf rfl hM4 rfl rfl (fun h5 hO5 hB5 => ?_)
      have hM5 : MO h5 n (ux (ux (ux q1 1 0) 2 0) 3 (-4)) := hO5
      have hB25 := (hB3.tr hB4).tr hB5
      refine ex_vret rfl ?_
      rw [← hQ]
      refine ⟨rfl, hR1.tr ((hB2.rm (by decide)).tr (hB25.rm (by decide))), (hD1.sb hB2 (by decide)).sb hB25 (by decide), hA2.full.sb hB25 (by decide), _, hM5, z0, rfl, rfl, rfl, fun j hj => ?_⟩
      rw [ux_ne (by omega), ux_ne (by omega), ux_ne (by omega), e1 j hj]
  have L2 : ∀ h1, SB 62 h h1 → IA h1 62 57 (fun _ => True) (fun j => if j % 5 = 3 ∧ j < 5 * 0 then -4 else 0) → ev_X scr d cd_X6_firstDraft 15 [.ref 57, .int (nI 0)] [] h1 Q := by
    refine ev_loop 8 (fun i => ∀ h1, SB 62 h h1 → IA h1 62 57 (fun _ => True) (fun j => if j % 5 = 3 ∧ j < 5 * i then -4 else 0) → ev_X scr d cd_X6_firstDraft 15 [.ref 57, .int (nI i)] [] h1 Q) (fun i hi K h1 hB1 hA1 => ?_) (fun h1 hB1 hA1 => ?_)
    · have hM1 := (hB1.2 57 (by decide)).trans hM
      refine ex_nop rfl ?_
      refine ex_go 80 rfl ?_
      refine ex_igeF rfl (nI_ge hi (by first | omega | decide)) ?_
      refine ex_go 80 rfl ?_
      refine ex_getf rfl hM1 rfl rfl ?_
      refine ex_go 80 rfl ?_
      try dsimp only
      try simp only [nI_inc, nI_1, nI_add, nI_mul2, tb_and, tb_or, tb_andn, nI_x5, nI_x2, nI_p0, nI_p2, nI_p3, nI_p4, nI_q45]
      refine ex_is _ rfl hA1 rfl (by omega) (by omega) (fun h2 hA2 hB2 => ?_)
      refine ex_go 80 rfl ?_
      try dsimp only
      try simp only [nI_inc, nI_1, nI_add, nI_mul2, tb_and, tb_or, tb_andn, nI_x5, nI_x2, nI_p0, nI_p2, nI_p3, nI_p4, nI_q45]
      refine K h2 (hB1.tr hB2) (hA2.congr (fun j _ _ => ⟨Or.inl trivial, ?_⟩))
      by_cases c : j = 5 * i + 3
      · rw [if_pos c, if_pos (by omega)]
      · rw [if_neg c]
        by_cases c2 : j % 5 = 3 ∧ j < 5 * i
        · rw [if_pos c2, if_pos (by omega)]
        · rw [if_neg c2, if_neg (by omega)]
    · have hM1 := (hB1.2 57 (by decide)).trans hM
      refine ex_nop rfl ?_
      refine ex_go 80 rfl ?_
      refine ex_igeT rfl (nI_le (Nat.le_refl _) (by first | omega | decide)) ?_
      refine ex_go 80 rfl ?_
      refine ex_getf rfl hM1 rfl rfl ?_
      refine ex_go 80 rfl ?_
      refine ex_is 41 rfl hA1 rfl (by omega) (by omega) (fun h2 hA2 hB2 => ?_)
      have hM2 := (hB2.2 57 (by decide)).trans hM1
      refine ex_go 80 rfl ?_
      refine ex_getf rfl hM2 rfl rfl ?_
      refine ex_go 80 rfl ?_
      refine ex_is 42 rfl hA2 rfl (by omega) (by omega) (fun h3 hA3 hB3 => ?_)
      have hM3 : MO h3 n q := (hB3.2 57 (by decide)).trans hM2
      have hD3 : DRF h3 f0F := hA3.congr (fun j hj _ => ⟨Or.inl (Or.inl trivial), (rv_f0 j hj).symm⟩)
      refine ex_go 80 rfl ?_
      refine ex_pf rfl hM3 rfl rfl (fun h4 hO4 hB4 => ?_)
      have hM4 : MO h4 n (ux q 0 0) := hO4
      have hB13 := (hB1.tr hB2).tr hB3
      refine ex_go 80 rfl ?_
      exact L3 h4 _ hM4 ((hB13.rm (by decide)).tr (hB4.rm (by decide))) (hD3.sb hB4 (by decide)) ((hL2.sb hB13 (by decide)).sb hB4 (by decide)) ux_eq (fun j hj => ux_ne (by omega))
  refine ex_go 80 rfl ?_
  refine ev_loop 57 (fun i => ∀ h1, IA h1 62 57 (fun k => k < i ∧ True) (fun _ => 0) → SB 62 h h1 → ev_X scr d cd_X6_firstDraft 2 [.ref 57, .int (nI i)] [] h1 Q) (fun i hi K h1 hA1 hB1 => ?_) (fun h1 hA1 hB1 => ?_) h hL.none SB.rf
  · have hM1 := (hB1.2 57 (by decide)).trans hM
    refine ex_nop rfl ?_
    refine ex_go 80 rfl ?_
    refine ex_igeF rfl (nI_ge hi (by first | omega | decide)) ?_
    refine ex_go 80 rfl ?_
    refine ex_getf rfl hM1 rfl rfl ?_
    refine ex_go 80 rfl ?_
    refine ex_is _ rfl hA1 rfl (by omega) (by omega) (fun h2 hA2 hB2 => ?_)
    refine ex_go 80 rfl ?_
    try dsimp only
    try simp only [nI_inc, nI_1, nI_add, nI_mul2, tb_and, tb_or, tb_andn, nI_x5, nI_x2, nI_p0, nI_p2, nI_p3, nI_p4, nI_q45]
    exact K h2 (hA2.grow (fun _ => rfl)) (hB1.tr hB2)
  · refine ex_nop rfl ?_
    refine ex_go 80 rfl ?_
    refine ex_igeT rfl (nI_le (Nat.le_refl _) (by first | omega | decide)) ?_
    refine ex_go 80 rfl ?_
    exact L2 h1 hB1 (hA1.full.congr (fun j _ _ => ⟨trivial, by rw [if_neg (by omega)]⟩))
theorem c_doFit {nn : Nat} (hM : MO h n q) (hD : DRF h f) (hDm : DMF h f) (h0 : q 0 = nI nn) (hn : nn ≤ 8) (g60 : ∀ t, t < 4 → f (60 + t) < 1000) (hd : 1 ≤ d) : ev_V scr d cd_X6_doFit 0 [.ref 57, .float 0, .float 0, .float 0, .float 0] [] h (some (.int (nI (tb_b (ftk nn f 4)))), h) := by
  have L : ev_V scr d cd_X6_doFit 4 [.ref 57, .int (nI (tb_b (ftk nn f 0))), .int (nI 0), .float 0, .float 0] [] h (some (.int (nI (tb_b (ftk nn f 4)))), h) := by
    refine ev_loop 4 (fun t => ev_V scr d cd_X6_doFit 4 [.ref 57, .int (nI (tb_b (ftk nn f t))), .int (nI t), .float 0, .float 0] [] h (some (.int (nI (tb_b (ftk nn f 4)))), h)) (fun t hi K => ?_) ?_
    · have es := sz_sm hn f t
      have hle : sz nn f t ≤ 8 := pc8_le _
      have h6 := g60 t hi
      have I : ev_V scr d cd_X6_doFit 12 [.ref 57, .int (nI (tb_b (ftk nn f t))), .int (nI t), .int (nI (sm (fun m => tb_b (decide (f (5 * m + 3) = t))) 0)), .int (nI 0)] [] h (some (.int (nI (tb_b (ftk nn f 4)))), h) := by
        refine ev_loop nn (fun i => ev_V scr d cd_X6_doFit 12 [.ref 57, .int (nI (tb_b (ftk nn f t))), .int (nI t), .int (nI (sm (fun m => tb_b (decide (f (5 * m + 3) = t))) i)), .int (nI i)] [] h (some (.int (nI (tb_b (ftk nn f 4)))), h)) (fun i hi2 K2 => ?_) ?_
        · rw [sm_s] at K2
          refine ev_nop rfl ?_
          refine ev_go 80 rfl ?_
          refine ev_getf rfl hM rfl rfl ?_
          rw [h0]
          refine ev_igeF rfl (nI_ge hi2 (by omega)) ?_
          refine ev_go 80 rfl ?_
          refine ev_getf rfl hM rfl rfl ?_
          refine ev_go 80 rfl ?_
          try dsimp only
          try simp only [nI_inc, nI_1, nI_add, nI_mul2, tb_and, tb_or, tb_andn, nI_x5, nI_x2, nI_p0, nI_p2, nI_p3, nI_p4, nI_q45]
          refine ev_ia _ rfl hD rfl (by first | exact trivial | assumption | (show _ < _; omega)) (by omega) (by omega) rfl ?_
          refine ev_go 80 rfl ?_
          rw [rv_3 f (by omega)]
          refine ev_ineM 1 2 31 (v := nI (tb_b (decide (f (5 * i + 3) = t)))) rfl rfl rfl (if10 (tv_eq hi)) ?_
          refine ev_cs rfl rfl rfl (d' := 0) (by omega) (c_flag) ?_
          refine ev_go 80 rfl ?_
          try dsimp only
          try simp only [nI_inc, nI_1, nI_add, nI_mul2, tb_and, tb_or, tb_andn, nI_x5, nI_x2, nI_p0, nI_p2, nI_p3, nI_p4, nI_q45]
          exact K2
        · rw [← es]
          rw [ftk] at K
          refine ev_nop rfl ?_
          refine ev_go 80 rfl ?_
          refine ev_getf rfl hM rfl rfl ?_
          rw [h0]
          refine ev_igeT rfl (nI_le (Nat.le_refl _) (by omega)) ?_
          cases cf : ftk nn f t
          · rw [cf, Bool.false_and] at K
            refine ev_go 80 rfl ?_
            refine ev_zeqT rfl (by decide) ?_
            refine ev_go 80 rfl ?_
            try dsimp only
            try simp only [nI_inc, nI_1, nI_add, nI_mul2, tb_and, tb_or, tb_andn, nI_x5, nI_x2, nI_p0, nI_p2, nI_p3, nI_p4, nI_q45]
            exact ev_weak (K) (by repeat (first | exact W_n | refine W_e ?_ | refine W_i ?_ | refine W_r ?_))
          · rw [cf, Bool.true_and] at K
            refine ev_go 80 rfl ?_
            refine ev_zeqF rfl (by decide) ?_
            refine ev_go 80 rfl ?_
            refine ev_getf rfl hM rfl rfl ?_
            refine ev_go 80 rfl ?_
            refine ev_ia _ rfl hDm rfl (by first | exact trivial | assumption | (show _ < _; omega)) (by omega) (by omega) rfl ?_
            by_cases cs : sz nn f t ≤ f (60 + t)
            · rw [decide_eq_true cs] at K
              refine ev_igtF rfl (fun z => absurd ((nI_ltI (by omega) (by omega)).mp z) (by omega)) ?_
              refine ev_go 80 rfl ?_
              try dsimp only
              try simp only [nI_inc, nI_1, nI_add, nI_mul2, tb_and, tb_or, tb_andn, nI_x5, nI_x2, nI_p0, nI_p2, nI_p3, nI_p4, nI_q45]
              exact ev_weak (K) (by repeat (first | exact W_n | refine W_e ?_ | refine W_i ?_ | refine W_r ?_))
            · rw [decide_eq_false cs] at K
              refine ev_igtT rfl (nI_lt (by omega) (by omega)) ?_
              refine ev_go 80 rfl ?_
              try dsimp only
              try simp only [nI_inc, nI_1, nI_add, nI_mul2, tb_and, tb_or, tb_andn, nI_x5, nI_x2, nI_p0, nI_p2, nI_p3, nI_p4, nI_q45]
              exact ev_weak (K) (by repeat (first | exact W_n | refine W_e ?_ | refine W_i ?_ | refine W_r ?_))
      refine ev_nop rfl ?_
      refine ev_go 80 rfl ?_
      refine ev_igeF rfl (nI_ge hi (by first | omega | decide)) ?_
      refine ev_go 80 rfl ?_
      exact I
    · refine ev_nop rfl ?_
      refine ev_go 80 rfl ?_
      refine ev_igeT rfl (nI_le (Nat.le_refl _) (by first | omega | decide)) ?_
      refine ev_go 80 rfl ?_
      exact ev_tret rfl (by cases ftk nn f 4 <;> rfl)
  refine ev_go 80 rfl ?_
  exact L
theorem c_keepDraft {nn : Nat} (hM : MO h n q) (hS : ST h f im) (hD : DRF h f') (hDm : DMF h f') (hMo : MS h f) (hKp : KB h 60 kp) (h0 : q 0 = nI nn) : ev_X scr d cd_X6_keepDraft 0 [.ref 57, .float 0] [] h (fun v h' => v = none ∧ MO h' nn q ∧ ST h' f' im ∧ MS h' f' ∧ KB h' 60 (fun _ => false) ∧ h'.length = h.length ∧ ∀ j, j ≠ 57 → j ≠ 58 → j ≠ 60 → j ≠ 61 → h'[j]? = h[j]?) := by
  have L2 : ∀ h1, SB 57 h h1 ∨ True → MO h1 nn q → ST h1 f' im → DMF h1 f' → KB h1 60 kp → h1.length = h.length → (∀ j, j ≠ 57 → j ≠ 58 → j ≠ 60 → j ≠ 61 → h1[j]? = h[j]?) → IA h1 61 4 (fun _ => True) (fun k => if k < 0 then nI (f' (60 + k)) else nI (f (60 + k))) → ev_X scr d cd_X6_keepDraft 22 [.ref 57, .int (nI 0)] [] h1 (fun v h' => v = none ∧ MO h' nn q ∧ ST h' f' im ∧ MS h' f' ∧ KB h' 60 (fun _ => false) ∧ h'.length = h.length ∧ ∀ j, j ≠ 57 → j ≠ 58 → j ≠ 60 → j ≠ 61 → h'[j]? = h[j]?) := by
    intro h1 _ hM1 hS1 hDm1 hK1 hl1 hE1 hA1
    refine ev_loop 4 (fun i => ∀ h2, IA h2 61 4 (fun _ => True) (fun k => if k < i then nI (f' (60 + k)) else nI (f (60 + k))) → SB 61 h1 h2 → ev_X scr d cd_X6_keepDraft 22 [.ref 57, .int (nI i)] [] h2 (fun v h' => v = none ∧ MO h' nn q ∧ ST h' f' im ∧ MS h' f' ∧ KB h' 60 (fun _ => false) ∧ h'.length = h.length ∧ ∀ j, j ≠ 57 → j ≠ 58 → j ≠ 60 → j ≠ 61 → h'[j]? = h[j]?)) (fun i hi K h2 hA2 hB2 => ?_) (fun h2 hA2 hB2 => ?_) h1 hA1 SB.rf
    · have hM2 := (hB2.2 57 (by decide)).trans hM1
      have hDm2 := hDm1.sb hB2 (by decide)
      refine ex_nop rfl ?_
      refine ex_go 80 rfl ?_
      refine ex_igeF rfl (nI_ge hi (by first | omega | decide)) ?_
      refine ex_go 80 rfl ?_
      refine ex_getf rfl hM2 rfl rfl ?_
      refine ex_go 80 rfl ?_
      refine ex_getf rfl hM2 rfl rfl ?_
      refine ex_go 80 rfl ?_
      refine ex_ia _ rfl hDm2 rfl (by first | exact trivial | assumption | (show _ < _; omega)) (by omega) (by omega) rfl ?_
      refine ex_is _ rfl hA2 rfl (by omega) (by omega) (fun h3 hA3 hB3 => ?_)
      refine ex_go 80 rfl ?_
      try dsimp only
      try simp only [nI_inc, nI_1, nI_add, nI_mul2, tb_and, tb_or, tb_andn, nI_x5, nI_x2, nI_p0, nI_p2, nI_p3, nI_p4, nI_q45]
      refine K h3 (hA3.congr (fun k _ _ => ⟨Or.inl trivial, ?_⟩)) (hB2.tr hB3)
      by_cases c : k = i
      · rw [if_pos c, if_pos (by omega), c]
      · rw [if_neg c]
        by_cases c2 : k < i
        · rw [if_pos c2, if_pos (by omega)]
        · rw [if_neg c2, if_neg (by omega)]
    · have hM2 := (hB2.2 57 (by decide)).trans hM1
      have hK2 : KB h2 60 kp := hK1.kept (hB2.2 60 (by decide))
      refine ex_nop rfl ?_
      refine ex_go 80 rfl ?_
      refine ex_igeT rfl (nI_le (Nat.le_refl _) (by first | omega | decide)) ?_
      refine ex_go 80 rfl ?_
      refine ex_getf rfl hM2 rfl rfl ?_
      refine ex_go 80 rfl ?_
      refine ex_bs 0 rfl hK2 rfl (Or.inr ⟨rfl, show vp_nar .boolean 0 = nI 0 from rfl⟩) (by omega) (by omega) (fun h3 hA3 hB3 => ?_)
      have hM3 := (hB3.2 57 (by decide)).trans hM2
      refine ex_go 80 rfl ?_
      refine ex_getf rfl hM3 rfl rfl ?_
      refine ex_go 80 rfl ?_
      refine ex_bs 1 rfl hA3 rfl (Or.inr ⟨rfl, show vp_nar .boolean 0 = nI 0 from rfl⟩) (by omega) (by omega) (fun h4 hA4 hB4 => ?_)
      have hM4 : MO h4 nn q := (hB4.2 57 (by decide)).trans hM3
      have hB34 := hB3.tr hB4
      exact ex_vret rfl (⟨rfl, hM4, (hS1.sb hB2 (by decide)).sb hB34 (by decide), (hA2.sb hB34 (by decide)).congr (fun k hk _ => ⟨trivial, by rw [if_pos (by omega)]⟩), hA4.congr (fun i hi _ => ⟨Or.inl (Or.inl trivial), by rcases (by omega : i = 0 ∨ i = 1) with rfl | rfl <;> rfl⟩), hB34.1.trans (hB2.1.trans hl1), fun j a b c e => (hB34.2 j c).trans ((hB2.2 j e).trans (hE1 j a b c e))⟩)
  refine ex_go 80 rfl ?_
  refine ev_loop 57 (fun i => ∀ h1, IA h1 58 171 (fun _ => True) (fun k => if k < i then rv f' k else rs f im k) → SB 58 h h1 → ev_X scr d cd_X6_keepDraft 2 [.ref 57, .int (nI i)] [] h1 (fun v h' => v = none ∧ MO h' nn q ∧ ST h' f' im ∧ MS h' f' ∧ KB h' 60 (fun _ => false) ∧ h'.length = h.length ∧ ∀ j, j ≠ 57 → j ≠ 58 → j ≠ 60 → j ≠ 61 → h'[j]? = h[j]?)) (fun i hi K h1 hA1 hB1 => ?_) (fun h1 hA1 hB1 => ?_) h (hS.congr (fun k _ hp => ⟨hp, by rw [if_neg (Nat.not_lt_zero k)]⟩)) SB.rf
  · have hM1 := (hB1.2 57 (by decide)).trans hM
    have hD1 := hD.sb hB1 (by decide)
    refine ex_nop rfl ?_
    refine ex_go 80 rfl ?_
    refine ex_igeF rfl (nI_ge hi (by first | omega | decide)) ?_
    refine ex_go 80 rfl ?_
    refine ex_getf rfl hM1 rfl rfl ?_
    refine ex_go 80 rfl ?_
    refine ex_getf rfl hM1 rfl rfl ?_
    refine ex_go 80 rfl ?_
    refine ex_ia _ rfl hD1 rfl trivial (by omega) (by omega) rfl ?_
    refine ex_is _ rfl hA1 rfl (by omega) (by omega) (fun h2 hA2 hB2 => ?_)
    refine ex_go 80 rfl ?_
    try dsimp only
    try simp only [nI_inc, nI_1, nI_add, nI_mul2, tb_and, tb_or, tb_andn, nI_x5, nI_x2, nI_p0, nI_p2, nI_p3, nI_p4, nI_q45]
    refine K h2 (hA2.congr (fun k _ _ => ⟨Or.inl trivial, ?_⟩)) (hB1.tr hB2)
    by_cases c : k = i
    · rw [if_pos c, if_pos (by omega), c]
    · rw [if_neg c]
      by_cases c2 : k < i
      · rw [if_pos c2, if_pos (by omega)]
      · rw [if_neg c2, if_neg (by omega)]
  · have hM1 : MO h1 n q := (hB1.2 57 (by decide)).trans hM
    refine ex_nop rfl ?_
    refine ex_go 80 rfl ?_
    refine ex_igeT rfl (nI_le (Nat.le_refl _) (by first | omega | decide)) ?_
    refine ex_go 80 rfl ?_
    refine ex_getf rfl hM1 rfl rfl ?_
    rw [h0]
    refine ex_pf rfl hM1 rfl rfl (fun h2 hO2 hB2 => ?_)
    have hM2 : MO h2 nn q := hO2
    have hE2 : ∀ j, j ≠ 57 → j ≠ 58 → h2[j]? = h[j]? := fun j a b => (hB2.2 j a).trans (hB1.2 j b)
    refine ex_go 80 rfl ?_
    refine L2 h2 (Or.inr trivial) hM2 ((hA1.sb hB2 (by decide)).congr (fun k hk _ => ⟨trivial, ?_⟩)) (hDm.kept (hE2 63 (by decide) (by decide))) (hKp.kept (hE2 60 (by decide) (by decide))) (hB2.1.trans hB1.1) (fun j a b _ _ => hE2 j a b) ((hMo.kept (hE2 61 (by decide) (by decide))).congr (fun k _ _ => ⟨trivial, by rw [if_neg (Nat.not_lt_zero k)]⟩))
    unfold rs
    split
    · rfl
    · rfl
end MDRAFT
