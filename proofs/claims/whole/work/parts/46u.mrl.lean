/-! text: the model's line, whole. -/
section MRL
variable {scr : List Int32} {d : Nat} {h : ev_H} {n : Nat} {q : Nat → Int32} {tp : Nat → Nat} {tl p : Nat} {f : Nat → Nat}
theorem lI_8 : ∀ w, w < 9 → (lIw w = -4 ↔ ¬ w ≠ 8) := by decide
theorem lI_3 : ∀ w, w < 9 → (3 < lIw w ↔ (w ≠ 8 ∧ 3 < w)) := by decide
theorem lI_45 : ∀ w, w < 9 → decide (4 ≤ (lIw w).toInt64 ∧ (lIw w).toInt64 ≤ 5) = decide (w = 4 ∨ w = 5) := by decide
theorem nm_1 : ∀ w, w < 8 → 1 ≤ nmL w := by decide
theorem tl_bit (ft wt : Bool) : (tlI ft wt >>> (nI 4 &&& 31)) &&& 1 = nI (tb_b ft) ∧ (tlI ft wt >>> (nI 5 &&& 31)) &&& 1 = nI (tb_b wt) := by
  cases ft <;> cases wt <;> decide
theorem tl_or (ft wt : Bool) : tlI ft wt ||| (1 <<< (nI 4 &&& 31)) = tlI true wt ∧ tlI ft wt ||| (1 <<< (nI 5 &&& 31)) = tlI ft true := by
  cases ft <;> cases wt <;> decide
theorem c_readLine {nn mt hg : Nat} {ft wt : Bool} (hM : MO h n q) (hTp : IA h 64 160 (fun i => i < tl) (fun i => nI (tp i))) (hq : q 4 = nI tl) (ht : tl ≤ 160) (hb : ∀ i, i < tl → tp i < 128) (m : MQS tp tl (.inr p) q) (hD : DRF h f) (hDm : DMF h f) (h0 : q 0 = nI nn) (hn : nn ≤ 8) (h1 : q 1 = tlI ft wt) (h2 : q 2 = nI mt) (hmt : mt < 16) (h3 : q 3 = hIg hg) (hg8 : hg ≤ 8) (hd : 6 ≤ d) : ev_X scr d cd_X6_readLine 0 [.ref 57, .float 0] [] h (fun v h' => v = none ∧ RFm h h' ∧ LA h' 62 57 ∧ LA h' 63 4 ∧ ∃ q', MO h' n q' ∧ MQS tp tl (nxS tp tl (lnS tp tl nn ft wt mt p)) q' ∧ q' 4 = q 4 ∧ q' 11 = q 11 ∧ ∀ r, lnS tp tl nn ft wt mt p = .inr r → DRF h' (pFf (lwS tp tl p) nn f (nbS tp tl nn ft wt mt p)) ∧ DMF h' (pFf (lwS tp tl p) nn f (nbS tp tl nn ft wt mt p)) ∧ q' 0 = nI (pNn (lwS tp tl p) nn) ∧ q' 1 = tlI (ft || decide (lwS tp tl p = 4)) (wt || decide (lwS tp tl p = 5)) ∧ q' 2 = nI (pMm (lwS tp tl p) mt (nbS tp tl nn ft wt mt p)) ∧ q' 3 = hIg (pHh (lwS tp tl p) hg (nbS tp tl nn ft wt mt p))) := by
  generalize hQ : (fun (v : Option Value) (h' : ev_H) => v = none ∧ RFm h h' ∧ LA h' 62 57 ∧ LA h' 63 4 ∧ ∃ q', MO h' n q' ∧ MQS tp tl (nxS tp tl (lnS tp tl nn ft wt mt p)) q' ∧ q' 4 = q 4 ∧ q' 11 = q 11 ∧ ∀ r, lnS tp tl nn ft wt mt p = .inr r → DRF h' (pFf (lwS tp tl p) nn f (nbS tp tl nn ft wt mt p)) ∧ DMF h' (pFf (lwS tp tl p) nn f (nbS tp tl nn ft wt mt p)) ∧ q' 0 = nI (pNn (lwS tp tl p) nn) ∧ q' 1 = tlI (ft || decide (lwS tp tl p = 4)) (wt || decide (lwS tp tl p = 5)) ∧ q' 2 = nI (pMm (lwS tp tl p) mt (nbS tp tl nn ft wt mt p)) ∧ q' 3 = hIg (pHh (lwS tp tl p) hg (nbS tp tl nn ft wt mt p))) = Q
  obtain ⟨k9, k5, k6, k7, k8, kp, ko⟩ := m.2 p rfl
  have hw9 : lwS tp tl p ≤ 8 := lwS_8
  obtain ⟨w, hw⟩ : ∃ w, lwS tp tl p = w := ⟨_, rfl⟩
  rw [hw] at hw9
  have T61 : ∀ h1 q1, MO h1 n q1 → SB 57 h h1 → MQS tp tl (hdS tp tl nn ft wt p) q1 → (∀ j, j = 0 ∨ (2 ≤ j ∧ j < 5) ∨ j = 11 → q1 j = q j) → (∀ r, hdS tp tl nn ft wt p = .inr r → q1 1 = tlI (ft || decide (w = 4)) (wt || decide (w = 5))) → ev_X scr d cd_X6_readLine 61 [.ref 57, .int (lIw w)] [] h1 Q := by
    intro h1 q1 hM1 hB1 m1 e1 x1
    refine ex_go 80 rfl ?_
    refine ex_cvx rfl rfl rfl rfl hM1 rfl (d' := 2) (by omega) (c_nextS (s := hdS tp tl nn ft wt p) (tp := tp) (tl := tl) hM1 (hTp.sb hB1 (by decide)) ((e1 4 (by omega)).trans hq) ht hb m1 (Nat.le_refl _)) ?_
    rintro v2 g2 ⟨rfl, hB2, q2, hM2, m2, e2⟩
    have hB12 := hB1.tr hB2
    have hD2 := hD.sb hB12 (by decide)
    have hDm2 := hDm.sb hB12 (by decide)
    have hT2 := hTp.sb hB12 (by decide)
    have eo : ∀ j, j = 0 ∨ (2 ≤ j ∧ j < 5) ∨ j = 11 → q2 j = q j := fun j hj => (e2 j (by omega)).trans (e1 j hj)
    refine ex_go 80 rfl ?_
    refine ex_getf rfl hM2 rfl rfl ?_
    cases hs : nxS tp tl (hdS tp tl nn ft wt p) with
    | inl e =>
      obtain ⟨c0, x⟩ := e
      obtain ⟨z1, z2, z3, z4⟩ := m2.1 c0 x hs
      have eln : lnS tp tl nn ft wt mt p = .inl (c0, x) := by
        cases hh : hdS tp tl nn ft wt p with
        | inl e =>
          rw [hh] at hs
          have : e = (c0, x) := by cases hs; rfl
          rw [← this]
          exact lnS_l hh
        | inr p' =>
          obtain ⟨_, c8, _⟩ := hdS_r hh
          rw [hh] at hs
          have w8 : w < 8 := by omega
          have hnm := nm_1 w w8
          have c1 : csS tp tl w mt (.inr p') 1 = .inl (c0, x) := by
            show lkC tp tl w mt 0 (v0S tp tl w (.inr p')) (nxS tp tl (.inr p')) = _
            rw [hs]
            rfl
          have c2 := csS_l c1 (nmL w - 1)
          rw [show 1 + (nmL w - 1) = nmL w by omega] at c2
          unfold lnS
          rw [hh, hw, c2]
          rfl
      rw [z1]
      refine ex_zleF rfl (Int32.not_le.mpr (nI_lt (a := 0) z3 (by omega))) ?_
      refine ex_vret rfl ?_
      rw [← hQ]
      refine ⟨rfl, hB12.rm (by decide), hD2.la, hDm2.la, q2, hM2, ?_, eo 4 (by omega), eo 11 (by omega), fun r hr => ?_⟩
      · rw [eln]
        rw [hs] at m2
        exact m2
      · rw [eln] at hr
        cases hr
    | inr r0 =>
      obtain ⟨z9, _⟩ := m2.2 r0 hs
      obtain ⟨p', hh, _⟩ := nxS_r hs
      obtain ⟨rfl, c8, c4, c3⟩ := hdS_r hh
      rw [hw] at c8 c4 c3
      have w8 : w < 8 := by omega
      have hnm := nm_1 w w8
      have enb : nbS tp tl nn ft wt mt p' = fun i => vlS tp tl (csS tp tl w mt (.inr p') (i + 1)) := by
        funext i
        unfold nbS
        rw [hh, hw]
      have eln : lnS tp tl nn ft wt mt p' = ndS tp tl (nxS tp tl (csS tp tl w mt (.inr p') (nmL w))) (fun p => decide (tK tp tl p = 3)) 2 := by
        unfold lnS
        rw [hh, hw]
      have q1' : q2 1 = tlI (ft || decide (w = 4)) (wt || decide (w = 5)) := (e2 1 (by omega)).trans (x1 _ hh)
      rw [hh] at m2
      rw [z9]
      refine ex_zleT rfl (by decide) ?_
      rw [show lIw w = nI w from if_neg c8]
      refine ex_go 80 rfl ?_
      refine ex_cvx rfl rfl rfl rfl hM2 rfl (d' := 5) (by omega) (c_readLineOf (w := w) (nn := nn) (mt := mt) (hg := hg) (s0 := .inr p') hM2 hT2 ((eo 4 (by omega)).trans hq) ht hb m2 hD2 hDm2 ((eo 0 (by omega)).trans h0) (fun z => by omega) ((eo 2 (by omega)).trans h2) hmt ((eo 3 (by omega)).trans h3) hg8 w8 (Nat.le_refl _)) ?_
      rintro v3 h3' ⟨rfl, hR3, hL3, hL3', q3, hM3, m3, ⟨f1, f4, f11⟩, x3⟩
      have hR03 : RFm h h3' := (hB12.rm (by decide)).tr hR3
      have hT3 := hT2.kept (hR3.2 64 (by decide) (by decide) (by decide))
      have g4 : q3 4 = nI tl := f4.trans ((eo 4 (by omega)).trans hq)
      have fin : ∀ h4 q4, MO h4 n q4 → MQS tp tl (lnS tp tl nn ft wt mt p') q4 → SB 57 h3' h4 → (∀ j, j < 5 ∨ j = 11 → q4 j = q3 j) → ev_X scr d cd_X6_readLine 83 [.ref 57, .int (nI w)] [] h4 Q := by
        intro h4 q4 hM4 m4 hB4 e4
        refine ex_go 80 rfl ?_
        refine ex_cvx rfl rfl rfl rfl hM4 rfl (d' := 2) (by omega) (c_nextS (s := lnS tp tl nn ft wt mt p') (tp := tp) (tl := tl) hM4 (hT3.sb hB4 (by decide)) ((e4 4 (by omega)).trans g4) ht hb m4 (Nat.le_refl _)) ?_
        rintro v5 h5 ⟨rfl, hB5, q5, hM5, m5, e5⟩
        have hB45 := hB4.tr hB5
        refine ex_vret rfl ?_
        rw [← hQ]
        refine ⟨rfl, hR03.tr (hB45.rm (by decide)), hL3.sb hB45 (by decide), hL3'.sb hB45 (by decide), q5, hM5, m5, ?_, ?_, fun r hr => ?_⟩
        · rw [e5 4 (by omega), e4 4 (by omega), f4, eo 4 (by omega)]
        · rw [e5 11 (by omega), e4 11 (by omega), f11, eo 11 (by omega)]
        · rw [eln] at hr
          obtain ⟨hr2, _⟩ := ndS_r hr
          obtain ⟨y1, y2, y3, y4, y5⟩ := x3 r hr2
          rw [hw, enb]
          refine ⟨y1.sb hB45 (by decide), y2.sb hB45 (by decide), ?_, ?_, ?_, ?_⟩
          · rw [e5 0 (by omega), e4 0 (by omega), y3]
          · rw [e5 1 (by omega), e4 1 (by omega), f1, q1']
          · rw [e5 2 (by omega), e4 2 (by omega), y4]
          · rw [e5 3 (by omega), e4 3 (by omega), y5]
      refine ex_go 80 rfl ?_
      refine ex_getf rfl hM3 rfl rfl ?_
      cases hs3 : nxS tp tl (csS tp tl w mt (.inr p') (nmL w)) with
      | inl e =>
        obtain ⟨c0, x⟩ := e
        obtain ⟨z1, z2, z3, z4⟩ := m3.1 c0 x hs3
        rw [z1]
        refine ex_zneT rfl (c8_ne z3 z4) ?_
        refine fin h3' q3 hM3 ?_ SB.rf (fun _ _ => rfl)
        rw [eln]
        rw [hs3] at m3 ⊢
        exact m3
      | inr r3 =>
        obtain ⟨u9, u5, u6, u7, _, _, _⟩ := m3.2 r3 hs3
        have hK4 : tK tp tl r3 < 1000 := by
          unfold tK
          repeat' split
          all_goals decide
        have mm := m3.nd (b := fun p => decide (tK tp tl p = 3)) (bv := decide (tK tp tl r3 = 3)) (c := 2) (fun r z => by rw [hs3] at z; cases z; rfl) (by decide)
        rw [← eln] at mm
        rw [u9]
        refine ex_zneF rfl (rfl) ?_
        refine ex_go 80 rfl ?_
        refine ex_getf rfl hM3 rfl rfl ?_
        refine ex_go 80 rfl ?_
        rw [u7]
        refine ex_ineM 1 2 81 (v := nI (tb_b (decide (tK tp tl r3 = 3)))) rfl rfl rfl (if10 (nI_eq (b := 3) (by omega) (by decide))) ?_
        refine ex_go 80 rfl ?_
        refine ex_cvx rfl rfl rfl rfl hM3 rfl (d' := 0) (by omega) (c_needs hM3 (decide (tK tp tl r3 = 3))) ?_
        rintro v4 h4 ⟨rfl, hM4, hB4⟩
        exact fin h4 _ hM4 mm hB4 (fun j hj => ndq_o (by omega))
  have T29 : ∀ h1 q1, MO h1 n q1 → SB 57 h h1 → MQS tp tl (ndS tp tl (.inr p) (fun _ => decide (w ≠ 8)) 2) q1 → (∀ j, j ≠ 9 ∧ j ≠ 10 → q1 j = q j) → ev_X scr d cd_X6_readLine 29 [.ref 57, .int (lIw w)] [.int (nI (tb_b (decide ((w ≠ 8 ∧ 3 < w) ∨ nn < 8)))), .ref 57] h1 Q := by
    intro h1' q1 hM1 hB1 m1 e1
    have mm := m1.nd (b := fun _ => decide ((w ≠ 8 ∧ 3 < w) ∨ nn < 8)) (bv := decide ((w ≠ 8 ∧ 3 < w) ∨ nn < 8)) (c := 5) (fun r z => rfl) (by decide)
    refine ex_go 80 rfl ?_
    refine ex_cvx rfl rfl rfl rfl hM1 rfl (d' := 0) (by omega) (c_needs hM1 (decide ((w ≠ 8 ∧ 3 < w) ∨ nn < 8))) ?_
    rintro v2 h2' ⟨rfl, hM2, hB2⟩
    have e2 : ∀ j, j ≠ 9 ∧ j ≠ 10 → ndq q1 (decide ((w ≠ 8 ∧ 3 < w) ∨ nn < 8)) 5 j = q j := fun j hj => (ndq_o hj).trans (e1 j hj)
    have mm' : MQS tp tl (ndS tp tl (ndS tp tl (.inr p) (fun _ => decide (w ≠ 8)) 2) (fun _ => decide ((w ≠ 8 ∧ 3 < w) ∨ nn < 8)) 5) (ndq q1 (decide ((w ≠ 8 ∧ 3 < w) ∨ nn < 8)) 5) := mm
    generalize ndq q1 (decide ((w ≠ 8 ∧ 3 < w) ∨ nn < 8)) 5 = q2 at *
    have hB12 := hB1.tr hB2
    refine ex_go 80 rfl ?_
    refine ex_getf rfl hM2 rfl rfl ?_
    by_cases c8 : w = 8
    · have eS : ndS tp tl (ndS tp tl (.inr p) (fun _ => decide (w ≠ 8)) 2) (fun _ => decide ((w ≠ 8 ∧ 3 < w) ∨ nn < 8)) 5 = .inl (2, tS tp tl p) := by
        rw [ndS_f (b := fun _ => decide (w ≠ 8)) (decide_eq_false (fun z => z c8))]
        rfl
      have eh : hdS tp tl nn ft wt p = .inl (2, tS tp tl p) := by
        unfold hdS
        rw [hw, if_pos c8]
      rw [eS] at mm'
      obtain ⟨z1, _⟩ := mm'.1 _ _ rfl
      rw [z1]
      refine ex_zneT rfl (by decide) ?_
      exact T61 h2' q2 hM2 hB12 (by rw [eh]; exact mm') (fun j hj => e2 j (by omega)) (fun r hr => (by rw [eh] at hr; cases hr))
    · rw [ndS_t (b := fun _ => decide (w ≠ 8)) (decide_eq_true c8)] at mm'
      by_cases c5 : w ≤ 3 ∧ 8 ≤ nn
      · rw [ndS_f (b := fun _ => decide ((w ≠ 8 ∧ 3 < w) ∨ nn < 8)) (decide_eq_false (by omega))] at mm'
        have eh : hdS tp tl nn ft wt p = .inl (5, tS tp tl p) := by
          unfold hdS
          rw [hw, if_neg c8, if_neg (by omega), if_pos c5]
        obtain ⟨z1, _⟩ := mm'.1 _ _ rfl
        rw [z1]
        refine ex_zneT rfl (by decide) ?_
        exact T61 h2' q2 hM2 hB12 (by rw [eh]; exact mm') (fun j hj => e2 j (by omega)) (fun r hr => (by rw [eh] at hr; cases hr))
      · rw [ndS_t (b := fun _ => decide ((w ≠ 8 ∧ 3 < w) ∨ nn < 8)) (decide_eq_true (by omega))] at mm'
        obtain ⟨z9, z5, z6, z7, z8, _, _⟩ := mm'.2 p rfl
        have y1 : q2 1 = tlI ft wt := (e2 1 (by decide)).trans h1
        rw [z9]
        refine ex_zneF rfl (rfl) ?_
        refine ex_go 80 rfl ?_
        try dsimp only
        try simp only [nI_inc, nI_1, nI_add, nI_mul2, tb_and, tb_or, tb_andn, nI_x5, nI_x2, nI_p0, nI_p2, nI_p3, nI_p4, nI_q45]
        refine ex_cs rfl rfl rfl (d' := 0) (by omega) (c_in) ?_
        rw [lI_45 w (by omega)]
        by_cases c45 : w = 4 ∨ w = 5
        · rw [decide_eq_true c45]
          refine ex_zeqF rfl (by decide) ?_
          refine ex_go 80 rfl ?_
          refine ex_getf rfl hM2 rfl rfl ?_
          refine ex_go 80 rfl ?_
          try dsimp only
          try simp only [nI_inc, nI_1, nI_add, nI_mul2, tb_and, tb_or, tb_andn, nI_x5, nI_x2, nI_p0, nI_p2, nI_p3, nI_p4, nI_q45]
          rw [y1]
          rcases c45 with rfl | rfl
          · rw [show lIw 4 = nI 4 from rfl, (tl_bit ft wt).1]
            have mm4 := mm'.nd (b := fun _ => decide (ft = false)) (bv := decide (ft = false)) (c := 4) (fun r z => rfl) (by decide)
            refine ex_zneM 1 2 51 (v := nI (tb_b (decide (ft = false)))) rfl rfl rfl (if10 (tb_b0 _)) ?_
            refine ex_go 80 rfl ?_
            refine ex_cvx rfl rfl rfl rfl hM2 rfl (d' := 0) (by omega) (c_needs hM2 (decide (ft = false))) ?_
            rintro v3 h3' ⟨rfl, hM3, hB3⟩
            refine ex_go 80 rfl ?_
            refine ex_getf rfl hM3 rfl rfl ?_
            refine ex_go 80 rfl ?_
            try dsimp only
            try simp only [nI_inc, nI_1, nI_add, nI_mul2, tb_and, tb_or, tb_andn, nI_x5, nI_x2, nI_p0, nI_p2, nI_p3, nI_p4, nI_q45]
            rw [ndq_o (by decide), y1, (tl_or ft wt).1]
            refine ex_pf rfl hM3 rfl rfl (fun h4 hO4 hB4 => ?_)
            have hM4 : MO h4 n (ux (ndq q2 (decide (ft = false)) 4) 1 (tlI true wt)) := hO4
            have eh : hdS tp tl nn ft wt p = ndS tp tl (.inr p) (fun _ => decide (ft = false)) 4 := by
              unfold hdS
              rw [hw, if_neg (by decide)]
              cases ft
              · rw [if_neg (by intro z; rcases z with z | z; exact absurd z.2 (by decide); exact absurd z.1 (by decide)), if_neg (by omega), ndS_t (b := fun _ => decide (false = false)) rfl]
              · rw [if_pos (Or.inl ⟨rfl, rfl⟩), ndS_f (b := fun _ => decide (true = false)) rfl]
            refine T61 h4 _ hM4 (hB12.tr (hB3.tr hB4)) ?_ (fun j hj => ?_) (fun r hr => ?_)
            · rw [eh]
              refine mm4.up (fun j _ _ => ?_)
              rw [ux_ne (by omega)]
              rfl
            · rw [ux_ne (by omega), ndq_o (by omega), e2 j (by omega)]
            · rw [ux_eq]
              cases ft <;> cases wt <;> rfl
          · rw [show lIw 5 = nI 5 from rfl, (tl_bit ft wt).2]
            have mm4 := mm'.nd (b := fun _ => decide (wt = false)) (bv := decide (wt = false)) (c := 4) (fun r z => rfl) (by decide)
            refine ex_zneM 1 2 51 (v := nI (tb_b (decide (wt = false)))) rfl rfl rfl (if10 (tb_b0 _)) ?_
            refine ex_go 80 rfl ?_
            refine ex_cvx rfl rfl rfl rfl hM2 rfl (d' := 0) (by omega) (c_needs hM2 (decide (wt = false))) ?_
            rintro v3 h3' ⟨rfl, hM3, hB3⟩
            refine ex_go 80 rfl ?_
            refine ex_getf rfl hM3 rfl rfl ?_
            refine ex_go 80 rfl ?_
            try dsimp only
            try simp only [nI_inc, nI_1, nI_add, nI_mul2, tb_and, tb_or, tb_andn, nI_x5, nI_x2, nI_p0, nI_p2, nI_p3, nI_p4, nI_q45]
            rw [ndq_o (by decide), y1, (tl_or ft wt).2]
            refine ex_pf rfl hM3 rfl rfl (fun h4 hO4 hB4 => ?_)
            have hM4 : MO h4 n (ux (ndq q2 (decide (wt = false)) 4) 1 (tlI ft true)) := hO4
            have eh : hdS tp tl nn ft wt p = ndS tp tl (.inr p) (fun _ => decide (wt = false)) 4 := by
              unfold hdS
              rw [hw, if_neg (by decide)]
              cases wt
              · rw [if_neg (by intro z; rcases z with z | z; exact absurd z.1 (by decide); exact absurd z.2 (by decide)), if_neg (by omega), ndS_t (b := fun _ => decide (false = false)) rfl]
              · rw [if_pos (Or.inr ⟨rfl, rfl⟩), ndS_f (b := fun _ => decide (true = false)) rfl]
            refine T61 h4 _ hM4 (hB12.tr (hB3.tr hB4)) ?_ (fun j hj => ?_) (fun r hr => ?_)
            · rw [eh]
              refine mm4.up (fun j _ _ => ?_)
              rw [ux_ne (by omega)]
              rfl
            · rw [ux_ne (by omega), ndq_o (by omega), e2 j (by omega)]
            · rw [ux_eq]
              cases ft <;> cases wt <;> rfl
        · have eh : hdS tp tl nn ft wt p = .inr p := by
            unfold hdS
            rw [hw, if_neg c8, if_neg (fun z => c45 (by rcases z with z | z; exact Or.inl z.1; exact Or.inr z.1)), if_neg c5]
          rw [decide_eq_false c45]
          refine ex_zeqT rfl (by decide) ?_
          refine T61 h2' q2 hM2 hB12 (by rw [eh]; exact mm') (fun j hj => e2 j (by omega)) (fun r _ => ?_)
          rw [y1, decide_eq_false (fun z => c45 (Or.inl z)), decide_eq_false (fun z => c45 (Or.inr z)), Bool.or_false, Bool.or_false]
  have M8 : ∀ v0, v0 = lIw w → ev_X scr d cd_X6_readLine 8 [.ref 57, .float 0] [.int v0] h Q := by
    intro v0 hv0
    rw [hv0]
    have mm := m.nd (b := fun _ => decide (w ≠ 8)) (bv := decide (w ≠ 8)) (c := 2) (fun r z => rfl) (by decide)
    refine ex_go 80 rfl ?_
    refine ex_ieqM 1 2 16 (v := nI (tb_b (decide (w ≠ 8)))) rfl rfl rfl (if01 (lI_8 w (by omega))) ?_
    refine ex_go 80 rfl ?_
    refine ex_cvx rfl rfl rfl rfl hM rfl (d' := 0) (by omega) (c_needs hM (decide (w ≠ 8))) ?_
    rintro v1 h1' ⟨rfl, hM1, hB1⟩
    have T := T29 h1' _ hM1 hB1 mm (fun j hj => ndq_o hj)
    have z0 : ndq q (decide (w ≠ 8)) 2 0 = nI nn := (ndq_o (by decide)).trans h0
    by_cases c3 : w ≠ 8 ∧ 3 < w
    · rw [decide_eq_true (Or.inl c3)] at T
      refine ex_go 80 rfl ?_
      refine ex_igtT rfl ((lI_3 w (by omega)).mpr c3) ?_
      refine ex_go 2 rfl ?_
      exact T
    · refine ex_go 80 rfl ?_
      refine ex_igtF rfl (fun z => c3 ((lI_3 w (by omega)).mp z)) ?_
      refine ex_go 80 rfl ?_
      refine ex_getf rfl hM1 rfl rfl ?_
      refine ex_go 80 rfl ?_
      rw [z0]
      by_cases cn : nn < 8
      · rw [decide_eq_true (Or.inr cn)] at T
        refine ex_igeF rfl (nI_ge (b := 8) cn (by decide)) ?_
        refine ex_go 2 rfl ?_
        exact T
      · rw [decide_eq_false (fun z => by omega)] at T
        refine ex_igeT rfl (nI_le (a := 8) (by omega) (by omega)) ?_
        refine ex_go 1 rfl ?_
        exact T
  have hK4 : tK tp tl p < 1000 := by
    unfold tK
    repeat' split
    all_goals decide
  obtain ⟨hE1, hE2⟩ := tE_le (tp := tp) kp
  refine ex_go 80 rfl ?_
  refine ex_getf rfl hM rfl rfl ?_
  refine ex_go 80 rfl ?_
  rw [k7]
  by_cases c1 : tK tp tl p = 1
  · rw [c1]
    refine ex_ineF rfl (rfl) ?_
    refine ex_go 80 rfl ?_
    refine ex_cv rfl rfl rfl rfl hM rfl (d' := 2) (by omega) (c_lineNow (s := tS tp tl p) (e := tE tp tl p) hM hTp hq ht hb k5 k6 hE1 hE2 (Nat.le_refl _)) ?_
    refine ex_go 1 rfl ?_
    refine M8 _ ?_
    rw [← hw]
    unfold lwS
    rw [if_pos c1]
  · refine ex_ineT rfl (fun z => c1 ((nI_eq (b := 1) (by omega) (by decide)).mp z)) ?_
    refine ex_go 1 rfl ?_
    refine M8 _ ?_
    rw [← hw]
    unfold lwS
    rw [if_neg c1]
    rfl
end MRL
