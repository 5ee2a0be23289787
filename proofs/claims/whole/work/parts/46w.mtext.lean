/-! text: the model's call. -/
theorem hI_lt : ∀ nn, nn < 9 → ∀ hg, hg < 9 → (nI nn ≤ hIg hg ↔ ¬ hg ≤ nn) := by decide
def MTQ (h : ev_H) (n tl : Nat) (q im : Nat → Int32) (R : Sum (Nat × Nat) Nat × Nat × (Nat → Nat) × Nat × Nat) (v : Option Value) (h' : ev_H) : Prop := LA h' 62 57 ∧ LA h' 63 4 ∧ h'.length = h.length ∧ ∃ q', q' 4 = 0 ∧ q' 11 = q 11 ∧ (∀ c x, vdS tl R = .inl (c, x) → v = some (.int (-10 - nI x)) ∧ q' 9 = nI c ∧ MO h' n q' ∧ ∀ j, j ≠ 57 → j ≠ 62 → j ≠ 63 → h'[j]? = h[j]?) ∧ ∀ r, vdS tl R = .inr r → v = some (.int (nI R.2.2.2.2)) ∧ q' 9 = 0 ∧ MO h' R.2.1 q' ∧ ST h' R.2.2.1 im ∧ MS h' R.2.2.1 ∧ KB h' 60 (fun _ => false) ∧ GD R.2.1 R.2.2.1 ∧ ∀ j, j ≠ 57 → j ≠ 58 → j ≠ 60 → j ≠ 61 → j ≠ 62 → j ≠ 63 → h'[j]? = h[j]?
section MTEXT
variable {scr : List Int32} {d : Nat} {h : ev_H} {n : Nat} {q im : Nat → Int32} {tp : Nat → Nat} {tl : Nat} {f : Nat → Nat} {kp : Nat → Bool}
theorem r_text (hM : MO h n q) (hTp : IA h 64 160 (fun i => i < tl) (fun i => nI (tp i))) (hq : q 4 = nI tl) (ht : tl ≤ 160) (hb : ∀ i, i < tl → tp i < 128) (hS : ST h f im) (hMo : MS h f) (hKp : KB h 60 kp) (hL : LA h 62 57) (hL2 : LA h 63 4) (hd : 7 ≤ d) : ev_X scr d cd_X6_text 0 [.ref 57, .float 0] [] h (MTQ h n tl q im (txS tp tl (tl + 1) (tkS tp tl 0) 0 f0F false false 0 0 0)) := by
  have T42 : ∀ R h1 q1, RFm h h1 → MO h1 n q1 → q1 11 = q 11 → LA h1 62 57 → LA h1 63 4 → MQS tp tl (vdS tl R) q1 → (∀ r, vdS tl R = .inr r → DRF h1 R.2.2.1 ∧ DMF h1 R.2.2.1 ∧ q1 0 = nI R.2.1 ∧ GD R.2.1 R.2.2.1) → ev_X scr d cd_X6_text 42 [.ref 57, .int (nI R.2.2.2.2)] [] h1 (MTQ h n tl q im R) := by
    intro R h1 q1 hR1 hM1 e11 hL1 hL1' m1 x1
    refine ex_go 80 rfl ?_
    refine ex_pf rfl hM1 rfl rfl (fun h2 hO2 hB2 => ?_)
    have hM2 : MO h2 n (ux q1 4 0) := hO2
    have hR2 := hR1.tr (hB2.rm (by decide))
    refine ex_go 80 rfl ?_
    refine ex_getf rfl hM2 rfl rfl ?_
    rw [show ux q1 4 0 9 = q1 9 from ux_ne (by decide)]
    cases hv : vdS tl R with
    | inl e =>
      obtain ⟨c, x⟩ := e
      obtain ⟨z1, z2, z3, z4⟩ := m1.1 c x hv
      rw [z1]
      refine ex_zleF rfl (Int32.not_le.mpr (nI_lt (a := 0) z3 (by omega))) ?_
      refine ex_go 80 rfl ?_
      refine ex_getf rfl hM2 rfl rfl ?_
      refine ex_go 80 rfl ?_
      try dsimp only
      try simp only [nI_inc, nI_1, nI_add, nI_mul2, tb_and, tb_or, tb_andn, nI_x5, nI_x2, nI_p0, nI_p2, nI_p3, nI_p4, nI_q45]
      rw [show ux q1 4 0 10 = q1 10 from ux_ne (by decide), z2]
      refine ex_iret rfl ⟨hL1.sb hB2 (by decide), hL1'.sb hB2 (by decide), hR2.1, _, ux_eq, e11, fun c' x' e' => ?_, fun r e' => ?_⟩
      · rw [hv] at e'
        cases e'
        exact ⟨rfl, z1, hM2, hR2.2⟩
      · rw [hv] at e'
        cases e'
    | inr r =>
      obtain ⟨z9, _⟩ := m1.2 r hv
      obtain ⟨y1, y2, y3, y4⟩ := x1 r hv
      rw [z9]
      refine ex_zleT rfl (by decide) ?_
      refine ex_go 80 rfl ?_
      refine ex_cvx rfl rfl rfl rfl hM2 rfl (d' := 0) (by omega) (c_keepDraft (f := f) (f' := R.2.2.1) (nn := R.2.1) (kp := kp) (im := im) hM2 (hS.kept (hR2.2 58 (by decide) (by decide) (by decide))) (y1.sb hB2 (by decide)) (y2.sb hB2 (by decide)) (hMo.kept (hR2.2 61 (by decide) (by decide) (by decide))) (hKp.kept (hR2.2 60 (by decide) (by decide) (by decide))) y3) ?_
      rintro v3 h3 ⟨rfl, hM3, hS3, hMo3, hK3, hl3, hE3⟩
      refine ex_go 80 rfl ?_
      refine ex_iret rfl ⟨(hL1.sb hB2 (by decide)).kept (hE3 62 (by decide) (by decide) (by decide) (by decide)), (hL1'.sb hB2 (by decide)).kept (hE3 63 (by decide) (by decide) (by decide) (by decide)), hl3.trans hR2.1, _, ux_eq, e11, fun c' x' e' => ?_, fun r' e' => ⟨rfl, z9, hM3, hS3, hMo3, hK3, y4, fun j a b c e f g => (hE3 j a b c e).trans (hR2.2 j a f g)⟩⟩
      rw [hv] at e'
      cases e'
  have L : ∀ m s h1 q1 nn f1 ft wt mt km hg k, RFm h h1 → MO h1 n q1 → q1 4 = nI tl → q1 11 = q 11 → LA h1 62 57 → LA h1 63 4 → MQS tp tl s q1 → (∀ p, s = .inr p → tl < p + m ∧ INVt nn f1 mt km hg ∧ DRF h1 f1 ∧ DMF h1 f1 ∧ q1 0 = nI nn ∧ q1 1 = tlI ft wt ∧ q1 2 = nI mt ∧ q1 3 = hIg hg) → ev_X scr d cd_X6_text 12 [.ref 57, .int (nI k)] [] h1 (MTQ h n tl q im (txS tp tl m s nn f1 ft wt mt km k)) := by
    intro m
    induction m with
    | zero =>
      intro s h1 q1 nn f1 ft wt mt km hg k hR1 hM1 e4 e11 hL1 hL1' m1 x1
      cases s with
      | inl e =>
        obtain ⟨c, x⟩ := e
        obtain ⟨z1, z2, z3, z4⟩ := m1.1 c x rfl
        have hne := c8_ne z3 z4
        refine ex_nop rfl ?_
        refine ex_go 80 rfl ?_
        refine ex_getf rfl hM1 rfl rfl ?_
        rw [z1]
        refine ex_zneT rfl (hne) ?_
        refine ex_go 80 rfl ?_
        refine ex_getf rfl hM1 rfl rfl ?_
        rw [z1]
        refine ex_zneT rfl (hne) ?_
        exact T42 (.inl (c, x), nn, f1, km, k) h1 q1 hR1 hM1 e11 hL1 hL1' m1 (fun r e => (by cases e))
      | inr p =>
        obtain ⟨w1, _⟩ := x1 p rfl
        obtain ⟨_, _, _, _, _, w2, _⟩ := m1.2 p rfl
        omega
    | succ m ih =>
      intro s h1 q1 nn f1 ft wt mt km hg k hR1 hM1 e4 e11 hL1 hL1' m1 x1
      cases s with
      | inl e =>
        obtain ⟨c, x⟩ := e
        obtain ⟨z1, z2, z3, z4⟩ := m1.1 c x rfl
        have hne := c8_ne z3 z4
        refine ex_nop rfl ?_
        refine ex_go 80 rfl ?_
        refine ex_getf rfl hM1 rfl rfl ?_
        rw [z1]
        refine ex_zneT rfl (hne) ?_
        refine ex_go 80 rfl ?_
        refine ex_getf rfl hM1 rfl rfl ?_
        rw [z1]
        refine ex_zneT rfl (hne) ?_
        exact T42 (.inl (c, x), nn, f1, km, k) h1 q1 hR1 hM1 e11 hL1 hL1' m1 (fun r e => (by cases e))
      | inr p =>
        obtain ⟨w1, I, hD1, hDm1, y0, y1, y2, y3⟩ := x1 p rfl
        obtain ⟨k9, k5, k6, k7, k8, kpl, ko⟩ := m1.2 p rfl
        have hn8 := I.1.1
        have hg8 := I.2.2.2.2.2
        have hT1 := hTp.kept (hR1.2 64 (by decide) (by decide) (by decide))
        have hK4 : tK tp tl p < 1000 := by
          unfold tK
          repeat' split
          all_goals decide
        refine ex_nop rfl ?_
        refine ex_go 80 rfl ?_
        refine ex_getf rfl hM1 rfl rfl ?_
        rw [k9]
        refine ex_zneF rfl (rfl) ?_
        refine ex_go 80 rfl ?_
        refine ex_getf rfl hM1 rfl rfl ?_
        rw [k7]
        by_cases c0 : tK tp tl p = 0
        · rw [txS_0 c0, c0]
          have hSt : tS tp tl p = tl := by
            have := (tS_le (tp := tp) kpl).2
            have : tl ≤ tS tp tl p := by
              apply Classical.byContradiction
              intro z
              unfold tK at c0
              rw [if_neg z] at c0
              revert c0
              repeat' split
              all_goals decide
            omega
          have mm := (m1.nd (b := fun _ => decide (hg ≤ nn)) (bv := decide (hg ≤ nn)) (c := 6) (fun r z => rfl) (by decide)).nd (b := fun _ => ftk nn f1 4) (bv := ftk nn f1 4) (c := 7) (fun r z => rfl) (by decide)
          have eS : ndS tp tl (ndS tp tl (.inr p) (fun _ => decide (hg ≤ nn)) 6) (fun _ => ftk nn f1 4) 7 = vdE tl nn f1 km p := by
            unfold vdE
            by_cases ck : hg ≤ nn
            · rw [ndS_t (b := fun _ => decide (hg ≤ nn)) (decide_eq_true ck), if_pos (I.kin.mpr ck)]
              cases cf : ftk nn f1 4
              · rw [ndS_f (b := fun _ => false) rfl, hSt, if_neg (by decide)]
              · rw [ndS_t (b := fun _ => true) rfl, if_pos rfl]
            · rw [ndS_f (b := fun _ => decide (hg ≤ nn)) (decide_eq_false ck), if_neg (fun z => ck (I.kin.mp z)), hSt]
              rfl
          rw [eS] at mm
          refine ex_zeqT rfl (rfl) ?_
          refine ex_go 80 rfl ?_
          refine ex_getf rfl hM1 rfl rfl ?_
          rw [k9]
          refine ex_zneF rfl (rfl) ?_
          refine ex_go 80 rfl ?_
          refine ex_getf rfl hM1 rfl rfl ?_
          refine ex_go 80 rfl ?_
          refine ex_getf rfl hM1 rfl rfl ?_
          rw [y3, y0]
          refine ex_igeM 1 2 35 (v := nI (tb_b (decide (hg ≤ nn)))) rfl rfl rfl (if01 (hI_lt nn (by omega) hg (by omega))) ?_
          refine ex_go 80 rfl ?_
          refine ex_cvx rfl rfl rfl rfl hM1 rfl (d' := 0) (by omega) (c_needs hM1 (decide (hg ≤ nn))) ?_
          rintro v2 h2 ⟨rfl, hM2, hB2⟩
          have hD2 := hD1.sb hB2 (by decide)
          have hDm2 := hDm1.sb hB2 (by decide)
          refine ex_go 80 rfl ?_
          refine ex_cv rfl rfl rfl rfl hM2 rfl (d' := 1) (by omega) (c_doFit (nn := nn) hM2 hD2 hDm2 ((ndq_o (by decide)).trans y0) hn8 (fun t ht => by have := (I.1.2.2.2.2.2.2.2.2.2 t ht).2; omega) (Nat.le_refl _)) ?_
          refine ex_go 80 rfl ?_
          refine ex_cvx rfl rfl rfl rfl hM2 rfl (d' := 0) (by omega) (c_needs hM2 (ftk nn f1 4)) ?_
          rintro v3 h3 ⟨rfl, hM3, hB3⟩
          have hB13 := hB2.tr hB3
          refine T42 (.inr p, nn, f1, km, k) h3 _ (hR1.tr (hB13.rm (by decide))) hM3 ?_ (hL1.sb hB13 (by decide)) (hL1'.sb hB13 (by decide)) mm (fun r _ => ⟨hD2.sb hB3 (by decide), hDm2.sb hB3 (by decide), ?_, I.1⟩)
          · rw [ndq_o (by decide), ndq_o (by decide), e11]
          · rw [ndq_o (by decide), ndq_o (by decide), y0]
        · rw [txS_s c0]
          refine ex_zeqF rfl (fun z => c0 ((nI_z (by omega)).mp z)) ?_
          refine ex_go 80 rfl ?_
          refine ex_cvx rfl rfl rfl rfl hM1 rfl (d' := 6) (by omega) (c_readLine (p := p) (nn := nn) (mt := mt) (hg := hg) (ft := ft) (wt := wt) hM1 hT1 e4 ht hb m1 hD1 hDm1 y0 hn8 y1 y2 I.2.1 y3 hg8 (Nat.le_refl _)) ?_
          rintro v2 h2 ⟨rfl, hR2, hL3, hL3', q2, hM2, m2, f4, f11, x2⟩
          refine ex_go 80 rfl ?_
          try dsimp only
          try simp only [nI_inc, nI_1, nI_add, nI_mul2, tb_and, tb_or, tb_andn, nI_x5, nI_x2, nI_p0, nI_p2, nI_p3, nI_p4, nI_q45]
          refine ih _ h2 q2 _ _ _ _ _ _ (pHh (lwS tp tl p) hg (nbS tp tl nn ft wt mt p)) _ (hR1.tr hR2) hM2 (f4.trans e4) (f11.trans e11) hL3 hL3' m2 (fun p' hp' => ?_)
          obtain ⟨r, hr, he, _⟩ := nxS_r hp'
          obtain ⟨_, _, _, _, _, _, l7, l8⟩ := ln_ok kpl hr
          obtain ⟨g1, g2, g3, g4, g5, g6⟩ := x2 r hr
          exact ⟨by omega, I.line kpl hr, g1, g2, g3, g4, g5, g6⟩
  refine ex_go 80 rfl ?_
  refine ex_pf rfl hM rfl rfl (fun h1 hO1 hB1 => ?_)
  have hM1 : MO h1 n (ux q 9 0) := hO1
  refine ex_go 80 rfl ?_
  refine ex_pf rfl hM1 rfl rfl (fun h2 hO2 hB2 => ?_)
  have hM2 : MO h2 n (ux (ux q 9 0) 5 0) := hO2
  have hB12 := hB1.tr hB2
  refine ex_go 80 rfl ?_
  refine ex_cvx rfl rfl rfl rfl hM2 rfl (d' := 0) (by omega) (c_firstDraft hM2 (hL.sb hB12 (by decide)) (hL2.sb hB12 (by decide))) ?_
  rintro v3 h3 ⟨rfl, hR3, hD3, hDm3, q3, hM3, z0, z1, z2, z3, e3⟩
  have hR03 := (hB12.rm (by decide)).tr hR3
  have y9 : q3 9 = 0 := e3 9 (by decide)
  have y5 : q3 5 = nI 0 := e3 5 (by decide)
  have y4 : q3 4 = nI tl := (e3 4 (by decide)).trans hq
  refine ex_go 80 rfl ?_
  refine ex_cvx rfl rfl rfl rfl hM3 rfl (d' := 2) (by omega) (c_next (p := 0) hM3 (hTp.kept (hR03.2 64 (by decide) (by decide) (by decide))) y4 ht hb y9 y5 (Nat.zero_le _) (Nat.le_refl _)) ?_
  rintro v4 h4 ⟨rfl, hB4, q4, hM4, n1, n2, n3, n4⟩
  have m4 : MQS tp tl (tkS tp tl 0) q4 := by
    unfold tkS
    cases ho : tO tp tl 0
    · rw [if_neg (by decide)]
      obtain ⟨k1, k2⟩ := n4 ho
      exact MQS.l ⟨k1, k2, by decide, by decide⟩
    · rw [if_pos rfl]
      obtain ⟨k1, k2, k3, k4⟩ := n3 ho
      exact MQS.r ⟨k1, k2, n2, k3, k4, Nat.zero_le _, ho⟩
  refine L (tl + 1) (tkS tp tl 0) h4 q4 0 f0F false false 0 0 0 0 (hR03.tr (hB4.rm (by decide))) hM4 ((n1 4 (by omega)).trans y4) ((n1 11 (by omega)).trans (e3 11 (by decide))) (hD3.sb hB4 (by decide)).la (hDm3.sb hB4 (by decide)).la m4 (fun p _ => ⟨by omega, f0_gd, hD3.sb hB4 (by decide), hDm3.sb hB4 (by decide), (n1 0 (by omega)).trans z0, (n1 1 (by omega)).trans z1, (n1 2 (by omega)).trans z2, (n1 3 (by omega)).trans z3⟩)
end MTEXT
