/-! text: the model's states. -/
def MQS (tp : Nat → Nat) (tl : Nat) (s : Sum (Nat × Nat) Nat) (q : Nat → Int32) : Prop := (∀ c x, s = .inl (c, x) → q 9 = nI c ∧ q 10 = nI x ∧ 0 < c ∧ c < 8) ∧ ∀ p, s = .inr p → q 9 = 0 ∧ q 5 = nI (tE tp tl p) ∧ q 6 = nI (tS tp tl p) ∧ q 7 = nI (tK tp tl p) ∧ (tK tp tl p = 2 → q 8 = nI (tV tp tl p)) ∧ p ≤ tl ∧ tO tp tl p = true
section MST
variable {scr : List Int32} {d : Nat} {h : ev_H} {n : Nat} {q : Nat → Int32} {tp : Nat → Nat} {tl p : Nat} {s : Sum (Nat × Nat) Nat}
theorem MQS.l {c x : Nat} (h1 : q 9 = nI c ∧ q 10 = nI x ∧ 0 < c ∧ c < 8) : MQS tp tl (.inl (c, x)) q := by
  refine ⟨fun c' x' e => ?_, fun p e => (by cases e)⟩
  cases e
  exact h1
theorem MQS.r {p : Nat} (h1 : q 9 = 0 ∧ q 5 = nI (tE tp tl p) ∧ q 6 = nI (tS tp tl p) ∧ q 7 = nI (tK tp tl p) ∧ (tK tp tl p = 2 → q 8 = nI (tV tp tl p)) ∧ p ≤ tl ∧ tO tp tl p = true) : MQS tp tl (.inr p) q := by
  refine ⟨fun c' x' e => (by cases e), fun p e => ?_⟩
  cases e
  exact h1
theorem c8_ne {c : Nat} (h0 : 0 < c) (h8 : c < 8) : ¬ nI c = 0 := fun z => by
  have := (nI_z (x := c) (by omega)).mp z
  omega
theorem ndq_o {b : Bool} {c : Int32} {j : Nat} (hj : j ≠ 9 ∧ j ≠ 10) : ndq q b c j = q j := by
  unfold ndq
  split
  · rw [ux_ne hj.2, ux_ne hj.1]
  · rfl
theorem MQS.nd {b : Nat → Bool} {bv : Bool} {c : Nat} (m : MQS tp tl s q) (hb : ∀ p, s = .inr p → b p = bv) (hc : 0 < c ∧ c < 8) : MQS tp tl (ndS tp tl s b c) (ndq q bv (nI c)) := by
  cases s with
  | inl e =>
    obtain ⟨c0, x⟩ := e
    obtain ⟨m1, m2, m3, m4⟩ := m.1 c0 x rfl
    have e9 : ndq q bv (nI c) = q := by
      unfold ndq
      rw [if_neg (fun z => c8_ne m3 m4 (m1.symm.trans z.2))]
    rw [e9]
    exact m
  | inr p =>
    obtain ⟨m1, m2, m3, m4, m5, m6, m7⟩ := m.2 p rfl
    have hbp := hb p rfl
    cases bv
    · rw [ndS_f hbp]
      have e9 : ndq q false (nI c) = ux (ux q 9 (nI c)) 10 (q 6) := by
        unfold ndq
        rw [if_pos ⟨rfl, m1⟩]
      rw [e9]
      exact MQS.l ⟨by rw [ux_ne (by decide), ux_eq], by rw [ux_eq, m3], hc.1, hc.2⟩
    · rw [ndS_t hbp]
      have e9 : ndq q true (nI c) = q := by
        unfold ndq
        rw [if_neg (fun z => absurd z.1 (by decide))]
      rw [e9]
      exact m
theorem MQS.up {q' : Nat → Int32} (m : MQS tp tl s q) (e : ∀ j, 5 ≤ j → j ≤ 10 → q' j = q j) : MQS tp tl s q' := by
  refine ⟨fun c x z => ?_, fun p z => ?_⟩
  · rw [e 9 (by decide) (by decide), e 10 (by decide) (by decide)]
    exact m.1 c x z
  · rw [e 9 (by decide) (by decide), e 5 (by decide) (by decide), e 6 (by decide) (by decide), e 7 (by decide) (by decide), e 8 (by decide) (by decide)]
    exact m.2 p z
theorem c_nextS (hM : MO h n q) (hTp : IA h 64 160 (fun i => i < tl) (fun i => nI (tp i))) (hq : q 4 = nI tl) (ht : tl ≤ 160) (hb : ∀ i, i < tl → tp i < 128) (m : MQS tp tl s q) (hd : 2 ≤ d) : ev_X scr d cd_X6_next 0 [.ref 57, .float 0] [] h (fun v h' => v = none ∧ SB 57 h h' ∧ ∃ q', MO h' n q' ∧ MQS tp tl (nxS tp tl s) q' ∧ ∀ j, j < 5 ∨ j = 11 → q' j = q j) := by
  cases s with
  | inl e =>
    obtain ⟨c0, x⟩ := e
    obtain ⟨m1, m2, m3, m4⟩ := m.1 c0 x rfl
    refine ex_mono (c_next0 hM (by rw [m1]; exact nI_lt (a := 0) m3 (by omega))) ?_
    rintro v h' ⟨rfl, hM', hB'⟩
    exact ⟨rfl, hB', q, hM', m, fun _ _ => rfl⟩
  | inr p =>
    obtain ⟨m1, m2, m3, m4, m5, m6, m7⟩ := m.2 p rfl
    have hE := (tE_le (tp := tp) m6).2
    refine ex_mono (c_next hM hTp hq ht hb m1 m2 hE hd) ?_
    rintro v h' ⟨rfl, hB', q', hM', n1, n2, n3, n4⟩
    refine ⟨rfl, hB', q', hM', ?_, n1⟩
    show MQS tp tl (tkS tp tl (tE tp tl p)) q'
    unfold tkS
    cases ho : tO tp tl (tE tp tl p)
    · rw [if_neg (by decide)]
      obtain ⟨k1, k2⟩ := n4 ho
      exact MQS.l ⟨k1, k2, by decide, by decide⟩
    · rw [if_pos rfl]
      obtain ⟨k1, k2, k3, k4⟩ := n3 ho
      exact MQS.r ⟨k1, k2, n2, k3, k4, hE, ho⟩
theorem c_looked {lo hi : Nat} (hM : MO h n q) (m : MQS tp tl s q) (hlo : lo < 1000) (hhi : hi < 1000) (hd : 1 ≤ d) : ev_X scr d cd_X6_looked 0 [.ref 57, .int (nI lo), .int (nI hi)] [] h (fun v h' => v = some (.int (nI (vlS tp tl (lkS tp tl s lo hi)))) ∧ SB 57 h h' ∧ ∃ q', MO h' n q' ∧ MQS tp tl (lkS tp tl s lo hi) q' ∧ ∀ j, j < 5 ∨ j = 11 → q' j = q j) := by
  cases s with
  | inl e =>
    obtain ⟨c0, x⟩ := e
    obtain ⟨m1, m2, m3, m4⟩ := m.1 c0 x rfl
    have hne := c8_ne m3 m4
    refine ex_go 80 rfl ?_
    refine ex_getf rfl hM rfl rfl ?_
    rw [m1]
    refine ex_zneT rfl (hne) ?_
    refine ex_go 80 rfl ?_
    refine ex_getf rfl hM rfl rfl ?_
    rw [m1]
    refine ex_zneT rfl (hne) ?_
    refine ex_go 80 rfl ?_
    refine ex_getf rfl hM rfl rfl ?_
    rw [m1]
    refine ex_zneT rfl (hne) ?_
    refine ex_go 80 rfl ?_
    exact ex_iret rfl ⟨rfl, SB.rf, q, hM, m, fun _ _ => rfl⟩
  | inr p =>
    obtain ⟨m1, m2, m3, m4, m5, m6, m7⟩ := m.2 p rfl
    have hK4 : tK tp tl p < 1000 := by
      unfold tK
      repeat' split
      all_goals decide
    have mm := m.nd (b := fun p => decide (tK tp tl p = 2)) (bv := decide (tK tp tl p = 2)) (c := 2) (fun r z => by cases z; rfl) (by decide)
    refine ex_go 80 rfl ?_
    refine ex_getf rfl hM rfl rfl ?_
    rw [m1]
    refine ex_zneF rfl (rfl) ?_
    refine ex_go 80 rfl ?_
    refine ex_getf rfl hM rfl rfl ?_
    refine ex_go 80 rfl ?_
    rw [m4]
    refine ex_ineM 1 2 11 (v := nI (tb_b (decide (tK tp tl p = 2)))) rfl rfl rfl (if10 (nI_eq (b := 2) (by omega) (by decide))) ?_
    refine ex_go 80 rfl ?_
    refine ex_cvx rfl rfl rfl rfl hM rfl (d' := 0) (by omega) (c_needs hM (decide (tK tp tl p = 2))) ?_
    rintro v1 h1 ⟨rfl, hM1, hB1⟩
    by_cases c2 : tK tp tl p = 2
    · have v8 := m5 c2
      have v99 := tV_99 m7 c2
      rw [decide_eq_true c2] at hM1
      have e9 : ndq q true 2 = q := by
        unfold ndq
        rw [if_neg (fun z => absurd z.1 (by decide))]
      rw [e9] at hM1
      have key : decide ((nI lo).toInt64 ≤ (q 8).toInt64 ∧ (q 8).toInt64 ≤ (nI hi).toInt64) = decide (lo ≤ tV tp tl p ∧ tV tp tl p ≤ hi) := by
        refine decide_eq_decide.mpr ?_
        rw [v8, Int64.le_iff_toInt_le, Int64.le_iff_toInt_le, Int32.toInt_toInt64, Int32.toInt_toInt64, Int32.toInt_toInt64, nI_toInt (by omega), nI_toInt (by omega), nI_toInt (by omega)]
        omega
      have ml := (m.nd (b := fun p => decide (tK tp tl p = 2)) (bv := true) (c := 2) (fun r z => by cases z; exact decide_eq_true c2) (by decide)).nd (b := fun p => decide (lo ≤ tV tp tl p ∧ tV tp tl p ≤ hi)) (bv := decide (lo ≤ tV tp tl p ∧ tV tp tl p ≤ hi)) (c := 3) (fun r z => by rw [ndS_t (decide_eq_true c2)] at z; cases z; rfl) (by decide)
      have e9' : ndq q true (nI 2) = q := e9
      rw [e9'] at ml
      have eS : lkS tp tl (.inr p) lo hi = if lo ≤ tV tp tl p ∧ tV tp tl p ≤ hi then .inr p else .inl (3, tS tp tl p) := by
        unfold lkS
        rw [ndS_t (decide_eq_true c2)]
        by_cases cb : lo ≤ tV tp tl p ∧ tV tp tl p ≤ hi
        · rw [ndS_t (decide_eq_true cb), if_pos cb]
        · rw [ndS_f (decide_eq_false cb), if_neg cb]
      refine ex_go 80 rfl ?_
      refine ex_getf rfl hM1 rfl rfl ?_
      rw [m1]
      refine ex_zneF rfl (rfl) ?_
      refine ex_go 80 rfl ?_
      refine ex_getf rfl hM1 rfl rfl ?_
      refine ex_go 80 rfl ?_
      try dsimp only
      try simp only [nI_inc, nI_1, nI_add, nI_mul2, tb_and, tb_or, tb_andn, nI_x5, nI_x2, nI_p0, nI_p2, nI_p3, nI_p4, nI_q45]
      refine ex_cs rfl rfl rfl (d' := 0) (by omega) (c_in) ?_
      rw [key]
      refine ex_go 80 rfl ?_
      refine ex_cvx rfl rfl rfl rfl hM1 rfl (d' := 0) (by omega) (c_needs hM1 (decide (lo ≤ tV tp tl p ∧ tV tp tl p ≤ hi))) ?_
      rintro v2 h2 ⟨rfl, hM2, hB2⟩
      refine ex_go 80 rfl ?_
      refine ex_getf rfl hM2 rfl rfl ?_
      by_cases cb : lo ≤ tV tp tl p ∧ tV tp tl p ≤ hi
      · rw [decide_eq_true cb] at hM2 ml ⊢
        have e9'' : ndq q true 3 = q := by
          unfold ndq
          rw [if_neg (fun z => absurd z.1 (by decide))]
        rw [e9''] at hM2 ⊢
        refine ex_zneF rfl (m1) ?_
        refine ex_go 80 rfl ?_
        refine ex_getf rfl hM2 rfl rfl ?_
        refine ex_go 80 rfl ?_
        refine ex_go 80 rfl ?_
        refine ex_iret rfl ⟨?_, hB1.tr hB2, q, hM2, ?_, fun _ _ => rfl⟩
        · rw [eS, if_pos cb, v8]
          rfl
        · rw [eS, if_pos cb]
          exact m
      · rw [decide_eq_false cb] at hM2 ml ⊢
        have e9'' : ndq q false 3 = ux (ux q 9 3) 10 (q 6) := by
          unfold ndq
          rw [if_pos ⟨rfl, m1⟩]
        rw [e9''] at hM2 ⊢
        refine ex_zneT rfl (by rw [ux_ne (by decide), ux_eq]; decide) ?_
        refine ex_go 80 rfl ?_
        refine ex_iret rfl ⟨?_, hB1.tr hB2, _, hM2, ?_, fun j hj => by rw [ux_ne (by omega), ux_ne (by omega)]⟩
        · rw [eS, if_neg cb]
          rfl
        · rw [eS, if_neg cb]
          exact MQS.l ⟨by rw [ux_ne (by decide), ux_eq]; rfl, by rw [ux_eq, m3], by decide, by decide⟩
    · rw [decide_eq_false c2] at hM1
      have e9 : ndq q false 2 = ux (ux q 9 2) 10 (q 6) := by
        unfold ndq
        rw [if_pos ⟨rfl, m1⟩]
      rw [e9] at hM1
      have z9 : ux (ux q 9 2) 10 (q 6) 9 = 2 := by rw [ux_ne (by decide), ux_eq]
      have eS : lkS tp tl (.inr p) lo hi = .inl (2, tS tp tl p) := by
        unfold lkS
        rw [ndS_f (decide_eq_false c2)]
        rfl
      refine ex_go 80 rfl ?_
      refine ex_getf rfl hM1 rfl rfl ?_
      rw [z9]
      refine ex_zneT rfl (by decide) ?_
      refine ex_go 80 rfl ?_
      refine ex_getf rfl hM1 rfl rfl ?_
      rw [z9]
      refine ex_zneT rfl (by decide) ?_
      refine ex_go 80 rfl ?_
      refine ex_iret rfl ⟨?_, hB1, _, hM1, ?_, fun j hj => by rw [ux_ne (by omega), ux_ne (by omega)]⟩
      · rw [eS]
        rfl
      · rw [eS]
        exact MQS.l ⟨z9, by rw [ux_eq, m3], by decide, by decide⟩
theorem c_readNumber {lo hi : Nat} (hM : MO h n q) (hTp : IA h 64 160 (fun i => i < tl) (fun i => nI (tp i))) (hq : q 4 = nI tl) (ht : tl ≤ 160) (hb : ∀ i, i < tl → tp i < 128) (m : MQS tp tl s q) (hlo : lo < 1000) (hhi : hi < 1000) (hd : 3 ≤ d) : ev_X scr d cd_X6_readNumber 0 [.ref 57, .int (nI lo), .int (nI hi), .float 0] [] h (fun v h' => v = some (.int (nI (vlS tp tl (lkS tp tl s lo hi)))) ∧ SB 57 h h' ∧ ∃ q', MO h' n q' ∧ MQS tp tl (nxS tp tl (lkS tp tl s lo hi)) q' ∧ ∀ j, j < 5 ∨ j = 11 → q' j = q j) := by
  refine ex_go 80 rfl ?_
  refine ex_cvx rfl rfl rfl rfl hM rfl (d' := 1) (by omega) (c_looked (s := s) (tp := tp) (tl := tl) hM m hlo hhi (Nat.le_refl _)) ?_
  rintro v1 h1 ⟨rfl, hB1, q1, hM1, m1, e1⟩
  refine ex_go 80 rfl ?_
  refine ex_cvx rfl rfl rfl rfl hM1 rfl (d' := 2) (by omega) (c_nextS (s := lkS tp tl s lo hi) hM1 (hTp.sb hB1 (by decide)) ((e1 4 (by omega)).trans hq) ht hb m1 (Nat.le_refl _)) ?_
  rintro v2 h2 ⟨rfl, hB2, q2, hM2, m2, e2⟩
  refine ex_go 80 rfl ?_
  exact ex_iret rfl (⟨rfl, hB1.tr hB2, q2, hM2, m2, fun j hj => (e2 j hj).trans (e1 j hj)⟩)
end MST
