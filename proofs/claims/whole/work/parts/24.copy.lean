/-! One town as another; a town made empty. -/
section COPY
variable {scr : List Int32} {d : Nat} {h : ev_H} {a b n n' : Nat} {f f' : Nat → Nat}
theorem c_copyFrom {Q : Option Value → ev_H → Prop} (hT : TA h a n f) (hS : TA h b n' f') (hab : a + 8 < b ∨ b + 8 < a) (hQ : Q = fun v h' => v = none ∧ TA h' a n' f' ∧ FR a (a + 8) h h') (hd : 1 ≤ d) : ev_X scr d cd_X4_copyFrom 0 [.ref a, .ref b, .float 0] [] h Q := by
  refine ex_go 80 rfl ?_
  refine ex_getf rfl hS.1 rfl rfl ?_
  refine ex_pf rfl hT.1 rfl rfl (fun h1 hO1 hB1 => ?_)
  have hF1 := hB1.fr (a := a) (b := a + 8) (by omega) (by omega)
  have hS1 := hS.kept hF1 (by omega)
  refine ex_go 80 rfl ?_
  refine ex_getf rfl hS1.1 rfl rfl ?_
  refine ex_pf rfl hO1 rfl rfl (fun h2 hO2 hB2 => ?_)
  have hF2 := hB2.fr (a := a) (b := a + 8) (by omega) (by omega)
  have hS2 := hS1.kept hF2 (by omega)
  refine ex_go 80 rfl ?_
  refine ex_getf rfl hS2.1 rfl rfl ?_
  refine ex_pf rfl hO2 rfl rfl (fun h3 hO3 hB3 => ?_)
  have hF3 := hB3.fr (a := a) (b := a + 8) (by omega) (by omega)
  have hS3 := hS2.kept hF3 (by omega)
  refine ex_go 80 rfl ?_
  refine ex_getf rfl hS3.1 rfl rfl ?_
  refine ex_pf rfl hO3 rfl rfl (fun h4 hO4 hB4 => ?_)
  have hF4 := hB4.fr (a := a) (b := a + 8) (by omega) (by omega)
  have hS4 := hS3.kept hF4 (by omega)
  refine ex_go 80 rfl ?_
  refine ex_getf rfl hS4.1 rfl rfl ?_
  refine ex_pf rfl hO4 rfl rfl (fun h5 hO5 hB5 => ?_)
  have hF5 := hB5.fr (a := a) (b := a + 8) (by omega) (by omega)
  have hS5 := hS4.kept hF5 (by omega)
  refine ex_go 80 rfl ?_
  refine ex_getf rfl hS5.1 rfl rfl ?_
  refine ex_pf rfl hO5 rfl rfl (fun h6 hO6 hB6 => ?_)
  have hF6 := hB6.fr (a := a) (b := a + 8) (by omega) (by omega)
  have hS6 := hS5.kept hF6 (by omega)
  have hF := ((((hF1.tr hF2).tr hF3).tr hF4).tr hF5).tr hF6
  have hB := ((((hB1.tr hB2).tr hB3).tr hB4).tr hB5).tr hB6
  have hO : h6[a]? = some (.inr (4, [.int (nI n'), .int (nI (f' 41)), .int (nI (f' 42)), .int (nI (f' 43)), .int (nI (f' 40)), .int (nI (f' 44)), .ref (a + 1), .ref (a + 2), .ref (a + 3), .ref (a + 4), .ref (a + 5), .ref (a + 6), .ref (a + 7), .ref (a + 8)])) := hO6
  obtain ⟨-, t1, t2, t3, t4, t5, t6, t7, t8⟩ := hT
  have t1 := t1.sb hB (by omega)
  have t2 := t2.sb hB (by omega)
  have t3 := t3.sb hB (by omega)
  have t4 := t4.sb hB (by omega)
  have t5 := t5.sb hB (by omega)
  have t6 := t6.sb hB (by omega)
  have t7 := t7.sb hB (by omega)
  have t8 := t8.sb hB (by omega)
  clear hO1 hO2 hO3 hO4 hO5 hO6 hB1 hB2 hB3 hB4 hB5 hB6 hF1 hF2 hF3 hF4 hF5 hF6 hS1 hS2 hS3 hS4 hS5 hB
  refine ex_go 80 rfl ?_
  refine ev_loop 8 (fun i => ∀ k, k[a]? = h6[a]? → IA k (a + 1) 8 (fun m => m < i ∧ m < n') (fun m => nI (f' (5 * m))) → IA k (a + 2) 8 (fun m => m < i ∧ m < n') (fun m => nI (f' (5 * m + 1))) → IA k (a + 4) 8 (fun m => m < i ∧ m < n') (fun m => tv (f' (5 * m + 3))) → IA k (a + 5) 8 (fun m => m < i ∧ True) (fun m => nI (f' (5 * m + 4))) → k[a + 3]? = h6[a + 3]? → k[a + 6]? = h6[a + 6]? → k[a + 7]? = h6[a + 7]? → k[a + 8]? = h6[a + 8]? → FR a (a + 8) h k → ev_X scr d cd_X4_copyFrom 26 [.ref a, .ref b, .int (nI i)] [] k Q) (fun i hi K k ko k1 k2 k4 k5 q3 q6 q7 q8 kF => ?_) (fun k ko k1 k2 k4 k5 q3 q6 q7 q8 kF => ?_) h6 rfl t1.none t2.none t4.none t5.none rfl rfl rfl rfl hF
  · have kO := ko.trans hO
    have kS := hS.kept kF (by omega)
    refine ex_nop rfl ?_
    refine ex_go 80 rfl ?_
    refine ex_igeF rfl (nI_ge hi (by first | omega | decide)) ?_
    refine ex_go 80 rfl ?_
    refine ex_getf rfl kO rfl rfl ?_
    refine ex_go 80 rfl ?_
    refine ex_getf rfl kS.1 rfl rfl ?_
    refine ex_go 80 rfl ?_
    refine ex_iaw _ rfl kS.2.1 rfl (by omega) (by omega) (fun x_kinds hx_kinds => ?_)
    refine ex_is _ rfl k1 rfl (by omega) (by omega) (fun j1 A1 B1 => ?_)
    have G1 := B1.fr (a := a) (b := a + 8) (by omega) (by omega)
    have jO := (B1.2 a (by omega)).trans kO
    have jS := kS.kept G1 (by omega)
    have j2 := k2.sb B1 (by omega)
    refine ex_go 80 rfl ?_
    refine ex_getf rfl jO rfl rfl ?_
    refine ex_go 80 rfl ?_
    refine ex_getf rfl jS.1 rfl rfl ?_
    refine ex_go 80 rfl ?_
    refine ex_iaw _ rfl jS.2.2.1 rfl (by omega) (by omega) (fun x_odds hx_odds => ?_)
    refine ex_is _ rfl j2 rfl (by omega) (by omega) (fun l1 A2 B2 => ?_)
    have G2 := B2.fr (a := a) (b := a + 8) (by omega) (by omega)
    have lO := (B2.2 a (by omega)).trans jO
    have lS := jS.kept G2 (by omega)
    have l4 := (k4.sb B1 (by omega)).sb B2 (by omega)
    refine ex_go 80 rfl ?_
    refine ex_getf rfl lO rfl rfl ?_
    refine ex_go 80 rfl ?_
    refine ex_getf rfl lS.1 rfl rfl ?_
    refine ex_go 80 rfl ?_
    refine ex_iaw _ rfl lS.2.2.2.2.1 rfl (by omega) (by omega) (fun x_tens hx_tens => ?_)
    refine ex_is _ rfl l4 rfl (by omega) (by omega) (fun m1 A4 B4 => ?_)
    have G4 := B4.fr (a := a) (b := a + 8) (by omega) (by omega)
    have mO := (B4.2 a (by omega)).trans lO
    have mS := lS.kept G4 (by omega)
    have m5 := ((k5.sb B1 (by omega)).sb B2 (by omega)).sb B4 (by omega)
    refine ex_go 80 rfl ?_
    refine ex_getf rfl mO rfl rfl ?_
    refine ex_go 80 rfl ?_
    refine ex_getf rfl mS.1 rfl rfl ?_
    refine ex_go 80 rfl ?_
    refine ex_iaw _ rfl mS.2.2.2.2.2.1 rfl (by omega) (by omega) (fun x_kins hx_kins => ?_)
    refine ex_is _ rfl m5 rfl (by omega) (by omega) (fun p1 A5 B5 => ?_)
    have G5 := B5.fr (a := a) (b := a + 8) (by omega) (by omega)
    have eq : ∀ c, c ≠ a + 1 → c ≠ a + 2 → c ≠ a + 4 → c ≠ a + 5 → p1[c]? = k[c]? := fun c u1 u2 u3 u4 => (((B5.2 c u4).trans (B4.2 c u3)).trans (B2.2 c u2)).trans (B1.2 c u1)
    refine ex_go 80 rfl ?_
    try dsimp only
    try simp only [nI_inc, nI_1, nI_add, nI_mul2, tb_and, tb_or, tb_andn]
    exact K p1 ((eq a (by omega) (by omega) (by omega) (by omega)).trans ko) ((((A1.grow hx_kinds).sb B2 (by omega)).sb B4 (by omega)).sb B5 (by omega)) (((A2.grow hx_odds).sb B4 (by omega)).sb B5 (by omega)) ((A4.grow hx_tens).sb B5 (by omega)) (A5.grow hx_kins) ((eq _ (by omega) (by omega) (by omega) (by omega)).trans q3) ((eq _ (by omega) (by omega) (by omega) (by omega)).trans q6) ((eq _ (by omega) (by omega) (by omega) (by omega)).trans q7) ((eq _ (by omega) (by omega) (by omega) (by omega)).trans q8) ((((kF.tr G1).tr G2).tr G4).tr G5)
  · have kO := ko.trans hO
    have kS := hS.kept kF (by omega)
    refine ex_nop rfl ?_
    refine ex_go 80 rfl ?_
    refine ex_igeT rfl (nI_le (Nat.le_refl _) (by first | omega | decide)) ?_
    refine ex_go 80 rfl ?_
    refine ex_cvx rfl rfl rfl rfl kO rfl (d' := 0) (by omega) (c_copyStock0 kO (t3.kept q3) kS hab) ?_
    rintro v1 j ⟨rfl, j3, B3⟩
    have G3 := B3.fr (a := a) (b := a + 8) (by omega) (by omega)
    have jO := (B3.2 a (by omega)).trans kO
    have j1 := k1.sb B3 (by omega)
    have j2 := k2.sb B3 (by omega)
    have j4 := k4.sb B3 (by omega)
    have j5 := k5.sb B3 (by omega)
    have q6 := (B3.2 _ (by omega)).trans q6
    have q7 := (B3.2 _ (by omega)).trans q7
    have q8 := (B3.2 _ (by omega)).trans q8
    have jF := kF.tr G3
    clear k1 k2 k4 k5 q3 kF kO ko kS G3 B3
    refine ex_go 80 rfl ?_
    refine ev_loop 4 (fun i => ∀ k, SB (a + 6) j k → IA k (a + 6) 4 (fun m => m < i ∧ True) (fun t => nI (f' (60 + t))) → ev_X scr d cd_X4_copyFrom 69 [.ref a, .ref b, .int (nI i)] [] k Q) (fun i hi K k kB k6 => ?_) (fun k kB k6 => ?_) j SB.rf (t6.kept q6).none
    · have kO := (kB.2 a (by omega)).trans jO
      have kS := hS.kept (jF.tr (kB.fr (by omega) (by omega))) (by omega)
      refine ex_nop rfl ?_
      refine ex_go 80 rfl ?_
      refine ex_igeF rfl (nI_ge hi (by first | omega | decide)) ?_
      refine ex_go 80 rfl ?_
      refine ex_getf rfl kO rfl rfl ?_
      refine ex_go 80 rfl ?_
      refine ex_getf rfl kS.1 rfl rfl ?_
      refine ex_go 80 rfl ?_
      refine ex_iaw _ rfl kS.2.2.2.2.2.2.1 rfl (by omega) (by omega) (fun x_mosts hx_mosts => ?_)
      refine ex_is _ rfl k6 rfl (by omega) (by omega) (fun p A B => ?_)
      refine ex_go 80 rfl ?_
      try dsimp only
      try simp only [nI_inc, nI_1, nI_add, nI_mul2, tb_and, tb_or, tb_andn]
      exact K p (kB.tr B) (A.grow hx_mosts)
    · have kO := (kB.2 a (by omega)).trans jO
      have q7 := (kB.2 _ (by omega)).trans q7
      have q8 := (kB.2 _ (by omega)).trans q8
      have kF := jF.tr (kB.fr (by omega) (by omega))
      refine ex_nop rfl ?_
      refine ex_go 80 rfl ?_
      refine ex_igeT rfl (nI_le (Nat.le_refl _) (by first | omega | decide)) ?_
      refine ex_go 80 rfl ?_
      refine ev_loop 6 (fun i => ∀ l, FR (a + 7) (a + 8) k l → IA l (a + 7) 6 (fun m => m < i ∧ m < f' 44) (fun m => nI (f' (45 + 2 * m))) → IA l (a + 8) 6 (fun m => m < i ∧ m < f' 44) (fun m => nI (f' (46 + 2 * m))) → ev_X scr d cd_X4_copyFrom 85 [.ref a, .ref b, .int (nI i)] [] l Q) (fun i hi K l lF l7 l8 => ?_) (fun l lF l7 l8 => ?_) k FR.rf (t7.kept q7).none (t8.kept q8).none
      · have lO := (lF.2 a (by omega)).trans kO
        have lS := hS.kept (kF.tr (lF.wide (by omega) (by omega))) (by omega)
        refine ex_nop rfl ?_
        refine ex_go 80 rfl ?_
        refine ex_igeF rfl (nI_ge hi (by first | omega | decide)) ?_
        refine ex_go 80 rfl ?_
        refine ex_getf rfl lO rfl rfl ?_
        refine ex_go 80 rfl ?_
        refine ex_getf rfl lS.1 rfl rfl ?_
        refine ex_go 80 rfl ?_
        refine ex_iaw _ rfl lS.2.2.2.2.2.2.2.1 rfl (by omega) (by omega) (fun x_seenMen hx_seenMen => ?_)
        refine ex_is _ rfl l7 rfl (by omega) (by omega) (fun p A B => ?_)
        have pO := (B.2 a (by omega)).trans lO
        have pS := lS.kept (B.fr (a := a) (b := a + 8) (by omega) (by omega)) (by omega)
        have p8 := l8.sb B (by omega)
        refine ex_go 80 rfl ?_
        refine ex_getf rfl pO rfl rfl ?_
        refine ex_go 80 rfl ?_
        refine ex_getf rfl pS.1 rfl rfl ?_
        refine ex_go 80 rfl ?_
        refine ex_iaw _ rfl pS.2.2.2.2.2.2.2.2 rfl (by omega) (by omega) (fun x_seenLess hx_seenLess => ?_)
        refine ex_is _ rfl p8 rfl (by omega) (by omega) (fun r A2 B2 => ?_)
        refine ex_go 80 rfl ?_
        try dsimp only
        try simp only [nI_inc, nI_1, nI_add, nI_mul2, tb_and, tb_or, tb_andn]
        exact K r ((lF.tr (B.fr (by omega) (by omega))).tr (B2.fr (by omega) (by omega))) ((A.grow hx_seenMen).sb B2 (by omega)) (A2.grow hx_seenLess)
      · have lO := (lF.2 a (by omega)).trans kO
        have hfin : FR (a + 6) (a + 8) j l := (kB.fr (by omega) (by omega)).tr (lF.wide (by omega) (by omega))
        refine ex_nop rfl ?_
        refine ex_go 80 rfl ?_
        refine ex_igeT rfl (nI_le (Nat.le_refl _) (by first | omega | decide)) ?_
        refine ex_vret rfl ?_
        rw [hQ]
        refine ⟨rfl, ⟨lO, ?_, ?_, ?_, ?_, ?_, ?_, l7.full, l8.full⟩, kF.tr (lF.wide (by omega) (by omega))⟩
        · exact (j1.fr hfin (by omega)).full
        · exact (j2.fr hfin (by omega)).full
        · exact j3.fr hfin (by omega)
        · exact (j4.fr hfin (by omega)).full
        · exact (j5.fr hfin (by omega)).full
        · exact (k6.fr lF (by omega)).full
/-- as clear() leaves it -/
def clF : Nat → Nat := fun j => if j = 41 then 12 else if j = 42 then 2 else if 60 ≤ j then 3 else 0
theorem c_clear (hT : TA h a n f) : ev_X scr d cd_X4_clear 0 [.ref a, .float 0] [] h (fun v h' => v = none ∧ TA h' a 0 clF ∧ FR a (a + 8) h h') := by
  refine ex_go 80 rfl ?_
  refine ex_pf rfl hT.1 rfl rfl (fun h1 hO1 hB1 => ?_)
  refine ex_go 80 rfl ?_
  refine ex_pf rfl hO1 rfl rfl (fun h2 hO2 hB2 => ?_)
  refine ex_go 80 rfl ?_
  refine ex_pf rfl hO2 rfl rfl (fun h3 hO3 hB3 => ?_)
  refine ex_go 80 rfl ?_
  refine ex_pf rfl hO3 rfl rfl (fun h4 hO4 hB4 => ?_)
  refine ex_go 80 rfl ?_
  refine ex_pf rfl hO4 rfl rfl (fun h5 hO5 hB5 => ?_)
  refine ex_go 80 rfl ?_
  refine ex_pf rfl hO5 rfl rfl (fun h6 hO6 hB6 => ?_)
  have hB := ((((hB1.tr hB2).tr hB3).tr hB4).tr hB5).tr hB6
  have hO : h6[a]? = some (.inr (4, [.int (nI 0), .int (nI (clF 41)), .int (nI (clF 42)), .int (nI (clF 43)), .int (nI (clF 40)), .int (nI (clF 44)), .ref (a + 1), .ref (a + 2), .ref (a + 3), .ref (a + 4), .ref (a + 5), .ref (a + 6), .ref (a + 7), .ref (a + 8)])) := hO6
  have hF := hB.fr (a := a) (b := a + 8) (by omega) (by omega)
  obtain ⟨-, t1, t2, t3, t4, t5, t6, t7, t8⟩ := hT
  have t1 := t1.sb hB (by omega)
  have t2 := t2.sb hB (by omega)
  have t3 := t3.sb hB (by omega)
  have t4 := t4.sb hB (by omega)
  have t5 := t5.sb hB (by omega)
  have t6 := t6.sb hB (by omega)
  have t7 := t7.sb hB (by omega)
  have t8 := t8.sb hB (by omega)
  clear hO1 hO2 hO3 hO4 hO5 hO6 hB1 hB2 hB3 hB4 hB5 hB6 hB
  refine ex_go 80 rfl ?_
  refine ev_loop 8 (fun i => ∀ k, SB (a + 5) h6 k → IA k (a + 5) 8 (fun m => m < i ∧ True) (fun m => nI (clF (5 * m + 4))) → ev_X scr d cd_X4_clear 20 [.ref a, .int (nI i)] [] k _) (fun i hi K k kB k5 => ?_) (fun k kB k5 => ?_) h6 SB.rf t5.none
  · have kO := (kB.2 a (by omega)).trans hO
    refine ex_nop rfl ?_
    refine ex_go 80 rfl ?_
    refine ex_igeF rfl (nI_ge hi (by first | omega | decide)) ?_
    refine ex_go 80 rfl ?_
    refine ex_getf rfl kO rfl rfl ?_
    refine ex_go 80 rfl ?_
    refine ex_is _ rfl k5 rfl (by omega) (by omega) (fun p A B => ?_)
    refine ex_go 80 rfl ?_
    try dsimp only
    try simp only [nI_inc, nI_1, nI_add, nI_mul2, tb_and, tb_or, tb_andn]
    exact K p (kB.tr B) (A.grow (fun _ => by
      rw [clF, if_neg (by omega), if_neg (by omega), if_neg (by omega)]
      rfl))
  · have kO := (kB.2 a (by omega)).trans hO
    have kF := hF.tr (kB.fr (by omega) (by omega))
    refine ex_nop rfl ?_
    refine ex_go 80 rfl ?_
    refine ex_igeT rfl (nI_le (Nat.le_refl _) (by first | omega | decide)) ?_
    refine ex_go 80 rfl ?_
    refine ev_loop 4 (fun i => ∀ l, SB (a + 6) k l → IA l (a + 6) 4 (fun m => m < i ∧ True) (fun t => nI (clF (60 + t))) → ev_X scr d cd_X4_clear 33 [.ref a, .int (nI i)] [] l _) (fun i hi K l lB l6 => ?_) (fun l lB l6 => ?_) k SB.rf (t6.sb kB (by omega)).none
    · have lO := (lB.2 a (by omega)).trans kO
      refine ex_nop rfl ?_
      refine ex_go 80 rfl ?_
      refine ex_igeF rfl (nI_ge hi (by first | omega | decide)) ?_
      refine ex_go 80 rfl ?_
      refine ex_getf rfl lO rfl rfl ?_
      refine ex_go 80 rfl ?_
      refine ex_is _ rfl l6 rfl (by omega) (by omega) (fun p A B => ?_)
      refine ex_go 80 rfl ?_
      try dsimp only
      try simp only [nI_inc, nI_1, nI_add, nI_mul2, tb_and, tb_or, tb_andn]
      exact K p (lB.tr B) (A.grow (fun _ => by
        rw [clF, if_neg (by omega), if_neg (by omega), if_pos (by omega)]
        rfl))
    · have lO := (lB.2 a (by omega)).trans kO
      refine ex_nop rfl ?_
      refine ex_go 80 rfl ?_
      refine ex_igeT rfl (nI_le (Nat.le_refl _) (by first | omega | decide)) ?_
      exact ex_vret rfl (⟨rfl, ⟨lO, ((t1.sb kB (by omega)).sb lB (by omega)).congr (fun m _ hp => absurd hp (Nat.not_lt_zero m)), ((t2.sb kB (by omega)).sb lB (by omega)).congr (fun m _ hp => absurd hp (Nat.not_lt_zero m)), ((t3.sb kB (by omega)).sb lB (by omega)).congr (fun m _ hp => absurd hp (Nat.not_lt_zero m)), ((t4.sb kB (by omega)).sb lB (by omega)).congr (fun m _ hp => absurd hp (Nat.not_lt_zero m)), (k5.sb lB (by omega)).full, l6.full, ((t7.sb kB (by omega)).sb lB (by omega)).congr (fun m _ hp => absurd hp (Nat.not_lt_zero m)), ((t8.sb kB (by omega)).sb lB (by omega)).congr (fun m _ hp => absurd hp (Nat.not_lt_zero m))⟩, kF.tr (lB.fr (by omega) (by omega))⟩)
end COPY
