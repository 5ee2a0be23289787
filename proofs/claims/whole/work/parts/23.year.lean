/-! A year's payments; copies. -/
theorem wg_bs (f g : Nat → Nat) (t n : Nat) : bs (fun m => decide (wg f g (5 * m + 3) = t)) n = bs (fun m => decide (f (5 * m + 3) = t)) n := bs_cong (fun i _ => by rw [wg_ne (by omega)])
section YEAR
variable {scr : List Int32} {d : Nat} {h : ev_H} {a n : Nat} {f g : Nat → Nat}
theorem c_payFines (hT : TA h a n (wg f g)) (gd : GD n f) (hg : ∀ j, j < n → g j < 2 ^ 31) {w : Nat} (hw : w < 256) (hd : 3 ≤ d) : ev_X scr d cd_X4_payFines 0 [.ref a, .int (nI w), .float 0, .float 0] [] h (fun v h' => v = some (.int (nI (fi n f w g n).2)) ∧ TA h' a n (wg f (fi n f w g n).1) ∧ FR a (a + 8) h h') := by
  have hn := gd.1
  refine ex_go 80 rfl ?_
  refine ev_loop n (fun i => ∀ h1, TA h1 a n (wg f (fi n f w g i).1) → FR a (a + 8) h h1 → ev_X scr d cd_X4_payFines 4 [.ref a, .int (nI w), .int (nI (fi n f w g i).2), .int (nI i)] [] h1 _) (fun i hi K h1 hT1 hF1 => ?_) (fun h1 hT1 hF1 => ?_) h hT FR.rf
  · skip
    have e3 : wg f (fi n f w g i).1 (5 * i + 3) = f (5 * i + 3) := wg_ne (by omega)
    refine ex_nop rfl ?_
    refine ex_go 80 rfl ?_
    refine ex_getf rfl hT1.1 rfl rfl ?_
    refine ex_igeF rfl (nI_ge hi (by first | omega | decide)) ?_
    refine ex_go 80 rfl ?_
    refine ex_cs rfl rfl rfl (d' := 0) (by omega) (c_bitOf (by omega) (by omega)) ?_
    refine ex_zeq rfl (fun hc => ?_) (fun hc => ?_)
    · rw [tb_b0] at hc
      rw [fi, if_neg (by rw [hc]; exact fun q => absurd q.1 (by decide))] at K
      refine ex_go 80 rfl ?_
      try dsimp only
      try simp only [nI_inc, nI_1, nI_add, nI_mul2, tb_and, tb_or, tb_andn]
      exact K h1 hT1 hF1
    · have hb : w.testBit i = true := by simpa [tb_b0] using hc
      refine ex_go 80 rfl ?_
      refine ex_getf rfl hT1.1 rfl rfl ?_
      refine ex_go 80 rfl ?_
      refine ex_ia _ rfl hT1.2.2.2.2.1 rfl (by first | exact trivial | assumption | (show _ < _; omega)) (by omega) (by omega) rfl ?_
      refine ex_zlt rfl (fun hc => ?_) (fun hc => ?_)
      · rw [e3, tv_neg] at hc
        rw [fi, if_neg (fun q => hc q.2)] at K
        refine ex_go 80 rfl ?_
        try dsimp only
        try simp only [nI_inc, nI_1, nI_add, nI_mul2, tb_and, tb_or, tb_andn]
        exact K h1 hT1 hF1
      · rw [e3, tv_neg] at hc
        have ht : f (5 * i + 3) < 4 := Classical.not_not.mp hc
        rw [fi, if_pos ⟨hb, ht⟩] at K
        refine ex_go 80 rfl ?_
        refine ex_cvx rfl rfl rfl rfl hT1.1 rfl (d' := 2) (by omega) (c_payFor hT1 hn hi ht (fun j hj => Nat.lt_of_le_of_lt (fi_le _ _ _ _ _ _) (hg j hj)) gd.2.2.2.1 rfl (Nat.le_refl _)) ?_
        rintro v2 h2 ⟨rfl, hT2, hF2⟩
        refine ex_go 80 rfl ?_
        try dsimp only
        try simp only [nI_inc, nI_1, nI_add, nI_mul2, tb_and, tb_or, tb_andn]
        exact K h2 hT2 (hF1.tr hF2)
  · skip
    refine ex_nop rfl ?_
    refine ex_go 80 rfl ?_
    refine ex_getf rfl hT1.1 rfl rfl ?_
    refine ex_igeT rfl (nI_le (Nat.le_refl _) (by first | omega | decide)) ?_
    refine ex_go 80 rfl ?_
    exact ex_iret rfl (⟨rfl, hT1, hF1⟩)
theorem c_payCosts (hT : TA h a n (wg f g)) (gd : GD n f) (hg : ∀ j, j < n → g j < 2 ^ 31) (hd : 2 ≤ d) : ev_X scr d cd_X4_payCosts 0 [.ref a, .float 0, .float 0, .float 0, .float 0, .float 0, .float 0] [] h (fun v h' => v = some (.int (nI (co n f g 4).2)) ∧ TA h' a n (wg f (co n f g 4).1) ∧ FR a (a + 8) h h') := by
  have hn := gd.1
  have hw := gd.w
  have h42 := gd.2.2.2.2.1
  refine ex_go 80 rfl ?_
  refine ev_loop 4 (fun t => ∀ h1, TA h1 a n (wg f (co n f g t).1) → FR a (a + 8) h h1 → ev_X scr d cd_X4_payCosts 4 [.ref a, .int (nI (co n f g t).2), .int (nI t), .float 0, .float 0, .float 0, .float 0] [] h1 _) (fun t ht K h1 hT1 hF1 => ?_) (fun h1 hT1 hF1 => ?_) h hT FR.rf
  · skip
    have e42 : wg f (co n f g t).1 42 = f 42 := wg_ne (by decide)
    have e40 : wg f (co n f g t).1 40 = f 40 := wg_ne (by decide)
    refine ex_nop rfl ?_
    refine ex_go 80 rfl ?_
    refine ex_igeF rfl (nI_ge ht (by first | omega | decide)) ?_
    refine ex_go 80 rfl ?_
    refine ex_cv rfl rfl rfl rfl hT1.1 rfl (d' := 0) (by omega) (c_menOfTen hT1 hn ht) ?_
    rw [wg_bs]
    refine ex_go 80 rfl ?_
    refine ex_getf rfl hT1.1 rfl rfl ?_
    refine ex_go 80 rfl ?_
    refine ex_getf rfl hT1.1 rfl rfl ?_
    refine ex_go 80 rfl ?_
    try dsimp only
    try simp only [nI_inc, nI_1, nI_add, nI_mul2, tb_and, tb_or, tb_andn]
    rw [e42, e40]
    refine ex_cs rfl rfl rfl (d' := 0) (by omega) (c_bitCount (and256 (bs_256 _ hn))) ?_
    rw [pc8_bsa _ _ hn]
    have hwc : wct n f t ≤ 8 := by
      have := sm_le (g := fun m => tb_b (decide (f (5 * m + 3) = t) && (f 40).testBit m)) (c := 1) (n := n) (fun i _ => tb_le _)
      unfold wct
      omega
    have hl0 : f 42 * wct n f t < 2 ^ 31 := Nat.lt_of_le_of_lt (Nat.mul_le_mul h42 hwc) (by decide)
    have K' : ∀ h2, TA h2 a n (wg f (cot n f (co n f g t).1 t).1) → FR a (a + 8) h h2 → ev_X scr d cd_X4_payCosts 4 [.ref a, .int (nI ((co n f g t).2 + (cot n f (co n f g t).1 t).2.2)), .int (nI (t + 1)), .float 0, .float 0, .float 0, .float 0] [] h2 _ := K
    clear K
    have hx : bs (fun m => decide (f (5 * m + 3) = t)) n < 256 := bs_256 _ hn
    unfold cot at K'
    refine ex_go 80 rfl ?_
    try dsimp only
    try simp only [nI_inc, nI_1, nI_add, nI_mul2, tb_and, tb_or, tb_andn]
    show ev_X scr d cd_X4_payCosts 23 [.ref a, .int (nI (co n f g t).2), .int (nI t), .int (nI (bs (fun m => decide (f (5 * m + 3) = t)) n)), .int (nI (f 42 * wct n f t)), .int 0, .float 0] [] h1 _
    generalize bs (fun m => decide (f (5 * m + 3) = t)) n = x at *
    generalize f 42 * wct n f t = l at *
    have hg1 : ∀ j, j < n → (co n f g t).1 j < 2 ^ 31 := fun j hj => Nat.lt_of_le_of_lt (co_le _ _ _ _ _) (hg j hj)
    generalize (co n f g t).1 = g1 at *
    generalize (co n f g t).2 = p1 at *
    refine ev_loop n (fun i => ∀ h2, TA h2 a n (wg f (cs x l g1 i).1) → FR a (a + 8) h h2 → ev_X scr d cd_X4_payCosts 23 [.ref a, .int (nI (p1 + (cs x l g1 i).2.2)), .int (nI t), .int (nI x), .int (nI (cs x l g1 i).2.1), .int (nI i), .float 0] [] h2 _) (fun i hi K h2 hT2 hF2 => ?_) (fun h2 hT2 hF2 => ?_) h1 hT1 hF1
    · skip
      have hli := cs_l x l g1 i
      have hgi : (cs x l g1 i).1 i < 2 ^ 31 := Nat.lt_of_le_of_lt (cs_le _ _ _ _ _) (hg1 i hi)
      refine ex_nop rfl ?_
      refine ex_go 80 rfl ?_
      refine ex_getf rfl hT2.1 rfl rfl ?_
      refine ex_igeF rfl (nI_ge hi (by first | omega | decide)) ?_
      refine ex_go 80 rfl ?_
      refine ex_zle rfl (fun hc => ?_) (fun hc => ?_)
      · have h0 : (cs x l g1 i).2.1 = 0 := by
          have := (nI_leI (b := 0) (by omega) (by decide)).mp hc
          omega
        have e := cs_0 x l g1 h0 (n - i)
        rw [Nat.add_sub_cancel' (Nat.le_of_lt hi)] at e
        rw [e] at K'
        refine ex_go 80 rfl ?_
        try dsimp only
        try simp only [nI_inc, nI_1, nI_add, nI_mul2, tb_and, tb_or, tb_andn]
        exact ex_weak (K' h2 hT2 hF2) (by repeat (first | exact W_n | refine W_e ?_ | refine W_i ?_ | refine W_r ?_))
      · refine ex_go 80 rfl ?_
        refine ex_cs rfl rfl rfl (d' := 0) (by omega) (c_bitOf (by omega) (by omega)) ?_
        refine ex_zeq rfl (fun hc => ?_) (fun hc => ?_)
        · rw [tb_b0] at hc
          rw [cs_f hc] at K
          refine ex_go 80 rfl ?_
          try dsimp only
          try simp only [nI_inc, nI_1, nI_add, nI_mul2, tb_and, tb_or, tb_andn]
          exact K h2 hT2 hF2
        · have hb : x.testBit i = true := by simpa [tb_b0] using hc
          rw [cs_t hb] at K
          refine ex_go 80 rfl ?_
          refine ex_cvx rfl rfl rfl rfl hT2.1 rfl (d' := 1) (by omega) (c_takeFrom hT2 hn hi (by omega) hgi (Nat.le_refl _)) ?_
          rintro v3 h3 ⟨rfl, hT3, hF3⟩
          refine ex_go 80 rfl ?_
          dsimp only
          rw [pk_sub (Nat.min_le_left _ _), nI_add, nI_inc, Nat.add_assoc]
          exact ex_weak (K h3 hT3 (hF2.tr hF3)) (by repeat (first | exact W_n | refine W_e ?_ | refine W_i ?_ | refine W_r ?_))
    · skip
      refine ex_nop rfl ?_
      refine ex_go 80 rfl ?_
      refine ex_getf rfl hT2.1 rfl rfl ?_
      refine ex_igeT rfl (nI_le (Nat.le_refl _) (by first | omega | decide)) ?_
      refine ex_go 80 rfl ?_
      try dsimp only
      try simp only [nI_inc, nI_1, nI_add, nI_mul2, tb_and, tb_or, tb_andn]
      exact ex_weak (K' h2 hT2 hF2) (by repeat (first | exact W_n | refine W_e ?_ | refine W_i ?_ | refine W_r ?_))
  · skip
    refine ex_nop rfl ?_
    refine ex_go 80 rfl ?_
    refine ex_igeT rfl (nI_le (Nat.le_refl _) (by first | omega | decide)) ?_
    refine ex_go 80 rfl ?_
    exact ex_iret rfl (⟨rfl, hT1, hF1⟩)
theorem c_payAll (hT : TA h a n (wg f g)) (gd : GD n f) (hg : ∀ j, j < n → g j < 2 ^ 31) {w : Nat} (hw : w < 256) (hd : 4 ≤ d) : ev_X scr d cd_X4_payAll 0 [.ref a, .int (nI w), .float 0] [] h (fun v h' => v = some (.int (nI (yr n f g w).2)) ∧ TA h' a n (wg f (yr n f g w).1) ∧ FR a (a + 8) h h') := by
  refine ex_go 80 rfl ?_
  refine ex_cvx rfl rfl rfl rfl hT.1 rfl (d' := 3) (by omega) (c_payFines hT gd hg hw (Nat.le_refl _)) ?_
  rintro v1 h1 ⟨rfl, hT1, hF1⟩
  refine ex_go 80 rfl ?_
  refine ex_cvx rfl rfl rfl rfl hT1.1 rfl (d' := 2) (by omega) (c_payCosts hT1 gd (fun j hj => Nat.lt_of_le_of_lt (fi_le _ _ _ _ _ _) (hg j hj)) (Nat.le_refl _)) ?_
  rintro v2 h2 ⟨rfl, hT2, hF2⟩
  refine ex_go 80 rfl ?_
  try dsimp only
  try simp only [nI_inc, nI_1, nI_add, nI_mul2, tb_and, tb_or, tb_andn]
  exact ex_iret rfl (⟨rfl, hT2, hF1.tr hF2⟩)
theorem c_copyStock0 {b : Nat} {f' : Nat → Nat} {x0 x1 x2 x3 x4 x5 : Int32} {P : Nat → Prop} {gg : Nat → Int32} (hO : h[a]? = some (.inr (4, [.int x0, .int x1, .int x2, .int x3, .int x4, .int x5, .ref (a + 1), .ref (a + 2), .ref (a + 3), .ref (a + 4), .ref (a + 5), .ref (a + 6), .ref (a + 7), .ref (a + 8)]))) (hI : IA h (a + 3) 8 P gg) (hS : TA h b n f') (hab : a + 8 < b ∨ b + 8 < a) : ev_X scr d cd_X4_copyStock 0 [.ref a, .ref b, .float 0] [] h (fun v h' => v = none ∧ IA h' (a + 3) 8 (fun m => m < n) (fun m => nI (f' (5 * m + 2))) ∧ SB (a + 3) h h') := by
  refine ex_go 80 rfl ?_
  refine ev_loop 8 (fun i => ∀ h1, IA h1 (a + 3) 8 (fun m => m < i ∧ m < n) (fun m => nI (f' (5 * m + 2))) → SB (a + 3) h h1 → ev_X scr d cd_X4_copyStock 2 [.ref a, .ref b, .int (nI i)] [] h1 _) (fun i hi K h1 hA1 hB1 => ?_) (fun h1 hA1 hB1 => ?_) h hI.none SB.rf
  · have hO1 := (hB1.2 a (by omega)).trans hO
    have hO2 := (hB1.2 b (by omega)).trans hS.1
    have hS1 := hS.2.2.2.1.sb hB1 (by omega)
    refine ex_nop rfl ?_
    refine ex_go 80 rfl ?_
    refine ex_igeF rfl (nI_ge hi (by first | omega | decide)) ?_
    refine ex_go 80 rfl ?_
    refine ex_getf rfl hO1 rfl rfl ?_
    refine ex_go 80 rfl ?_
    refine ex_getf rfl hO2 rfl rfl ?_
    refine ex_go 80 rfl ?_
    refine ex_iaw _ rfl hS1 rfl (by omega) (by omega) (fun x_stock hx_stock => ?_)
    refine ex_is _ rfl hA1 rfl (by omega) (by omega) (fun h2 hA2 hB2 => ?_)
    refine ex_go 80 rfl ?_
    try dsimp only
    try simp only [nI_inc, nI_1, nI_add, nI_mul2, tb_and, tb_or, tb_andn]
    exact K h2 (hA2.grow hx_stock) (hB1.tr hB2)
  · refine ex_nop rfl ?_
    refine ex_go 80 rfl ?_
    refine ex_igeT rfl (nI_le (Nat.le_refl _) (by first | omega | decide)) ?_
    exact ex_vret rfl (⟨rfl, hA1.congr (fun m hm hp => ⟨⟨hm, hp⟩, rfl⟩), hB1⟩)
theorem c_copyStock {b : Nat} {f' : Nat → Nat} (hT : TA h a n f) (hS : TA h b n f') (hab : a + 8 < b ∨ b + 8 < a) : ev_X scr d cd_X4_copyStock 0 [.ref a, .ref b, .float 0] [] h (fun v h' => v = none ∧ TA h' a n (wg f (fun m => f' (5 * m + 2))) ∧ FR a (a + 8) h h') := by
  refine ex_mono (c_copyStock0 hT.1 hT.2.2.2.1 hS hab) ?_
  rintro v h' ⟨q, hA, hB⟩
  exact ⟨q, hT.g_stock hA hB, hB.fr (by omega) (by omega)⟩
end YEAR
