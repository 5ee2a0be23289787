/-! Who is put where, as asked: weight, should, takes, change. -/
theorem if_iff {α : Type} {P Q : Prop} [Decidable P] [Decidable Q] (e : P ↔ Q) (a b : α) : (if P then a else b) = if Q then a else b := by
  by_cases c : P
  · rw [if_pos c, if_pos (e.mp c)]
  · rw [if_neg c, if_neg (fun q => c (e.mpr q))]
def a_weight (n : Nat) (f : Nat → Nat) (m : Int32) : Int32 := if rit n f m = 0 then nI (1000 + hm n f (f (5 * ix m + 3))) - nI (hm n (gvF f (ix m)) (f (5 * ix m + 3))) else rit n f m
def xw (f : Nat → Nat) (i : Nat) : Nat → Nat := up f 40 (f 40 ^^^ 2 ^ i)
def a_should (n : Nat) (f : Nat → Nat) (m : Int32) : Int32 := if rit n f m = 0 then (if ha n f ≤ ha n (xw f (ix m)) ∧ ha n f ≤ ha n (gvF f (ix m)) then 0 else if ha n (xw f (ix m)) ≤ ha n (gvF f (ix m)) then 1 else 2) else rit n f m
theorem xw_bit (x i j : Nat) : (x ^^^ 2 ^ i).testBit j = if i = j then !x.testBit j else x.testBit j := by
  rw [Nat.testBit_xor, Nat.testBit_two_pow]
  by_cases c : i = j <;> simp [c]
theorem GD.xw {n i : Nat} {f : Nat → Nat} (g : GD n f) (hi : i < n) (ht : f (5 * i + 3) < 4) : GD n (xw f i) := by
  refine g.w40 (Nat.xor_lt_two_pow g.2.2.1 (Nat.pow_lt_pow_right (by decide) hi)) (fun k hk hb => ?_)
  rw [xw_bit] at hb
  by_cases c : i = k
  · rw [← c]; exact ht
  · rw [if_neg c] at hb
    exact (g.2.1 k hk).2.2.2.2.2 hb
theorem gv_xw (f : Nat → Nat) {i : Nat} (hi : i < 8) : gvF (xw f i) i = gvF f i := by
  have e : tb_wo (f 40 ^^^ 2 ^ i) (2 ^ i) = tb_wo (f 40) (2 ^ i) := by
    apply Nat.eq_of_testBit_eq
    intro j
    rw [wo_bit2, wo_bit2, xw_bit]
    by_cases c : i = j <;> simp [c]
  have e2 : xw f i 40 = f 40 ^^^ 2 ^ i := up_eq
  unfold gvF
  rw [e2, e]
  unfold xw
  rw [up_comm (k := 40) (by omega), up_comm (k := 40) (by omega)]
  funext j
  unfold up
  by_cases c : j = 40
  · rw [if_pos c, if_pos c]
  · rw [if_neg c, if_neg c, if_neg c]
def tkf (n : Nat) (f : Nat → Nat) (i : Nat) : Nat → Nat × Int32
  | 0 => (10 * f 41, -4)
  | t + 1 => if f (5 * i + 3) ≠ t ∧ ¬ f (60 + t) ≤ sz n f t ∧ hm n (seF f i t) t < (tkf n f i t).1 then (hm n (seF f i t) t, nI t) else tkf n f i t
def a_takes (n : Nat) (f : Nat → Nat) (m : Int32) : Int32 := if isM n m = true then (tkf n f (ix m) 4).2 else -1
theorem tkf_lt {n : Nat} {f : Nat → Nat} (g : GD n f) (i : Nat) : ∀ t, (tkf n f i t).1 < 2 ^ 30
  | 0 => by
    have := g.2.2.2.1
    show 10 * f 41 < _
    omega
  | t + 1 => by
    have := tkf_lt g i t
    rw [tkf]
    split
    · rename_i c
      exact Nat.lt_trans c.2.2 this
    · exact this
def chi (n : Nat) (f : Nat → Nat) (i : Nat) (s : Nat × Int32) : Nat → Nat × Int32
  | 0 => s
  | j + 1 => if i < j ∧ msw f i j = true ∧ ha n (exF f i j) < (chi n f i s j).1 then (ha n (exF f i j), nI (10 * i + j)) else chi n f i s j
def cho (n : Nat) (f : Nat → Nat) : Nat → Nat × Int32
  | 0 => (ha n f, -4)
  | i + 1 => chi n f i (cho n f i) n
theorem chi_0 (n : Nat) (f : Nat → Nat) (i : Nat) (s : Nat × Int32) : ∀ j, j ≤ i + 1 → chi n f i s j = s
  | 0, _ => rfl
  | j + 1, h => by rw [chi, if_neg (by omega), chi_0 n f i s j (by omega)]
theorem chi_lt (n : Nat) (f : Nat → Nat) (i : Nat) (s : Nat × Int32) : ∀ j, (chi n f i s j).1 ≤ s.1
  | 0 => Nat.le_refl _
  | j + 1 => by
    have := chi_lt n f i s j
    rw [chi]
    split
    · rename_i c
      exact Nat.le_trans (Nat.le_of_lt c.2.2) this
    · exact this
theorem cho_lt (n : Nat) (f : Nat → Nat) : ∀ i, (cho n f i).1 ≤ ha n f
  | 0 => Nat.le_refl _
  | i + 1 => Nat.le_trans (chi_lt _ _ _ _ _) (cho_lt n f i)
def a_change (n : Nat) (f : Nat → Nat) (w : Int32) : Int32 := if isM 2 w = true then (if (cho n f n).2 = -4 ∨ w = 0 then (cho n f n).2 else nI (cho n f n).1) else -1
theorem ex_ex (f : Nat → Nat) (i j : Nat) (hij : i ≠ j) : exF (exF f i j) i j = f := by
  have e1 : exF f i j (5 * i + 3) = f (5 * j + 3) := by unfold exF; rw [up_ne (by omega), up_eq]
  have e2 : exF f i j (5 * j + 3) = f (5 * i + 3) := by unfold exF; rw [up_eq]
  show up (up (exF f i j) (5 * i + 3) (exF f i j (5 * j + 3))) (5 * j + 3) (exF f i j (5 * i + 3)) = f
  rw [e1, e2]
  funext k
  unfold exF up
  by_cases c : k = 5 * j + 3
  · rw [if_pos c, c]
  · rw [if_neg c, if_neg c]
    by_cases c2 : k = 5 * i + 3
    · rw [if_pos c2, c2]
    · rw [if_neg c2, if_neg c2]
section MOVES
variable {scr : List Int32} {d : Nat} {h : ev_H} {n : Nat} {f : Nat → Nat} {x : Nat → Int32} {q : Nat → Int32} {im : Nat → Int32}
theorem k_weight (hC : CO h x) (hT : TA h 1 n f) (hL : TL h) (g : GD n f) {m : Int32} (hd : 5 ≤ d) : ev_X scr d cd_X5_weight 0 [.ref 0, .int m, .float 0, .float 0] [] h (CQ h n f (.int (a_weight n f m))) := by
  have hn := g.1
  unfold a_weight
  refine ex_go 80 rfl ?_
  refine ex_cv rfl rfl rfl rfl hC rfl (d' := 1) (by omega) (c_refusalInTen hC hT hn (Nat.le_refl _)) ?_
  by_cases c : rit n f m = 0
  · obtain ⟨i, hi, rfl, ht, e⟩ := rit_0 hn c
    rw [if_pos c, e, c]
    obtain ⟨n2, f2, hR⟩ := hL
    refine ex_go 80 rfl ?_
    refine ex_zeqT rfl (rfl) ?_
    refine ex_go 80 rfl ?_
    refine ex_getf rfl hC rfl rfl ?_
    refine ex_getf rfl hT.1 rfl rfl ?_
    refine ex_go 80 rfl ?_
    refine ex_ia _ rfl hT.2.2.2.2.1 rfl (by first | exact trivial | assumption | (show _ < _; omega)) (by omega) (by omega) rfl ?_
    refine ex_go 80 rfl ?_
    refine ex_getf rfl hC rfl rfl ?_
    refine ex_go 80 rfl ?_
    refine ex_getf rfl hC rfl rfl ?_
    rw [tv_lt ht]
    refine ex_cvx rfl rfl rfl rfl hR.1 rfl (d' := 1) (by omega) (c_copyFrom hR hT (by decide) rfl (Nat.le_refl _)) ?_
    rintro v1 h1 ⟨rfl, hR1, hF1⟩
    have hC1 := (hF1.2 0 (by decide)).trans hC
    have hT1 := hT.kept hF1 (by decide)
    refine ex_go 80 rfl ?_
    refine ex_getf rfl hC1 rfl rfl ?_
    refine ex_go 80 rfl ?_
    refine ex_cvx rfl rfl rfl rfl hR1.1 rfl (d' := 1) (by omega) (c_giveUp hR1 hn hi (Nat.le_refl _)) ?_
    rintro v2 h2 ⟨rfl, hR2, hF2⟩
    have hC2 := (hF2.2 0 (by decide)).trans hC1
    have hT2 := hT1.kept hF2 (by decide)
    refine ex_go 80 rfl ?_
    refine ex_getf rfl hC2 rfl rfl ?_
    refine ex_go 80 rfl ?_
    refine ex_cv rfl rfl rfl rfl hT2.1 rfl (d' := 4) (by omega) (c_harmOfTen hT2 g ht (Nat.le_refl _)) ?_
    refine ex_go 80 rfl ?_
    try dsimp only
    try simp only [nI_inc, nI_1, nI_add, nI_mul2, tb_and, tb_or, tb_andn]
    refine ex_getf rfl hC2 rfl rfl ?_
    refine ex_go 80 rfl ?_
    refine ex_cv rfl rfl rfl rfl hR2.1 rfl (d' := 4) (by omega) (c_harmOfTen hR2 (g.gv hi) ht (Nat.le_refl _)) ?_
    rw [show (1000 : Int32) = nI 1000 from rfl, nI_add]
    refine ex_go 80 rfl ?_
    try dsimp only
    try simp only [nI_inc, nI_1, nI_add, nI_mul2, tb_and, tb_or, tb_andn]
    exact ex_iret rfl (cq_r hT hR2 (hF1.tr hF2))
  · rw [if_neg c]
    refine ex_go 80 rfl ?_
    refine ex_zeqF rfl (c) ?_
    refine ex_go 80 rfl ?_
    exact ex_iret rfl (cq_s hT hL)
theorem r_weight (hM : MO h n q) (hS : ST h f im) (hR : RS h) (g : GD n f) {m : Int32} (hd : 3 ≤ d) : ev_X scr d cd_X6_weight 0 [.ref 57, .int m, .float 0, .float 0] [] h (RQ h f im (.int (a_weight n f m))) := by
  have hn := g.1
  unfold a_weight
  refine ex_go 80 rfl ?_
  refine ex_cv rfl rfl rfl rfl hM rfl (d' := 1) (by omega) (c_isMan hM hn (Nat.le_refl _)) ?_
  cases hm : isM n m
  · have er : rit n f m = -1 := by unfold rit; rw [hm]; rfl
    rw [er, if_neg (by decide)]
    refine ex_zneF rfl (by decide) ?_
    refine ex_go 80 rfl ?_
    exact ex_iret rfl (rq_s hS hR)
  · obtain ⟨i, hi, rfl⟩ := isM_of hm (by omega)
    obtain ⟨g1, g2, g3, g4, g5, g6⟩ := g.2.1 i hi
    have er : rit n f (nI i) = if f (5 * i + 3) < 4 then 0 else -2 := by unfold rit; rw [hm, ix_nI (by omega)]; rfl
    rw [er, ix_nI (by omega)]
    refine ex_zneT rfl (by decide) ?_
    refine ex_go 80 rfl ?_
    refine ex_cv rfl rfl rfl rfl hM rfl (d' := 0) (by omega) (c_isWanderer hM hS (by omega) g4) ?_
    by_cases c : f (5 * i + 3) = 4
    · rw [decide_eq_true c, if_neg (show ¬ f (5 * i + 3) < 4 by omega), if_neg (by decide)]
      refine ex_zeqF rfl (by decide) ?_
      refine ex_go 80 rfl ?_
      exact ex_iret rfl (rq_s hS hR)
    · have ht : f (5 * i + 3) < 4 := by omega
      rw [decide_eq_false c, if_pos ht, if_pos rfl]
      refine ex_zeqT rfl (by decide) ?_
      refine ex_go 80 rfl ?_
      refine ex_cvx rfl rfl rfl rfl hM rfl (d' := 0) (by omega) (c_starts hM hS hR.1) ?_
      rintro v1 h1 ⟨rfl, hA1, hB1⟩
      have hM1 := hB1.mo hM (by decide)
      refine ex_go 80 rfl ?_
      refine ex_cv rfl rfl rfl rfl hM1 rfl (d' := 0) (by omega) (c_of3 hM1 hA1 (by omega)) ?_
      rw [tv_lt ht]
      refine ex_go 80 rfl ?_
      refine ex_cv rfl rfl rfl rfl hM1 rfl (d' := 2) (by omega) (c_harmOf hM1 hA1 g ht (Nat.le_refl _)) ?_
      refine ex_go 80 rfl ?_
      refine ex_cvx rfl rfl rfl rfl hM1 rfl (d' := 1) (by omega) (c_goesAway hM1 hA1 (by omega) (Nat.le_refl _)) ?_
      rintro v2 h2 ⟨rfl, hA2, hB2⟩
      have hM2 := hB2.mo hM1 (by decide)
      refine ex_go 80 rfl ?_
      try dsimp only
      try simp only [nI_inc, nI_1, nI_add, nI_mul2, tb_and, tb_or, tb_andn, nI_x5, nI_x2, nI_p0, nI_p2, nI_p3, nI_p4, nI_q45]
      rw [show (1000 : Int32) = nI 1000 from rfl, nI_add]
      refine ex_cv rfl rfl rfl rfl hM2 rfl (d' := 2) (by omega) (c_harmOf hM2 hA2 (g.gv hi) ht (Nat.le_refl _)) ?_
      refine ex_go 80 rfl ?_
      try dsimp only
      try simp only [nI_inc, nI_1, nI_add, nI_mul2, tb_and, tb_or, tb_andn, nI_x5, nI_x2, nI_p0, nI_p2, nI_p3, nI_p4, nI_q45]
      exact ex_iret rfl (rq_9 hS hR (hB1.tr hB2) hA2)
theorem k_should (hC : CO h x) (hT : TA h 1 n f) (hL : TL h) (g : GD n f) {m : Int32} (hd : 6 ≤ d) : ev_X scr d cd_X5_should 0 [.ref 0, .int m, .float 0, .float 0, .float 0, .float 0] [] h (CQ h n f (.int (a_should n f m))) := by
  have hn := g.1
  unfold a_should
  refine ex_go 80 rfl ?_
  refine ex_cv rfl rfl rfl rfl hC rfl (d' := 1) (by omega) (c_refusalInTen hC hT hn (Nat.le_refl _)) ?_
  by_cases c : rit n f m = 0
  · obtain ⟨i, hi, rfl, ht, e⟩ := rit_0 hn c
    rw [if_pos c, e, c]
    obtain ⟨n2, f2, hR⟩ := hL
    refine ex_go 80 rfl ?_
    refine ex_zeqT rfl (rfl) ?_
    refine ex_go 80 rfl ?_
    refine ex_getf rfl hC rfl rfl ?_
    refine ex_cv rfl rfl rfl rfl hT.1 rfl (d' := 5) (by omega) (c_harmOfAll hT g (Nat.le_refl _)) ?_
    refine ex_go 80 rfl ?_
    refine ex_getf rfl hC rfl rfl ?_
    refine ex_go 80 rfl ?_
    refine ex_getf rfl hC rfl rfl ?_
    refine ex_cvx rfl rfl rfl rfl hR.1 rfl (d' := 1) (by omega) (c_copyFrom hR hT (by decide) rfl (Nat.le_refl _)) ?_
    rintro v1 h1 ⟨rfl, hR1, hF1⟩
    have hC1 := (hF1.2 0 (by decide)).trans hC
    refine ex_go 80 rfl ?_
    refine ex_getf rfl hC1 rfl rfl ?_
    refine ex_go 80 rfl ?_
    refine ex_getf rfl hR1.1 rfl rfl ?_
    refine ex_go 80 rfl ?_
    try dsimp only
    try simp only [nI_inc, nI_1, nI_add, nI_mul2, tb_and, tb_or, tb_andn]
    rw [tb_sh1 i (by omega), tb_xor]
    refine ex_pf rfl hR1.1 rfl rfl (fun h2 hO2 hB2 => ?_)
    have hR2 := hR1.f_40 (v := f 40 ^^^ 2 ^ i) hO2 hB2 rfl
    have hF2 := hF1.tr (hB2.fr (a := 10) (b := 10 + 8) (by decide) (by decide))
    have hC2 := (hF2.2 0 (by decide)).trans hC
    have gx : GD n (up f 40 (f 40 ^^^ 2 ^ i)) := g.xw hi ht
    refine ex_go 80 rfl ?_
    refine ex_getf rfl hC2 rfl rfl ?_
    refine ex_cv rfl rfl rfl rfl hR2.1 rfl (d' := 5) (by omega) (c_harmOfAll hR2 gx (Nat.le_refl _)) ?_
    refine ex_go 80 rfl ?_
    refine ex_getf rfl hC2 rfl rfl ?_
    refine ex_go 80 rfl ?_
    refine ex_cvx rfl rfl rfl rfl hR2.1 rfl (d' := 1) (by omega) (c_giveUp hR2 hn hi (Nat.le_refl _)) ?_
    rintro v3 h3 ⟨rfl, hR3, hF3⟩
    rw [show gvF (up f 40 (f 40 ^^^ 2 ^ i)) i = gvF f i from gv_xw f (by omega)] at hR3
    have hC3 := (hF3.2 0 (by decide)).trans hC2
    refine ex_go 80 rfl ?_
    refine ex_getf rfl hC3 rfl rfl ?_
    refine ex_cv rfl rfl rfl rfl hR3.1 rfl (d' := 5) (by omega) (c_harmOfAll hR3 (g.gv hi) (Nat.le_refl _)) ?_
    have hA := ha_lt g
    have hB := ha_lt gx
    have hD := ha_lt (g.gv hi)
    show ev_X scr d cd_X5_should _ [.ref 0, .int (nI i), .int 0, .int (nI (ha n f)), .int (nI (ha n (xw f i))), .float 0] [.int (nI (ha n (gvF f i)))] _ _
    have hB' : ha n (xw f i) < 100000 := hB
    refine ex_go 80 rfl ?_
    refine ex_igt rfl (fun k1 => ?_) (fun k1 => ?_)
    · rw [nI_ltI (by omega) (by omega)] at k1
      rw [if_neg (fun c => by omega)]
      refine ex_go 80 rfl ?_
      refine ex_igtM 1 2 52 (v := if ha n (xw f i) ≤ ha n (gvF f i) then 1 else 2) rfl rfl rfl (by by_cases c : ha n (xw f i) ≤ ha n (gvF f i) <;> simp [c, nI_ltI (a := ha n (gvF f i)) (b := ha n (xw f i)) (by omega) (by omega)] <;> omega) ?_
      exact ex_iret rfl (cq_r hT hR3 (hF2.tr hF3))
    · rw [nI_ltI (by omega) (by omega)] at k1
      refine ex_go 80 rfl ?_
      refine ex_igt rfl (fun k2 => ?_) (fun k2 => ?_)
      · rw [nI_ltI (by omega) (by omega)] at k2
        rw [if_neg (fun c => by omega)]
        refine ex_go 80 rfl ?_
        refine ex_igtM 1 2 52 (v := if ha n (xw f i) ≤ ha n (gvF f i) then 1 else 2) rfl rfl rfl (by by_cases c : ha n (xw f i) ≤ ha n (gvF f i) <;> simp [c, nI_ltI (a := ha n (gvF f i)) (b := ha n (xw f i)) (by omega) (by omega)] <;> omega) ?_
        exact ex_iret rfl (cq_r hT hR3 (hF2.tr hF3))
      · rw [nI_ltI (by omega) (by omega)] at k2
        rw [if_pos (by omega)]
        refine ex_go 80 rfl ?_
        exact ex_iret rfl (cq_r hT hR3 (hF2.tr hF3))
  · rw [if_neg c]
    refine ex_go 80 rfl ?_
    refine ex_zeqF rfl (c) ?_
    refine ex_go 80 rfl ?_
    exact ex_iret rfl (cq_s hT hL)
theorem r_should (hM : MO h n q) (hS : ST h f im) (hR : RS h) (g : GD n f) {m : Int32} (hd : 5 ≤ d) : ev_X scr d cd_X6_should 0 [.ref 57, .int m, .float 0, .float 0] [] h (RQ h f im (.int (a_should n f m))) := by
  have hn := g.1
  unfold a_should
  refine ex_go 80 rfl ?_
  refine ex_cv rfl rfl rfl rfl hM rfl (d' := 1) (by omega) (c_isMan hM hn (Nat.le_refl _)) ?_
  cases hm : isM n m
  · have er : rit n f m = -1 := by unfold rit; rw [hm]; rfl
    rw [er, if_neg (by decide)]
    refine ex_zneF rfl (by decide) ?_
    refine ex_go 80 rfl ?_
    exact ex_iret rfl (rq_s hS hR)
  · obtain ⟨i, hi, rfl⟩ := isM_of hm (by omega)
    obtain ⟨g1, g2, g3, g4, g5, g6⟩ := g.2.1 i hi
    have er : rit n f (nI i) = if f (5 * i + 3) < 4 then 0 else -2 := by unfold rit; rw [hm, ix_nI (by omega)]; rfl
    rw [er, ix_nI (by omega)]
    refine ex_zneT rfl (by decide) ?_
    refine ex_go 80 rfl ?_
    refine ex_cv rfl rfl rfl rfl hM rfl (d' := 0) (by omega) (c_isWanderer hM hS (by omega) g4) ?_
    by_cases c : f (5 * i + 3) = 4
    · rw [decide_eq_true c, if_neg (show ¬ f (5 * i + 3) < 4 by omega), if_neg (by decide)]
      refine ex_zeqF rfl (by decide) ?_
      refine ex_go 80 rfl ?_
      exact ex_iret rfl (rq_s hS hR)
    · have ht : f (5 * i + 3) < 4 := by omega
      rw [decide_eq_false c, if_pos ht, if_pos rfl]
      have gx : GD n (xw f i) := g.xw hi ht
      have hA := ha_lt g
      have hB := ha_lt gx
      have hD := ha_lt (g.gv hi)
      refine ex_zeqT rfl (by decide) ?_
      refine ex_go 80 rfl ?_
      refine ex_cvx rfl rfl rfl rfl hM rfl (d' := 4) (by omega) (c_harmR hM hS hR g (Nat.le_refl _)) ?_
      rintro v1 h1 ⟨rfl, hA1, hB1⟩
      have hM1 := hB1.mo hM (by decide)
      refine ex_go 80 rfl ?_
      refine ex_getf rfl hM1 rfl rfl ?_
      refine ex_go 80 rfl ?_
      refine ex_ia 40 rfl hA1 rfl (by first | exact trivial | assumption | (show _ < _; omega)) (by omega) (by omega) rfl ?_
      simp (disch := omega) only [rv_0, rv_1, rv_2, rv_3, rv_4, rv_40, rv_41, rv_42, rv_43, rv_44]
      refine ex_go 80 rfl ?_
      try dsimp only
      try simp only [nI_inc, nI_1, nI_add, nI_mul2, tb_and, tb_or, tb_andn, nI_x5, nI_x2, nI_p0, nI_p2, nI_p3, nI_p4, nI_q45]
      rw [tb_sh1 i (by omega), tb_xor]
      refine ex_is 40 rfl hA1 rfl (by omega) (by omega) (fun h2 hA2 hB2 => ?_)
      have hA3 : AT h2 (xw f i) := AT.st (v := f 40 ^^^ 2 ^ i) hA2 (fun _ => Or.inl trivial) rfl
      have hB3 := hB1.tr hB2
      have hM3 := hB3.mo hM (by decide)
      have hS3 := hS.b9 hB3
      have tail : ∀ b : Bool, b = decide (ha n (xw f i) < ha n f) → ev_X scr d cd_X6_should 36 [.ref 57, .int (nI i), .int (nI (if b = true then ha n (xw f i) else ha n f)), .int (nI (tb_b b))] [] h2 (RQ h f im (.int (if ha n f ≤ ha n (xw f i) ∧ ha n f ≤ ha n (gvF f i) then 0 else if ha n (xw f i) ≤ ha n (gvF f i) then 1 else 2))) := by
        intro b hb
        refine ex_go 80 rfl ?_
        refine ex_cvx rfl rfl rfl rfl hM3 rfl (d' := 0) (by omega) (c_starts hM3 hS3 hA3) ?_
        rintro v4 h4 ⟨rfl, hA4, hB4⟩
        have hM4 := hB4.mo hM3 (by decide)
        refine ex_go 80 rfl ?_
        refine ex_cvx rfl rfl rfl rfl hM4 rfl (d' := 1) (by omega) (c_goesAway hM4 hA4 (by omega) (Nat.le_refl _)) ?_
        rintro v5 h5 ⟨rfl, hA5, hB5⟩
        have hM5 := hB5.mo hM4 (by decide)
        refine ex_go 80 rfl ?_
        refine ex_cv rfl rfl rfl rfl hM5 rfl (d' := 3) (by omega) (c_harmAll hM5 hA5 (g.gv hi) (Nat.le_refl _)) ?_
        have hl : (if b = true then ha n (xw f i) else ha n f) < 2 ^ 31 := by split <;> omega
        refine ex_go 80 rfl ?_
        refine ex_igeM 1 2 48 (v := _) rfl rfl rfl (rfl) ?_
        have e : (if nI (if b = true then ha n (xw f i) else ha n f) ≤ nI (ha n (gvF f i)) then nI (tb_b b) else 2) = (if ha n f ≤ ha n (xw f i) ∧ ha n f ≤ ha n (gvF f i) then 0 else if ha n (xw f i) ≤ ha n (gvF f i) then 1 else 2) := by
          rw [if_iff (nI_leI hl (by omega))]
          cases b
          · have hk : ¬ ha n (xw f i) < ha n f := by simpa using hb.symm
            rw [if_neg (show ¬ false = true by decide)]
            by_cases c1 : ha n f ≤ ha n (gvF f i)
            · rw [if_pos c1, if_pos (by omega)]; rfl
            · rw [if_neg c1, if_neg (by omega), if_neg (by omega)]
          · have hk : ha n (xw f i) < ha n f := by simpa using hb.symm
            rw [if_pos (show true = true from rfl), if_neg (show ¬ (ha n f ≤ ha n (xw f i) ∧ ha n f ≤ ha n (gvF f i)) by omega)]
            by_cases c1 : ha n (xw f i) ≤ ha n (gvF f i)
            · rw [if_pos c1, if_pos c1]; rfl
            · rw [if_neg c1, if_neg c1]
        rw [e]
        exact ex_iret rfl (rq_9 hS hR (hB3.tr (hB4.tr hB5)) hA5)
      refine ex_go 80 rfl ?_
      refine ex_cv rfl rfl rfl rfl hM3 rfl (d' := 3) (by omega) (c_harmAll hM3 hA3 gx (Nat.le_refl _)) ?_
      refine ex_go 80 rfl ?_
      refine ex_ige rfl (fun k1 => ?_) (fun k1 => ?_)
      · rw [nI_leI (by omega) (by omega)] at k1
        exact tail false (decide_eq_false (by omega)).symm
      · rw [nI_leI (by omega) (by omega)] at k1
        refine ex_go 80 rfl ?_
        refine ex_cv rfl rfl rfl rfl hM3 rfl (d' := 3) (by omega) (c_harmAll hM3 hA3 gx (Nat.le_refl _)) ?_
        refine ex_go 1 rfl ?_
        exact tail true (decide_eq_true (by omega)).symm
end MOVES
