/-! Harm, stock, tens. -/
theorem sm_s (g : Nat → Nat) (i : Nat) : sm g (i + 1) = sm g i + g i := rfl
theorem li10 : (10 : Int32) = nI 10 := rfl
theorem nI_mul2 (a b : Nat) : nI a * nI b = nI (a * b) := (Int32.ofNat_mul a b).symm
def hmg (n : Nat) (f : Nat → Nat) (t m : Nat) : Nat := if f (5 * m + 3) = t then od n f m else 0
def wct (n : Nat) (f : Nat → Nat) (t : Nat) : Nat := sm (fun m => tb_b (decide (f (5 * m + 3) = t) && (f 40).testBit m)) n
/-- the harm of a ten -/
def hm (n : Nat) (f : Nat → Nat) (t : Nat) : Nat := sm (hmg n f t) n * f 41 + 10 * f 42 * wct n f t
def hwg (f : Nat → Nat) (m : Nat) : Nat := if f (5 * m) = 3 then f (5 * m + 1) * f 41 else 0
/-- the harm of all -/
def ha (n : Nat) (f : Nat → Nat) : Nat := sm (hm n f) 4 + sm (hwg f) n
def gsg (f : Nat → Nat) (x m : Nat) : Nat := if x.testBit m = true then f (5 * m + 2) else 0
def twg (n : Nat) (f : Nat → Nat) (t : Nat) : Nat := if bs (fun m => decide (f (5 * m + 3) = t)) n = 0 then 0 else 1
section HARM
variable {scr : List Int32} {d : Nat} {h : ev_H} {a n : Nat} {f : Nat → Nat}
theorem c_wonByWatch (hT : TA h a n f) (g : GD n f) {m : Nat} (hm : m < n) (hd : 3 ≤ d) : ev_V scr d cd_X4_wonByWatch 0 [.ref a, .int (nI m)] [] h (some (.int (if f (5 * m + 3) < 4 then nI (f 41) * (nI (odw n f m false) - nI (odw n f m true)) else 0)), h) := by
  have hn := g.1
  refine ev_go 80 rfl ?_
  refine ev_getf rfl hT.1 rfl rfl ?_
  refine ev_go 80 rfl ?_
  refine ev_ia _ rfl hT.2.2.2.2.1 rfl (by first | exact trivial | assumption | (show _ < _; omega)) (by omega) (by omega) rfl ?_
  refine ev_zge rfl (fun hc => ?_) (fun hc => ?_)
  · rw [if_pos (Classical.not_not.mp (fun q => absurd hc (Int32.not_le.mpr ((tv_neg _).mpr q))))]
    refine ev_go 80 rfl ?_
    refine ev_getf rfl hT.1 rfl rfl ?_
    refine ev_go 80 rfl ?_
    refine ev_cv rfl rfl rfl rfl hT.1 rfl (d' := 2) (by omega) (c_oddsIfWatched hT g hm false (Nat.le_refl _)) ?_
    refine ev_go 80 rfl ?_
    refine ev_cv rfl rfl rfl rfl hT.1 rfl (d' := 2) (by omega) (c_oddsIfWatched hT g hm true (Nat.le_refl _)) ?_
    refine ev_go 80 rfl ?_
    try dsimp only
    try simp only [nI_inc, nI_1, nI_add, nI_mul2, tb_and, tb_or, tb_andn]
    exact ev_iret rfl
  · rw [if_neg ((tv_neg _).mp (Int32.not_le.mp hc))]
    refine ev_go 80 rfl ?_
    exact ev_iret rfl
theorem c_harmOfTen (hT : TA h a n f) (g : GD n f) {t : Nat} (ht : t < 4) (hd : 4 ≤ d) : ev_V scr d cd_X4_harmOfTen 0 [.ref a, .int (nI t), .float 0, .float 0, .float 0] [] h (some (.int (nI (hm n f t))), h) := by
  have hn := g.1
  have hw := g.w
  refine ev_go 80 rfl ?_
  refine ev_cv rfl rfl rfl rfl hT.1 rfl (d' := 0) (by omega) (c_menOfTen hT hn ht) ?_
  refine ev_go 80 rfl ?_
  refine ev_loop n (fun i => ev_V scr d cd_X4_harmOfTen 8 [.ref a, .int (nI t), .int (nI (bs (fun m => decide (f (5 * m + 3) = t)) n)), .int (nI (sm (hmg n f t) i)), .int (nI i)] [] h _) (fun i hi K => ?_) ?_
  · refine ev_nop rfl ?_
    refine ev_go 80 rfl ?_
    refine ev_getf rfl hT.1 rfl rfl ?_
    refine ev_igeF rfl (nI_ge hi (by first | omega | decide)) ?_
    refine ev_go 80 rfl ?_
    refine ev_cs rfl rfl rfl (d' := 0) (by omega) (c_bitOf (Nat.lt_trans (bs_256 _ hn) (by decide)) (by omega)) ?_
    rw [bs_bit, decide_eq_true hi, Bool.true_and]
    rw [sm_s] at K
    refine ev_zeq rfl (fun hc => ?_) (fun hc => ?_)
    · rw [tb_b0, decide_eq_false_iff_not] at hc
      rw [hmg, if_neg hc, Nat.add_zero] at K
      refine ev_go 80 rfl ?_
      try dsimp only
      try simp only [nI_inc, nI_1, nI_add, nI_mul2, tb_and, tb_or, tb_andn]
      exact K
    · have hp : f (5 * i + 3) = t := Classical.not_not.mp (fun q => hc (by rw [decide_eq_false q]; rfl))
      rw [hmg, if_pos hp] at K
      refine ev_go 80 rfl ?_
      refine ev_cv rfl rfl rfl rfl hT.1 rfl (d' := 3) (by omega) (c_oddsInTen hT g hi (Nat.le_refl _)) ?_
      refine ev_go 80 rfl ?_
      try dsimp only
      try simp only [nI_inc, nI_1, nI_add, nI_mul2, tb_and, tb_or, tb_andn]
      exact K
  · refine ev_nop rfl ?_
    refine ev_go 80 rfl ?_
    refine ev_getf rfl hT.1 rfl rfl ?_
    refine ev_igeT rfl (nI_le (Nat.le_refl _) (by first | omega | decide)) ?_
    refine ev_go 80 rfl ?_
    refine ev_getf rfl hT.1 rfl rfl ?_
    refine ev_go 80 rfl ?_
    try dsimp only
    try simp only [nI_inc, nI_1, nI_add, nI_mul2, tb_and, tb_or, tb_andn]
    refine ev_getf rfl hT.1 rfl rfl ?_
    refine ev_go 80 rfl ?_
    try dsimp only
    try simp only [nI_inc, nI_1, nI_add, nI_mul2, tb_and, tb_or, tb_andn]
    refine ev_getf rfl hT.1 rfl rfl ?_
    refine ev_go 80 rfl ?_
    try dsimp only
    try simp only [nI_inc, nI_1, nI_add, nI_mul2, tb_and, tb_or, tb_andn]
    refine ev_cs rfl rfl rfl (d' := 0) (by omega) (c_bitCount (and256 (bs_256 _ hn))) ?_
    rw [pc8_bsa _ _ hn, li10]
    refine ev_go 80 rfl ?_
    try dsimp only
    try simp only [nI_inc, nI_1, nI_add, nI_mul2, tb_and, tb_or, tb_andn]
    exact ev_iret rfl
theorem c_harmOfAll (hT : TA h a n f) (g : GD n f) (hd : 5 ≤ d) : ev_V scr d cd_X4_harmOfAll 0 [.ref a, .float 0, .float 0] [] h (some (.int (nI (ha n f))), h) := by
  have hn := g.1
  refine ev_go 80 rfl ?_
  refine ev_loop 4 (fun i => ev_V scr d cd_X4_harmOfAll 4 [.ref a, .int (nI (sm (hm n f) i)), .int (nI i)] [] h _) (fun i hi K => ?_) ?_
  · refine ev_nop rfl ?_
    refine ev_go 80 rfl ?_
    refine ev_igeF rfl (nI_ge hi (by first | omega | decide)) ?_
    refine ev_go 80 rfl ?_
    refine ev_cv rfl rfl rfl rfl hT.1 rfl (d' := 4) (by omega) (c_harmOfTen hT g hi (Nat.le_refl _)) ?_
    refine ev_go 80 rfl ?_
    try dsimp only
    try simp only [nI_inc, nI_1, nI_add, nI_mul2, tb_and, tb_or, tb_andn]
    exact K
  · refine ev_nop rfl ?_
    refine ev_go 80 rfl ?_
    refine ev_igeT rfl (nI_le (Nat.le_refl _) (by first | omega | decide)) ?_
    refine ev_go 80 rfl ?_
    refine ev_loop n (fun i => ev_V scr d cd_X4_harmOfAll 18 [.ref a, .int (nI (sm (hm n f) 4 + sm (hwg f) i)), .int (nI i)] [] h _) (fun i hi K => ?_) ?_
    · refine ev_nop rfl ?_
      refine ev_go 80 rfl ?_
      refine ev_getf rfl hT.1 rfl rfl ?_
      refine ev_igeF rfl (nI_ge hi (by first | omega | decide)) ?_
      rw [sm_s (hwg f)] at K
      have gi := (g.2.1 i hi).1
      refine ev_go 80 rfl ?_
      refine ev_getf rfl hT.1 rfl rfl ?_
      refine ev_go 80 rfl ?_
      refine ev_ia _ rfl hT.2.1 rfl (by first | exact trivial | assumption | (show _ < _; omega)) (by omega) (by omega) rfl ?_
      refine ev_go 80 rfl ?_
      refine ev_ine rfl (fun hc => ?_) (fun hc => ?_)
      · rw [hwg, if_neg (fun q => hc (by rw [q]; rfl)), Nat.add_zero] at K
        refine ev_go 80 rfl ?_
        try dsimp only
        try simp only [nI_inc, nI_1, nI_add, nI_mul2, tb_and, tb_or, tb_andn]
        exact K
      · rw [hwg, if_pos ((nI_eq (b := 3) (by omega) (by decide)).mp hc), ← Nat.add_assoc] at K
        refine ev_go 80 rfl ?_
        refine ev_getf rfl hT.1 rfl rfl ?_
        refine ev_go 80 rfl ?_
        refine ev_ia _ rfl hT.2.2.1 rfl (by first | exact trivial | assumption | (show _ < _; omega)) (by omega) (by omega) rfl ?_
        refine ev_go 80 rfl ?_
        refine ev_getf rfl hT.1 rfl rfl ?_
        refine ev_go 80 rfl ?_
        try dsimp only
        try simp only [nI_inc, nI_1, nI_add, nI_mul2, tb_and, tb_or, tb_andn]
        exact K
    · refine ev_nop rfl ?_
      refine ev_go 80 rfl ?_
      refine ev_getf rfl hT.1 rfl rfl ?_
      refine ev_igeT rfl (nI_le (Nat.le_refl _) (by first | omega | decide)) ?_
      refine ev_go 80 rfl ?_
      exact ev_iret rfl
theorem c_stockOf (hT : TA h a n f) (hn : n ≤ 8) {x : Nat} (hx : x < 2 ^ 31) (hd : 1 ≤ d) : ev_V scr d cd_X4_stockOf 0 [.ref a, .int (nI x), .float 0, .float 0] [] h (some (.int (nI (sm (gsg f x) n))), h) := by
  refine ev_go 80 rfl ?_
  refine ev_loop n (fun i => ev_V scr d cd_X4_stockOf 4 [.ref a, .int (nI x), .int (nI (sm (gsg f x) i)), .int (nI i)] [] h _) (fun i hi K => ?_) ?_
  · refine ev_nop rfl ?_
    refine ev_go 80 rfl ?_
    refine ev_getf rfl hT.1 rfl rfl ?_
    refine ev_igeF rfl (nI_ge hi (by first | omega | decide)) ?_
    refine ev_go 80 rfl ?_
    refine ev_cs rfl rfl rfl (d' := 0) (by omega) (c_bitOf hx (by omega)) ?_
    rw [sm_s] at K
    refine ev_zeq rfl (fun hc => ?_) (fun hc => ?_)
    · rw [tb_b0] at hc
      rw [gsg, if_neg (by rw [hc]; decide), Nat.add_zero] at K
      refine ev_go 80 rfl ?_
      try dsimp only
      try simp only [nI_inc, nI_1, nI_add, nI_mul2, tb_and, tb_or, tb_andn]
      exact K
    · have hp : x.testBit i = true := by simpa [tb_b0] using hc
      rw [gsg, if_pos hp] at K
      refine ev_go 80 rfl ?_
      refine ev_getf rfl hT.1 rfl rfl ?_
      refine ev_go 80 rfl ?_
      refine ev_ia _ rfl hT.2.2.2.1 rfl (by first | exact trivial | assumption | (show _ < _; omega)) (by omega) (by omega) rfl ?_
      refine ev_go 80 rfl ?_
      try dsimp only
      try simp only [nI_inc, nI_1, nI_add, nI_mul2, tb_and, tb_or, tb_andn]
      exact K
  · refine ev_nop rfl ?_
    refine ev_go 80 rfl ?_
    refine ev_getf rfl hT.1 rfl rfl ?_
    refine ev_igeT rfl (nI_le (Nat.le_refl _) (by first | omega | decide)) ?_
    refine ev_go 80 rfl ?_
    exact ev_iret rfl
theorem c_tensWithMen (hT : TA h a n f) (hn : n ≤ 8) (hd : 1 ≤ d) : ev_V scr d cd_X4_tensWithMen 0 [.ref a, .float 0, .float 0] [] h (some (.int (nI (sm (twg n f) 4))), h) := by
  refine ev_go 80 rfl ?_
  refine ev_loop 4 (fun i => ev_V scr d cd_X4_tensWithMen 4 [.ref a, .int (nI (sm (twg n f) i)), .int (nI i)] [] h _) (fun i hi K => ?_) ?_
  · refine ev_nop rfl ?_
    refine ev_go 80 rfl ?_
    refine ev_igeF rfl (nI_ge hi (by first | omega | decide)) ?_
    refine ev_go 80 rfl ?_
    refine ev_cv rfl rfl rfl rfl hT.1 rfl (d' := 0) (by omega) (c_menOfTen hT hn hi) ?_
    rw [sm_s] at K
    have hb := bs_256 (fun m => decide (f (5 * m + 3) = i)) hn
    refine ev_zeq rfl (fun hc => ?_) (fun hc => ?_)
    · rw [twg, if_pos ((nI_eq (b := 0) (by omega) (by decide)).mp hc), Nat.add_zero] at K
      refine ev_go 80 rfl ?_
      try dsimp only
      try simp only [nI_inc, nI_1, nI_add, nI_mul2, tb_and, tb_or, tb_andn]
      exact K
    · rw [twg, if_neg (fun q => hc (by rw [q]; rfl))] at K
      refine ev_go 80 rfl ?_
      try dsimp only
      try simp only [nI_inc, nI_1, nI_add, nI_mul2, tb_and, tb_or, tb_andn]
      exact K
  · refine ev_nop rfl ?_
    refine ev_go 80 rfl ?_
    refine ev_igeT rfl (nI_le (Nat.le_refl _) (by first | omega | decide)) ?_
    refine ev_go 80 rfl ?_
    exact ev_iret rfl
theorem c_maySwap (hT : TA h a n f) (g : GD n f) {i j : Nat} (hi : i < n) (hj : j < n) : ev_V scr d cd_X4_maySwap 0 [.ref a, .int (nI i), .int (nI j)] [] h (some (.int (nI (tb_b (decide (f (5 * i + 3) < 4 ∧ f (5 * j + 3) < 4 ∧ f (5 * i + 3) ≠ f (5 * j + 3)))))), h) := by
  have hn := g.1
  have gi := (g.2.1 i hi).2.2.2.1
  have gj := (g.2.1 j hj).2.2.2.1
  refine ev_go 80 rfl ?_
  refine ev_getf rfl hT.1 rfl rfl ?_
  refine ev_go 80 rfl ?_
  refine ev_ia _ rfl hT.2.2.2.2.1 rfl (by first | exact trivial | assumption | (show _ < _; omega)) (by omega) (by omega) rfl ?_
  refine ev_zlt rfl (fun hc => ?_) (fun hc => ?_)
  · rw [tv_neg] at hc
    rw [decide_eq_false (fun q => hc q.1)]
    refine ev_go 80 rfl ?_
    exact ev_tret rfl rfl
  · have h1 := Classical.not_not.mp ((not_congr (tv_neg _)).mp hc)
    refine ev_go 80 rfl ?_
    refine ev_getf rfl hT.1 rfl rfl ?_
    refine ev_go 80 rfl ?_
    refine ev_ia _ rfl hT.2.2.2.2.1 rfl (by first | exact trivial | assumption | (show _ < _; omega)) (by omega) (by omega) rfl ?_
    refine ev_zlt rfl (fun hc => ?_) (fun hc => ?_)
    · rw [tv_neg] at hc
      rw [decide_eq_false (fun q => hc q.2.1)]
      refine ev_go 80 rfl ?_
      exact ev_tret rfl rfl
    · have h2 := Classical.not_not.mp ((not_congr (tv_neg _)).mp hc)
      refine ev_go 80 rfl ?_
      refine ev_getf rfl hT.1 rfl rfl ?_
      refine ev_go 80 rfl ?_
      refine ev_ia _ rfl hT.2.2.2.2.1 rfl (by first | exact trivial | assumption | (show _ < _; omega)) (by omega) (by omega) rfl ?_
      refine ev_go 80 rfl ?_
      refine ev_getf rfl hT.1 rfl rfl ?_
      refine ev_go 80 rfl ?_
      refine ev_ia _ rfl hT.2.2.2.2.1 rfl (by first | exact trivial | assumption | (show _ < _; omega)) (by omega) (by omega) rfl ?_
      refine ev_ieq rfl (fun hc => ?_) (fun hc => ?_)
      · rw [tv_inj gi gj] at hc
        rw [decide_eq_false (fun q => q.2.2 hc)]
        refine ev_go 80 rfl ?_
        exact ev_tret rfl rfl
      · rw [tv_inj gi gj] at hc
        rw [decide_eq_true (And.intro h1 (And.intro h2 hc))]
        refine ev_go 80 rfl ?_
        exact ev_tret rfl rfl
end HARM
