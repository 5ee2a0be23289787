/-! The model: small ones. -/
def RX (h h' : ev_H) : Prop := h'.length = h.length ∧ ∀ j, j ≠ 59 → j ≠ 65 → j ≠ 66 → h'[j]? = h[j]?
theorem RX.tr {h h1 h2 : ev_H} (x : RX h h1) (y : RX h1 h2) : RX h h2 := ⟨y.1.trans x.1, fun j a b c => (y.2 j a b c).trans (x.2 j a b c)⟩
theorem RZ.rx {h h' : ev_H} (x : RZ h h') : RX h h' := ⟨x.1, fun j a b _ => x.2 j a b⟩
theorem SB.rx6 {h h' : ev_H} (x : SB 66 h h') : RX h h' := ⟨x.1, fun j _ _ a => x.2 j a⟩
section RMUT
variable {scr : List Int32} {d : Nat} {h : ev_H} {n : Nat} {f g : Nat → Nat} {q : Nat → Int32} {im : Nat → Int32}
theorem c_isWrong (hM : MO h n q) (hS : ST h f im) (g : GD n f) {w : Int32} (hd : 2 ≤ d) : ev_V scr d cd_X6_isWrong 0 [.ref 57, .int w] [] h (some (.int (nI (tb_b (mdw n f w)))), h) := by
  have hn := g.1
  have h8 : 2 ^ n ≤ 2 ^ 8 := Nat.pow_le_pow_right (by decide) hn
  have h1 : 1 ≤ 2 ^ n := Nat.one_le_two_pow
  refine ev_go 80 rfl ?_
  try dsimp only
  try simp only [nI_inc, nI_1, nI_add, nI_mul2, tb_and, tb_or, tb_andn, nI_x5, nI_x2, nI_p0, nI_p2, nI_p3, nI_p4, nI_q45]
  refine ev_getf rfl hM rfl rfl ?_
  refine ev_go 80 rfl ?_
  try dsimp only
  try simp only [nI_inc, nI_1, nI_add, nI_mul2, tb_and, tb_or, tb_andn, nI_x5, nI_x2, nI_p0, nI_p2, nI_p3, nI_p4, nI_q45]
  rw [tb_sh1 n (by omega)]
  refine ev_cs rfl rfl rfl (d' := 0) (by omega) (c_in0 (2 ^ n) (by rw [Int32.toInt_toInt64, show (1 : Int32) = nI 1 from rfl, pk_sub_toInt (by omega) (by decide)]; rfl)) ?_
  refine ev_zeq rfl (fun hc => ?_) (fun hc => ?_)
  · rw [tb_b0] at hc
    unfold mdw
    rw [hc]
    refine ev_go 80 rfl ?_
    exact ev_tret rfl rfl
  · have hm : isM (2 ^ n) w = true := by simpa [tb_b0] using hc
    obtain ⟨j, hj, rfl⟩ := isM_of hm (by omega)
    rw [mdw_nI hn hj]
    refine ev_go 80 rfl ?_
    refine ev_cv rfl rfl rfl rfl hM rfl (d' := 1) (by omega) (c_saints hM hS g (Nat.le_refl _)) ?_
    refine ev_go 80 rfl ?_
    try dsimp only
    try simp only [nI_inc, nI_1, nI_add, nI_mul2, tb_and, tb_or, tb_andn, nI_x5, nI_x2, nI_p0, nI_p2, nI_p3, nI_p4, nI_q45]
    have hjs : j &&& sa n f < 2 ^ 32 := Nat.lt_of_le_of_lt Nat.and_le_left (by omega)
    refine ev_zne rfl (fun hz => ?_) (fun hz => ?_)
    · rw [nI_z hjs] at hz
      rw [decide_eq_false hz]
      refine ev_go 80 rfl ?_
      exact ev_tret rfl rfl
    · rw [nI_z hjs] at hz
      rw [decide_eq_true hz]
      refine ev_go 80 rfl ?_
      exact ev_tret rfl rfl
theorem c_becomes (hM : MO h n q) (hS : ST h f im) {k v : Nat} {x : Int32} (hk : k < 57) (hx : x = rvx k v) : ev_X scr d cd_X6_becomes 0 [.ref 57, .int (nI k), .int x, .float 0] [] h (fun r h' => r = some (.int (rv f k)) ∧ ST h' (up f k v) im ∧ SB 58 h h') := by
  refine ex_go 80 rfl ?_
  refine ex_getf rfl hM rfl rfl ?_
  refine ex_go 80 rfl ?_
  refine ex_ia k rfl hS rfl trivial (by omega) (by omega) (rs_lt hk) ?_
  refine ex_go 80 rfl ?_
  refine ex_getf rfl hM rfl rfl ?_
  refine ex_go 80 rfl ?_
  refine ex_is k rfl hS rfl (by omega) (by omega) (fun h1 hA1 hB1 => ?_)
  refine ex_go 80 rfl ?_
  exact ex_iret rfl ⟨rfl, ST.st hA1 (fun _ => Or.inl trivial) hk hx, hB1⟩
theorem c_becomesBit (hM : MO h n q) (hS : ST h f im) {k i : Nat} (b : Bool) (hk : k < 57) (hr : ¬ (k % 5 = 3 ∧ k < 40)) (hf : f k < 2 ^ 31) (hi : i < 31) : ev_X scr d cd_X6_becomesBit 0 [.ref 57, .int (nI k), .int (nI i), .int (nI (tb_b b)), .float 0] [] h (fun r h' => r = some (.int (nI (tb_b ((f k).testBit i)))) ∧ ST h' (up f k (wb b (f k) i)) im ∧ SB 58 h h') := by
  have e : rs f im k = nI (f k) := by rw [rs_lt hk, rv, if_neg hr]
  refine ex_go 80 rfl ?_
  refine ex_getf rfl hM rfl rfl ?_
  refine ex_go 80 rfl ?_
  refine ex_ia k rfl hS rfl trivial (by omega) (by omega) e ?_
  refine ex_go 80 rfl ?_
  dsimp only
  rw [tb_bit hf i hi]
  refine ex_getf rfl hM rfl rfl ?_
  refine ex_go 80 rfl ?_
  refine ex_zeq rfl (fun hc => ?_) (fun hc => ?_)
  · rw [tb_b0] at hc
    refine ex_go 80 rfl ?_
    refine ex_getf rfl hM rfl rfl ?_
    refine ex_go 80 rfl ?_
    refine ex_ia k rfl hS rfl trivial (by omega) (by omega) e ?_
    refine ex_go 80 rfl ?_
    dsimp only
    rw [tb_sh1 i hi, tb_andn]
    refine ex_is k rfl hS rfl (by omega) (by omega) (fun h1 hA1 hB1 => ?_)
    refine ex_go 80 rfl ?_
    exact ex_iret rfl ⟨rfl, ST.st hA1 (fun _ => Or.inl trivial) hk (by rw [hc, rvx_n hr]; rfl), hB1⟩
  · have hb : b = true := by simpa [tb_b0] using hc
    refine ex_go 80 rfl ?_
    refine ex_getf rfl hM rfl rfl ?_
    refine ex_go 80 rfl ?_
    refine ex_ia k rfl hS rfl trivial (by omega) (by omega) e ?_
    refine ex_go 80 rfl ?_
    dsimp only
    rw [tb_sh1 i hi, tb_or]
    refine ex_is k rfl hS rfl (by omega) (by omega) (fun h1 hA1 hB1 => ?_)
    refine ex_go 80 rfl ?_
    exact ex_iret rfl ⟨rfl, ST.st hA1 (fun _ => Or.inl trivial) hk (by rw [hb, rvx_n hr]; rfl), hB1⟩
theorem c_isWanderer (hM : MO h n q) (hS : ST h f im) {m : Nat} (hm : m < 8) (ht : f (5 * m + 3) ≤ 4) : ev_V scr d cd_X6_isWanderer 0 [.ref 57, .int (nI m)] [] h (some (.int (nI (tb_b (decide (f (5 * m + 3) = 4))))), h) := by
  refine ev_go 80 rfl ?_
  refine ev_getf rfl hM rfl rfl ?_
  refine ev_go 80 rfl ?_
  try dsimp only
  try simp only [nI_inc, nI_1, nI_add, nI_mul2, tb_and, tb_or, tb_andn, nI_x5, nI_x2, nI_p0, nI_p2, nI_p3, nI_p4, nI_q45]
  refine ev_ia _ rfl hS rfl (by first | exact trivial | assumption | (show _ < _; omega)) (by omega) (by omega) rfl ?_
  simp (disch := omega) only [rs_lt, rv_0, rv_1, rv_2, rv_3, rv_4, rv_40, rv_41, rv_42, rv_43, rv_44]
  refine ev_go 80 rfl ?_
  refine ev_ineM 1 2 13 (v := nI (tb_b (decide (f (5 * m + 3) = 4)))) rfl rfl rfl (if10 (tv_m4 ht)) ?_
  refine ev_tret rfl ?_
  cases decide (f (5 * m + 3) = 4) <;> rfl
theorem c_isFull {P : Nat → Prop} {z : Nat → Int32} (hM : MO h n q) (hS : ST h f im) (hI : IA h 59 57 P z) (hMo : IA h 61 4 (fun _ => True) (fun t => nI (f (60 + t)))) (g : GD n f) {t : Nat} (ht : t < 4) (hd : 2 ≤ d) : ev_X scr d cd_X6_isFull 0 [.ref 57, .int (nI t)] [] h (fun r h' => r = some (.int (nI (tb_b (decide (f (60 + t) ≤ sz n f t))))) ∧ AT h' f ∧ SB 59 h h') := by
  have hn := g.1
  have hz : pc8 (bs (fun m => decide (f (5 * m + 3) = t)) n) ≤ 8 := pc8_le _
  have hmo := (g.2.2.2.2.2.2.2.2.2 t ht).2
  have hbx := bs_256 (fun m => decide (f (5 * m + 3) = t)) hn
  refine ex_go 80 rfl ?_
  refine ex_cvx rfl rfl rfl rfl hM rfl (d' := 0) (by omega) (c_starts hM hS hI) ?_
  rintro v1 h1 ⟨rfl, hA1, hB1⟩
  have hM1 := hB1.mo hM (by decide)
  have hMo1 := hMo.sb hB1 (by decide)
  refine ex_go 80 rfl ?_
  refine ex_cv rfl rfl rfl rfl hM1 rfl (d' := 1) (by omega) (c_menOf hM1 hA1 hn ht (Nat.le_refl _)) ?_
  refine ex_cs rfl rfl rfl (d' := 0) (by omega) (c_bitsOf (by omega)) ?_
  refine ex_go 80 rfl ?_
  refine ex_getf rfl hM1 rfl rfl ?_
  refine ex_go 80 rfl ?_
  refine ex_ia _ rfl hMo1 rfl (by first | exact trivial | assumption | (show _ < _; omega)) (by omega) (by omega) rfl ?_
  refine ex_iltM 1 2 14 (v := nI (tb_b (decide (f (60 + t) ≤ sz n f t)))) rfl rfl rfl (if01 (by unfold sz; rw [nI_ltI (by omega) (by omega)]; omega)) ?_
  refine ex_tret rfl ?_ ⟨rfl, hA1, hB1⟩
  cases decide (f (60 + t) ≤ sz n f t) <;> rfl
theorem c_tensOfR (hM : MO h n q) (hS : ST h f im) (g : GD n f) {x : Nat} (hx : x < 2 ^ 31) (hd : 1 ≤ d) : ev_V scr d cd_X6_tensOf 0 [.ref 57, .int (nI x), .float 0, .float 0, .float 0] [] h (some (.int (nI (tor f x n))), h) := by
  have hn := g.1
  refine ev_go 80 rfl ?_
  refine ev_loop n (fun i => ev_V scr d cd_X6_tensOf 4 [.ref 57, .int (nI x), .int (nI (tor f x i)), .int (nI i), .float 0] [] h _) (fun i hi K => ?_) ?_
  · have g4 := (g.2.1 i hi).2.2.2.1
    rw [tor] at K
    have no : ¬ (x.testBit i = true ∧ f (5 * i + 3) < 4) → ev_V scr d cd_X6_tensOf 22 [.ref 57, .int (nI x), .int (nI (tor f x i)), .int (nI i), .float 0] [] h (some (.int (nI (tor f x n))), h) := by
      intro c
      rw [if_neg c] at K
      refine ev_go 80 rfl ?_
      refine ev_zeqT rfl (rfl) ?_
      refine ev_go 80 rfl ?_
      dsimp only
      rw [show (0 : Int32) = nI 0 from rfl, tb_or, nI_inc, Nat.or_zero]
      exact ev_weak (K) (by repeat (first | exact W_n | refine W_e ?_ | refine W_i ?_ | refine W_r ?_))
    refine ev_nop rfl ?_
    refine ev_go 80 rfl ?_
    refine ev_getf rfl hM rfl rfl ?_
    refine ev_igeF rfl (nI_ge hi (by first | omega | decide)) ?_
    refine ev_go 80 rfl ?_
    try dsimp only
    try simp only [nI_inc, nI_1, nI_add, nI_mul2, tb_and, tb_or, tb_andn, nI_x5, nI_x2, nI_p0, nI_p2, nI_p3, nI_p4, nI_q45]
    refine ev_ine rfl (fun hc => ?_) (fun hc => ?_)
    · rw [tb_b1' hx (by omega)] at hc
      exact no (fun q => hc q.1)
    · rw [tb_b1' hx (by omega)] at hc
      refine ev_go 80 rfl ?_
      refine ev_cv rfl rfl rfl rfl hM rfl (d' := 0) (by omega) (c_isWanderer hM hS (by omega) g4) ?_
      refine ev_zne rfl (fun hz => ?_) (fun hz => ?_)
      · have h4 : f (5 * i + 3) = 4 := by simpa [tb_b0] using hz
        exact no (fun q => by omega)
      · rw [tb_b0, decide_eq_false_iff_not] at hz
        have ht : f (5 * i + 3) < 4 := by omega
        rw [if_pos ⟨hc, ht⟩] at K
        refine ev_go 80 rfl ?_
        refine ev_zeqF rfl (by decide) ?_
        refine ev_go 80 rfl ?_
        refine ev_getf rfl hM rfl rfl ?_
        refine ev_go 80 rfl ?_
        try dsimp only
        try simp only [nI_inc, nI_1, nI_add, nI_mul2, tb_and, tb_or, tb_andn, nI_x5, nI_x2, nI_p0, nI_p2, nI_p3, nI_p4, nI_q45]
        refine ev_ia _ rfl hS rfl (by first | exact trivial | assumption | (show _ < _; omega)) (by omega) (by omega) rfl ?_
        simp (disch := omega) only [rs_lt, rv_0, rv_1, rv_2, rv_3, rv_4, rv_40, rv_41, rv_42, rv_43, rv_44]
        refine ev_go 80 rfl ?_
        try dsimp only
        try simp only [nI_inc, nI_1, nI_add, nI_mul2, tb_and, tb_or, tb_andn, nI_x5, nI_x2, nI_p0, nI_p2, nI_p3, nI_p4, nI_q45]
        rw [tv_lt ht, tb_sh1 _ (by omega), tb_or]
        exact ev_weak (K) (by repeat (first | exact W_n | refine W_e ?_ | refine W_i ?_ | refine W_r ?_))
  · refine ev_nop rfl ?_
    refine ev_go 80 rfl ?_
    refine ev_getf rfl hM rfl rfl ?_
    refine ev_igeT rfl (nI_le (Nat.le_refl _) (by first | omega | decide)) ?_
    refine ev_go 80 rfl ?_
    exact ev_iret rfl
theorem c_goesAway (hM : MO h n q) (hA : AT h f) {m : Nat} (hm : m < 8) (hd : 1 ≤ d) : ev_X scr d cd_X6_goesAway 0 [.ref 57, .int (nI m)] [] h (fun r h' => r = none ∧ AT h' (gvF f m) ∧ SB 59 h h') := by
  refine ex_go 80 rfl ?_
  refine ex_cvx rfl rfl rfl rfl hM rfl (d' := 0) (by omega) (c_becomesOf (w := 3) (v := 4) hM hA hm (by decide) (by rw [rvx_t (by omega)]; rfl)) ?_
  rintro v1 h1 ⟨rfl, hA1, hB1⟩
  have hM1 := hB1.mo hM (by decide)
  refine ex_go 80 rfl ?_
  refine ex_cvx rfl rfl rfl rfl hM1 rfl (d' := 0) (by omega) (c_becomesOf (w := 0) (v := 3) hM1 hA1 hm (by decide) (by rw [rvx_n (by omega)]; rfl)) ?_
  rintro v2 h2 ⟨rfl, hA2, hB2⟩
  have hM2 := hB2.mo hM1 (by decide)
  refine ex_go 80 rfl ?_
  refine ex_getf rfl hM2 rfl rfl ?_
  refine ex_go 80 rfl ?_
  refine ex_ia 40 rfl hA2 rfl (by first | exact trivial | assumption | (show _ < _; omega)) (by omega) (by omega) rfl ?_
  simp (disch := omega) only [rv_0, rv_1, rv_2, rv_3, rv_4, rv_40, rv_41, rv_42, rv_43, rv_44]
  refine ex_go 80 rfl ?_
  try dsimp only
  try simp only [nI_inc, nI_1, nI_add, nI_mul2, tb_and, tb_or, tb_andn, nI_x5, nI_x2, nI_p0, nI_p2, nI_p3, nI_p4, nI_q45]
  rw [tb_sh1 m (by omega), tb_andn]
  refine ex_is 40 rfl hA2 rfl (by omega) (by omega) (fun h3 hA3 hB3 => ?_)
  have e40 : up (up f (5 * m + 3) 4) (5 * m + 0) 3 40 = f 40 := by rw [up_ne (by omega), up_ne (by omega)]
  have hA4 := AT.st (v := tb_wo (f 40) (2 ^ m)) hA3 (fun _ => Or.inl trivial) (by rw [e40]; rfl)
  exact ex_vret rfl (⟨rfl, hA4, (hB1.tr hB2).tr hB3⟩)
theorem c_findOdds {P P2 : Nat → Prop} {z z2 : Nat → Int32} (hM : MO h n q) (hS : ST h f im) (hI : IA h 59 57 P z) (hJ : IA h 66 8 P2 z2) (g : GD n f) (hd : 2 ≤ d) : ev_X scr d cd_X6_findOdds 0 [.ref 57, .float 0] [] h (fun r h' => r = none ∧ AT h' f ∧ IA h' 66 8 (fun m => m < n) (fun m => nI (od n f m)) ∧ h'[65]? = h[65]? ∧ RX h h') := by
  have hn := g.1
  refine ex_go 80 rfl ?_
  refine ex_cvx rfl rfl rfl rfl hM rfl (d' := 0) (by omega) (c_starts hM hS hI) ?_
  rintro v1 h1 ⟨rfl, hA1, hB1⟩
  have hM1 := hB1.mo hM (by decide)
  have hJ1 := hJ.sb hB1 (by decide)
  refine ex_go 80 rfl ?_
  refine ev_loop n (fun i => ∀ h2, IA h2 66 8 (fun m => m < i ∧ True) (fun m => nI (od n f m)) → SB 66 h1 h2 → ev_X scr d cd_X6_findOdds 4 [.ref 57, .int (nI i)] [] h2 _) (fun i hi K h2 hJ2 hB2 => ?_) (fun h2 hJ2 hB2 => ?_) h1 hJ1.none SB.rf
  · have hM2 := hB2.mo hM1 (by decide)
    have hA2 := hA1.sb hB2 (by decide)
    refine ex_nop rfl ?_
    refine ex_go 80 rfl ?_
    refine ex_getf rfl hM2 rfl rfl ?_
    refine ex_igeF rfl (nI_ge hi (by first | omega | decide)) ?_
    refine ex_go 80 rfl ?_
    refine ex_getf rfl hM2 rfl rfl ?_
    refine ex_go 80 rfl ?_
    refine ex_cv rfl rfl rfl rfl hM2 rfl (d' := 1) (by omega) (c_oddsOf hM2 hA2 g hi (Nat.le_refl _)) ?_
    refine ex_is _ rfl hJ2 rfl (by omega) (by omega) (fun h3 hA3 hB3 => ?_)
    refine ex_go 80 rfl ?_
    try dsimp only
    try simp only [nI_inc, nI_1, nI_add, nI_mul2, tb_and, tb_or, tb_andn, nI_x5, nI_x2, nI_p0, nI_p2, nI_p3, nI_p4, nI_q45]
    exact K h3 (hA3.grow (fun _ => rfl)) (hB2.tr hB3)
  · have hM2 := hB2.mo hM1 (by decide)
    refine ex_nop rfl ?_
    refine ex_go 80 rfl ?_
    refine ex_getf rfl hM2 rfl rfl ?_
    refine ex_igeT rfl (nI_le (Nat.le_refl _) (by first | omega | decide)) ?_
    exact ex_vret rfl (⟨rfl, hA1.sb hB2 (by decide), hJ2.congr (fun m hm hp => ⟨⟨hp, trivial⟩, rfl⟩), (hB2.2 65 (by decide)).trans (hB1.2 65 (by decide)), hB1.rz9.rx.tr hB2.rx6⟩)
end RMUT
