/-! What is left of the town; long numbers. -/
def tor (f : Nat → Nat) (x : Nat) : Nat → Nat
  | 0 => 0
  | i + 1 => if x.testBit i = true ∧ f (5 * i + 3) < 4 then tor f x i ||| 2 ^ f (5 * i + 3) else tor f x i
/-- products -/
def pd (q : Nat → Nat) : Nat → Nat
  | 0 => 1
  | i + 1 => pd q i * q i
def cf (n : Nat) (f : Nat → Nat) (x s m : Nat) : Nat := if x.testBit m = true then (if s.testBit m = true then od n f m else 10 - od n f m) else 1
def sa (n : Nat) (f : Nat → Nat) : Nat := bs (fun m => decide (f (5 * m) = 2)) n
def mdw (n : Nat) (f : Nat → Nat) (w : Int32) : Bool := isM (2 ^ n) w && decide (w.toNatClampNeg &&& sa n f = 0)
def sz (n : Nat) (f : Nat → Nat) (t : Nat) : Nat := pc8 (bs (fun m => decide (f (5 * m + 3) = t)) n)
def wns (n : Nat) (f : Nat → Nat) (i t : Nat) : Int32 := if f (5 * i + 3) ≠ t ∧ f (60 + t) ≤ sz n f t then -3 else 0
theorem nI_bv (x : Nat) : (nI x).toBitVec = BitVec.ofNat 32 x := rfl
theorem nI_z {x : Nat} (hx : x < 2 ^ 32) : nI x = 0 ↔ x = 0 := by
  constructor
  · intro q
    have := congrArg (fun y : Int32 => y.toBitVec.toNat) q
    simp only [nI_bv, BitVec.toNat_ofNat] at this
    rw [Nat.mod_eq_of_lt hx] at this
    exact this
  · intro q; rw [q]; rfl
theorem nI_any (w : Int32) : ∃ j, j < 2 ^ 32 ∧ w = nI j := by
  refine ⟨w.toBitVec.toNat, w.toBitVec.isLt, ?_⟩
  apply Int32.toBitVec_inj.mp
  rw [nI_bv]
  simp
theorem mdw_nI {n : Nat} {f : Nat → Nat} {j : Nat} (hn : n ≤ 8) (hj : j < 2 ^ n) : mdw n f (nI j) = decide (j &&& sa n f = 0) := by
  have h8 : 2 ^ n ≤ 2 ^ 8 := Nat.pow_le_pow_right (by decide) hn
  unfold mdw
  rw [isM_nI hj (by omega), nI_clamp (by omega), Bool.true_and]
theorem mdw_of {n : Nat} {f : Nat → Nat} {w : Int32} (hn : n ≤ 8) (h : mdw n f w = true) : ∃ j, j < 2 ^ n ∧ w = nI j ∧ j &&& sa n f = 0 := by
  have h8 : 2 ^ n ≤ 2 ^ 8 := Nat.pow_le_pow_right (by decide) hn
  unfold mdw at h
  rw [Bool.and_eq_true] at h
  obtain ⟨j, hj, rfl⟩ := isM_of h.1 (by omega)
  refine ⟨j, hj, rfl, ?_⟩
  have := h.2
  rw [nI_clamp (by omega), decide_eq_true_eq] at this
  exact this
theorem mdw_wo {n : Nat} {f : Nat → Nat} {j : Nat} (hn : n ≤ 8) (hj : j < 2 ^ 32) : nI (tb_wo j (tb_wo (2 ^ n - 1) (sa n f))) = 0 ↔ mdw n f (nI j) = true := by
  have h8 : 2 ^ n ≤ 2 ^ 8 := Nat.pow_le_pow_right (by decide) hn
  rw [nI_z (Nat.lt_of_le_of_lt (tb_wo_le _ _) hj)]
  constructor
  · intro q
    have hb : ∀ i, j.testBit i = true → i < n ∧ (sa n f).testBit i = false := by
      intro i hi
      have := congrArg (fun x => x.testBit i) q
      simp only [tb_wo_bit, hi, Nat.zero_testBit, Nat.testBit_two_pow_sub_one, Bool.true_and] at this
      simpa using this
    have hl : j < 2 ^ n := Nat.lt_pow_two_of_testBit _ (fun i hi => by
      cases c : j.testBit i
      · rfl
      · exact absurd (hb i c).1 (by omega))
    rw [mdw_nI hn hl, decide_eq_true_eq]
    apply Nat.eq_of_testBit_eq
    intro i
    rw [Nat.testBit_and, Nat.zero_testBit]
    cases c : j.testBit i
    · rfl
    · rw [(hb i c).2]; rfl
  · intro q
    obtain ⟨j', hj', e, hz⟩ := mdw_of hn q
    have e2 : j = j' := by
      have := congrArg (fun y : Int32 => y.toBitVec.toNat) e
      simp only [nI_bv, BitVec.toNat_ofNat] at this
      omega
    subst e2
    apply Nat.eq_of_testBit_eq
    intro i
    have hz' := congrArg (fun x => x.testBit i) hz
    simp only [Nat.testBit_and, Nat.zero_testBit] at hz'
    rw [tb_wo_bit, tb_wo_bit, Nat.zero_testBit, Nat.testBit_two_pow_sub_one]
    cases c : j.testBit i
    · rfl
    · have hi : i < n := by
        apply Classical.byContradiction
        intro hi
        rw [Nat.testBit_lt_two_pow (Nat.lt_of_lt_of_le hj' (Nat.pow_le_pow_right (by decide) (Nat.le_of_not_lt hi)))] at c
        exact absurd c (by decide)
      rw [c, Bool.true_and] at hz'
      simp [hi, hz']
theorem isM_not {n : Nat} {m : Int32} (hn : n < 2 ^ 31) (h : isM n m = true) : ¬ m < 0 ∧ ¬ nI n ≤ m := by
  obtain ⟨j, hj, rfl⟩ := isM_of h hn
  exact ⟨nI_pos (by omega), nI_ge hj hn⟩
section REST
variable {scr : List Int32} {d : Nat} {h : ev_H} {a n : Nat} {f : Nat → Nat}
theorem c_tensOf (hT : TA h a n f) (hn : n ≤ 8) {x : Nat} (hx : x < 2 ^ 31) (hd : 1 ≤ d) : ev_V scr d cd_X4_tensOf 0 [.ref a, .int (nI x), .float 0, .float 0] [] h (some (.int (nI (tor f x n))), h) := by
  refine ev_go 80 rfl ?_
  refine ev_loop n (fun i => ev_V scr d cd_X4_tensOf 4 [.ref a, .int (nI x), .int (nI (tor f x i)), .int (nI i)] [] h _) (fun i hi K => ?_) ?_
  · refine ev_nop rfl ?_
    refine ev_go 80 rfl ?_
    refine ev_getf rfl hT.1 rfl rfl ?_
    refine ev_igeF rfl (nI_ge hi (by first | omega | decide)) ?_
    refine ev_go 80 rfl ?_
    refine ev_cs rfl rfl rfl (d' := 0) (by omega) (c_bitOf hx (by omega)) ?_
    rw [tor] at K
    refine ev_zeq rfl (fun hc => ?_) (fun hc => ?_)
    · rw [tb_b0] at hc
      rw [if_neg (fun q => by rw [hc] at q; exact absurd q.1 (by decide))] at K
      refine ev_go 80 rfl ?_
      try dsimp only
      try simp only [nI_inc, nI_1, nI_add, nI_mul2, tb_and, tb_or, tb_andn]
      exact K
    · have hp : x.testBit i = true := by simpa [tb_b0] using hc
      refine ev_go 80 rfl ?_
      refine ev_getf rfl hT.1 rfl rfl ?_
      refine ev_go 80 rfl ?_
      refine ev_ia _ rfl hT.2.2.2.2.1 rfl (by first | exact trivial | assumption | (show _ < _; omega)) (by omega) (by omega) rfl ?_
      refine ev_zlt rfl (fun hc => ?_) (fun hc => ?_)
      · rw [tv_neg] at hc
        rw [if_neg (fun q => hc q.2)] at K
        refine ev_go 80 rfl ?_
        try dsimp only
        try simp only [nI_inc, nI_1, nI_add, nI_mul2, tb_and, tb_or, tb_andn]
        exact K
      · rw [tv_neg] at hc
        have ht : f (5 * i + 3) < 4 := Classical.not_not.mp hc
        rw [if_pos ⟨hp, ht⟩] at K
        refine ev_go 80 rfl ?_
        refine ev_getf rfl hT.1 rfl rfl ?_
        refine ev_go 80 rfl ?_
        refine ev_ia _ rfl hT.2.2.2.2.1 rfl (by first | exact trivial | assumption | (show _ < _; omega)) (by omega) (by omega) rfl ?_
        refine ev_go 80 rfl ?_
        try dsimp only
        try simp only [nI_inc, nI_1, nI_add, nI_mul2, tb_and, tb_or, tb_andn]
        rw [tv_lt ht, tb_sh1 _ (by omega), tb_or]
        exact K
  · refine ev_nop rfl ?_
    refine ev_go 80 rfl ?_
    refine ev_getf rfl hT.1 rfl rfl ?_
    refine ev_igeT rfl (nI_le (Nat.le_refl _) (by first | omega | decide)) ?_
    refine ev_go 80 rfl ?_
    exact ev_iret rfl
theorem c_chanceOf (hT : TA h a n f) (g : GD n f) {x s : Nat} (hx : x < 2 ^ 31) (hs : s < 2 ^ 31) (hd : 4 ≤ d) : ev_V scr d cd_X4_chanceOf 0 [.ref a, .int (nI x), .int (nI s), .float 0, .float 0, .float 0, .float 0] [] h (some (.long (lN (pd (cf n f x s) n))), h) := by
  have hn := g.1
  refine ev_go 80 rfl ?_
  refine ev_loop n (fun i => ev_V scr d cd_X4_chanceOf 4 [.ref a, .int (nI x), .int (nI s), .long (lN (pd (cf n f x s) i)), .double 0, .int (nI i), .float 0] [] h _) (fun i hi K => ?_) ?_
  · refine ev_nop rfl ?_
    refine ev_go 80 rfl ?_
    refine ev_getf rfl hT.1 rfl rfl ?_
    refine ev_igeF rfl (nI_ge hi (by first | omega | decide)) ?_
    refine ev_go 80 rfl ?_
    refine ev_cs rfl rfl rfl (d' := 0) (by omega) (c_bitOf hx (by omega)) ?_
    rw [pd] at K
    refine ev_zeq rfl (fun hc => ?_) (fun hc => ?_)
    · rw [tb_b0] at hc
      rw [cf, if_neg (by rw [hc]; decide), Nat.mul_one] at K
      refine ev_go 80 rfl ?_
      try dsimp only
      try simp only [nI_inc, nI_1, nI_add, nI_mul2, tb_and, tb_or, tb_andn]
      exact K
    · have hp : x.testBit i = true := by simpa [tb_b0] using hc
      have hol := od_le n f i
      refine ev_go 80 rfl ?_
      refine ev_cv rfl rfl rfl rfl hT.1 rfl (d' := 3) (by omega) (c_oddsInTen hT g hi (Nat.le_refl _)) ?_
      refine ev_go 80 rfl ?_
      refine ev_cs rfl rfl rfl (d' := 0) (by omega) (c_bitOf hs (by omega)) ?_
      refine ev_zeq rfl (fun hc => ?_) (fun hc => ?_)
      · rw [tb_b0] at hc
        rw [cf, if_pos hp, if_neg (by rw [hc]; decide)] at K
        refine ev_go 80 rfl ?_
        dsimp only
        rw [show (10 : Int32) = nI 10 from rfl, pk_sub (by omega), nI_l (by omega), lN_mul, nI_inc]
        exact ev_weak (K) (by repeat (first | exact W_n | refine W_e ?_ | refine W_i ?_ | refine W_r ?_))
      · have hq : s.testBit i = true := by simpa [tb_b0] using hc
        rw [cf, if_pos hp, if_pos hq] at K
        refine ev_go 80 rfl ?_
        dsimp only
        rw [nI_l (by omega), lN_mul, nI_inc]
        exact ev_weak (K) (by repeat (first | exact W_n | refine W_e ?_ | refine W_i ?_ | refine W_r ?_))
  · refine ev_nop rfl ?_
    refine ev_go 80 rfl ?_
    refine ev_getf rfl hT.1 rfl rfl ?_
    refine ev_igeT rfl (nI_le (Nat.le_refl _) (by first | omega | decide)) ?_
    refine ev_go 80 rfl ?_
    exact ev_lret rfl
theorem c_mayDoWrong (hT : TA h a n f) (g : GD n f) {w : Int32} (hd : 1 ≤ d) : ev_V scr d cd_X4_mayDoWrong 0 [.ref a, .int w] [] h (some (.int (nI (tb_b (mdw n f w)))), h) := by
  have hn := g.1
  obtain ⟨j, hj, rfl⟩ := nI_any w
  refine ev_go 80 rfl ?_
  refine ev_cv rfl rfl rfl rfl hT.1 rfl (d' := 0) (by omega) (c_allMen hT hn) ?_
  refine ev_go 80 rfl ?_
  refine ev_cv rfl rfl rfl rfl hT.1 rfl (d' := 0) (by omega) (c_menOfKind (k := 2) hT hn (by decide) (fun j hj => (g.2.1 j hj).1)) ?_
  refine ev_go 80 rfl ?_
  try dsimp only
  try simp only [nI_inc, nI_1, nI_add, nI_mul2, tb_and, tb_or, tb_andn]
  have e := mdw_wo (n := n) (f := f) hn hj
  unfold sa at e
  refine ev_zne rfl (fun hc => ?_) (fun hc => ?_)
  · have hb : mdw n f (nI j) = false := by
      cases c : mdw n f (nI j)
      · rfl
      · exact absurd (e.mpr c) hc
    rw [hb]
    refine ev_go 80 rfl ?_
    exact ev_tret rfl rfl
  · rw [e.mp hc]
    refine ev_go 80 rfl ?_
    exact ev_tret rfl rfl
theorem c_whyBad (hT : TA h a n f) (hn : n ≤ 8) {m t : Int32} (hb : (isM n m && isM 4 t) = false) (hd : 1 ≤ d) : ev_V scr d cd_X4_whyNoSeat 0 [.ref a, .int m, .int t] [] h (some (.int (-1)), h) := by
  refine ev_go 80 rfl ?_
  refine ev_cv rfl rfl rfl rfl hT.1 rfl (d' := 0) (by omega) (c_hasMan hT hn) ?_
  refine ev_zeq rfl (fun hc => ?_) (fun hc => ?_)
  · refine ev_go 80 rfl ?_
    exact ev_iret rfl
  · have hm : isM n m = true := by simpa [tb_b0] using hc
    rw [hm, Bool.true_and] at hb
    refine ev_go 80 rfl ?_
    refine ev_cs rfl rfl rfl (d' := 0) (by omega) (c_isTen) ?_
    rw [hb]
    refine ev_zneF rfl (by decide) ?_
    refine ev_go 80 rfl ?_
    exact ev_iret rfl
theorem c_whyNoSeat (hT : TA h a n f) (g : GD n f) {i t : Nat} (hi : i < n) (ht : t < 4) (hd : 2 ≤ d) : ev_V scr d cd_X4_whyNoSeat 0 [.ref a, .int (nI i), .int (nI t)] [] h (some (.int (wns n f i t)), h) := by
  have hn := g.1
  have hz : pc8 (bs (fun m => decide (f (5 * m + 3) = t)) n) ≤ 8 := pc8_le _
  have hmo := (g.2.2.2.2.2.2.2.2.2 t ht).2
  refine ev_go 80 rfl ?_
  refine ev_cv rfl rfl rfl rfl hT.1 rfl (d' := 0) (by omega) (c_hasMan hT hn) ?_
  rw [isM_nI hi (by omega)]
  refine ev_zeqF rfl (by decide) ?_
  refine ev_go 80 rfl ?_
  refine ev_cs rfl rfl rfl (d' := 0) (by omega) (c_isTen) ?_
  rw [isM_nI ht (by omega)]
  refine ev_zneT rfl (by decide) ?_
  refine ev_go 80 rfl ?_
  refine ev_getf rfl hT.1 rfl rfl ?_
  refine ev_go 80 rfl ?_
  refine ev_ia _ rfl hT.2.2.2.2.1 rfl (by first | exact trivial | assumption | (show _ < _; omega)) (by omega) (by omega) rfl ?_
  refine ev_go 80 rfl ?_
  refine ev_ieq rfl (fun hc => ?_) (fun hc => ?_)
  · rw [tv_eq ht] at hc
    rw [wns, if_neg (fun q => q.1 hc)]
    refine ev_go 80 rfl ?_
    exact ev_iret rfl
  · rw [tv_eq ht] at hc
    refine ev_go 80 rfl ?_
    refine ev_cv rfl rfl rfl rfl hT.1 rfl (d' := 1) (by omega) (c_sizeOfTen hT hn ht (Nat.le_refl _)) ?_
    refine ev_go 80 rfl ?_
    refine ev_getf rfl hT.1 rfl rfl ?_
    refine ev_go 80 rfl ?_
    refine ev_ia _ rfl hT.2.2.2.2.2.2.1 rfl (by first | exact trivial | assumption | (show _ < _; omega)) (by omega) (by omega) rfl ?_
    refine ev_ilt rfl (fun hk => ?_) (fun hk => ?_)
    · rw [wns, if_neg (fun q => absurd ((nI_ltI (by omega) (by omega)).mp hk) (Nat.not_lt.mpr q.2))]
      refine ev_go 80 rfl ?_
      exact ev_iret rfl
    · rw [wns, if_pos ⟨hc, Nat.le_of_not_lt (fun q => hk ((nI_ltI (by omega) (by omega)).mpr q))⟩]
      refine ev_go 80 rfl ?_
      exact ev_iret rfl
theorem c_tenthsOf {x : Nat} (hx : x < 256) (hd : 1 ≤ d) : ev_V scr d cd_X5_tenthsOf 0 [.int (nI x), .float 0, .float 0, .float 0] [] h (some (.long (lN (10 ^ pc8 x))), h) := by
  have h8 := pc8_le x
  refine ev_go 80 rfl ?_
  refine ev_cs rfl rfl rfl (d' := 0) (by omega) (c_bitCount hx) ?_
  refine ev_go 80 rfl ?_
  generalize pc8 x = c at *
  have key : ev_V scr d cd_X5_tenthsOf 5 [.int (nI x), .long (lN (10 ^ (c - c))), .double 0, .int (nI c)] [] h (some (.long (lN (10 ^ c))), h) := by
    refine ev_down c (fun i => i ≤ c → ev_V scr d cd_X5_tenthsOf 5 [.int (nI x), .long (lN (10 ^ (c - i))), .double 0, .int (nI i)] [] h _) (fun i hi K hic => ?_) (fun _ => ?_) (Nat.le_refl c)
    · refine ev_nop rfl ?_
      refine ev_go 80 rfl ?_
      refine ev_zleF rfl (nI_nle (by omega) (by omega)) ?_
      refine ev_go 80 rfl ?_
      have e : lN (10 ^ (c - (i + 1))) * 10 = lN (10 ^ (c - i)) := by
        rw [show (10 : Int64) = lN 10 from rfl, lN_mul, show c - i = (c - (i + 1)) + 1 by omega, Nat.pow_succ]
      have e2 : ev_inc (-1) (nI (i + 1)) = nI i := pk_m1 i
      dsimp only
      rw [e, e2]
      exact K (by omega)
    · refine ev_nop rfl ?_
      refine ev_go 80 rfl ?_
      refine ev_zleT rfl (by decide) ?_
      refine ev_go 80 rfl ?_
      exact ev_lret rfl
  rw [Nat.sub_self] at key
  exact key
theorem gcd_step {x y : Nat} (hy : 0 < y) : Nat.gcd y (x % y) = Nat.gcd x y := by
  rw [Nat.gcd_comm x y, Nat.gcd_rec y x, Nat.gcd_comm]
theorem gcd_dec {x y i : Nat} (hy : 0 < y) (hx : x < 2 ^ 63) (hy2 : y < 2 ^ 63) (hc : i = 0 ∨ (y < x ∧ x * y * 2 ^ (i - 1) < 2 ^ 126)) : x % y < y ∧ y * (x % y) * 2 ^ (i + 1 - 1) < 2 ^ 126 := by
  have h1 := Nat.mod_lt x hy
  refine ⟨h1, ?_⟩
  rw [Nat.add_sub_cancel]
  have h0 : y * (x % y) < 2 ^ 126 := by
    have a1 : y * (x % y) ≤ y * 2 ^ 63 := Nat.mul_le_mul_left _ (Nat.le_of_lt (Nat.lt_trans h1 hy2))
    have a2 : y * 2 ^ 63 < 2 ^ 63 * 2 ^ 63 := (Nat.mul_lt_mul_right (by decide)).mpr hy2
    have a3 : (2 : Nat) ^ 63 * 2 ^ 63 = 2 ^ 126 := by decide
    omega
  rcases hc with rfl | ⟨c1, c2⟩
  · rw [Nat.pow_zero, Nat.mul_one]
    exact h0
  · cases i with
    | zero =>
      rw [Nat.pow_zero, Nat.mul_one]
      exact h0
    | succ i =>
      rw [Nat.add_sub_cancel] at c2
      refine Nat.lt_of_le_of_lt ?_ c2
      have h2 : 2 * (x % y) ≤ x := by
        have := Nat.div_add_mod x y
        have hq : 1 ≤ x / y := (Nat.one_le_div_iff hy).mpr (Nat.le_of_lt c1)
        have := Nat.mul_le_mul_left y hq
        omega
      calc y * (x % y) * 2 ^ (i + 1) = y * (2 * (x % y)) * 2 ^ i := by rw [Nat.pow_succ]; ac_rfl
        _ ≤ y * x * 2 ^ i := Nat.mul_le_mul_right _ (Nat.mul_le_mul_left _ h2)
        _ = x * y * 2 ^ i := by rw [Nat.mul_comm y x]
theorem gcd_end {x y : Nat} (hc : (200 : Nat) = 0 ∨ (y < x ∧ x * y * 2 ^ (200 - 1) < 2 ^ 126)) : y = 0 := by
  rcases hc with c | ⟨c1, c2⟩
  · exact absurd c (by decide)
  · apply Classical.byContradiction
    intro hy
    have h1 : 1 ≤ x * y := Nat.mul_pos (by omega) (by omega)
    have h2 := Nat.mul_le_mul_right (2 ^ 199) h1
    have h3 : (2 : Nat) ^ 126 ≤ 2 ^ 199 := Nat.pow_le_pow_right (by decide) (by decide)
    have h4 : x * y * 2 ^ 199 < 2 ^ 126 := c2
    omega
theorem c_greatestCommon {p q : Nat} (hp : p < 2 ^ 63) (hq : q < 2 ^ 63) : ev_V scr d cd_X5_greatestCommon 0 [.long (lN p), .double 0, .long (lN q), .double 0, .float 0, .float 0, .float 0, .float 0, .float 0, .float 0, .float 0] [] h (some (.long (lN (Nat.gcd p q))), h) := by
  refine ev_go 80 rfl ?_
  refine ev_loop 200 (fun i => ∀ x y tl, (tl = [.float 0, .float 0] ∨ ∃ r, tl = [.long r, .double 0]) → x < 2 ^ 63 → y < 2 ^ 63 → Nat.gcd x y = Nat.gcd p q → (i = 0 ∨ (y < x ∧ x * y * 2 ^ (i - 1) < 2 ^ 126)) → ev_V scr d cd_X5_greatestCommon 6 (.long (lN p) :: .double 0 :: .long (lN q) :: .double 0 :: .long (lN x) :: .double 0 :: .long (lN y) :: .double 0 :: .int (nI i) :: tl) [] h (some (.long (lN (Nat.gcd p q))), h)) (fun i hi K x y tl ht hx hy hg hc => ?_) (fun x y tl ht hx hy hg hc => ?_) p q _ (Or.inl rfl) hp hq rfl (Or.inl rfl)
  · refine ev_nop rfl ?_
    refine ev_go 80 rfl ?_
    refine ev_igeF rfl (nI_ge hi (by decide)) ?_
    have ez : lg_cmp (lN y) 0 = 0 ↔ y = 0 := by
      rw [lg_cmp_eq, show (0 : Int64) = lN 0 from rfl, pk_lEQ hy (by decide)]
    rcases ht with rfl | ⟨r, rfl⟩
    · skip
      refine ev_go 80 rfl ?_
      try dsimp only
      try simp only [nI_inc, nI_1, nI_add, nI_mul2, tb_and, tb_or, tb_andn]
      refine ev_zeq rfl (fun hz => ?_) (fun hz => ?_)
      · rw [ez] at hz
        rw [← hg, hz, Nat.gcd_zero_right]
        refine ev_go 80 rfl ?_
        exact ev_lret rfl
      · rw [ez] at hz
        refine ev_go 80 rfl ?_
        refine ev_lrem (v := lN (x % y)) rfl (fun q => hz ((pk_lEQ hy (by decide)).mp q)) (pk_lRem hx (by omega) hy) ?_
        refine ev_go 80 rfl ?_
        rw [nI_inc]
        obtain ⟨d1, d2⟩ := gcd_dec (by omega) hx hy hc
        exact K y (x % y) _ (Or.inr ⟨_, rfl⟩) hy (by omega) (by rw [gcd_step (by omega), hg]) (Or.inr ⟨d1, d2⟩)
    · skip
      refine ev_go 80 rfl ?_
      try dsimp only
      try simp only [nI_inc, nI_1, nI_add, nI_mul2, tb_and, tb_or, tb_andn]
      refine ev_zeq rfl (fun hz => ?_) (fun hz => ?_)
      · rw [ez] at hz
        rw [← hg, hz, Nat.gcd_zero_right]
        refine ev_go 80 rfl ?_
        exact ev_lret rfl
      · rw [ez] at hz
        refine ev_go 80 rfl ?_
        refine ev_lrem (v := lN (x % y)) rfl (fun q => hz ((pk_lEQ hy (by decide)).mp q)) (pk_lRem hx (by omega) hy) ?_
        refine ev_go 80 rfl ?_
        rw [nI_inc]
        obtain ⟨d1, d2⟩ := gcd_dec (by omega) hx hy hc
        exact K y (x % y) _ (Or.inr ⟨_, rfl⟩) hy (by omega) (by rw [gcd_step (by omega), hg]) (Or.inr ⟨d1, d2⟩)
  · have hy0 := gcd_end hc
    rw [hy0, Nat.gcd_zero_right] at hg
    refine ev_nop rfl ?_
    refine ev_go 80 rfl ?_
    refine ev_igeT rfl (nI_le (Nat.le_refl 200) (by decide)) ?_
    rw [← hg]
    refine ev_go 80 rfl ?_
    exact ev_lret rfl
def low (p q w : Nat) : Nat := if w = 0 then p / Nat.gcd p q else q / Nat.gcd p q
theorem c_inLowestTerms {p q w : Nat} (hp : p < 2 ^ 63) (hq : q < 2 ^ 63) (hq0 : 0 < q) (hw : w < 2) (hd : 1 ≤ d) : ev_V scr d cd_X5_inLowestTerms 0 [.long (lN p), .double 0, .long (lN q), .double 0, .int (nI w), .float 0, .float 0] [] h (some (.long (lN (low p q w))), h) := by
  have hg0 : 0 < Nat.gcd p q := Nat.gcd_pos_of_pos_right _ hq0
  have hgl : Nat.gcd p q < 2 ^ 63 := Nat.lt_of_le_of_lt (Nat.gcd_le_right _ hq0) hq
  have hgz : ¬ lN (Nat.gcd p q) = 0 := fun c => by
    have := (pk_lEQ (b := 0) hgl (by decide)).mp c
    omega
  refine ev_go 80 rfl ?_
  refine ev_cs rfl rfl rfl (d' := 0) (by omega) (c_greatestCommon hp hq) ?_
  refine ev_go 80 rfl ?_
  try dsimp only
  try simp only [nI_inc, nI_1, nI_add, nI_mul2, tb_and, tb_or, tb_andn]
  refine ev_zgtT rfl ((lg_cmp_gt _ _).mpr ((pk_lLT (a := 0) (by decide) hgl).mpr hg0)) ?_
  unfold low
  refine ev_go 80 rfl ?_
  refine ev_zne rfl (fun hc => ?_) (fun hc => ?_)
  · rw [if_neg (fun c => hc (by rw [c]; rfl))]
    refine ev_go 80 rfl ?_
    refine ev_ldiv (v := lN (q / Nat.gcd p q)) rfl (hgz) (pk_lDiv hq hg0 hgl) ?_
    exact ev_lret rfl
  · rw [if_pos ((nI_eq (b := 0) (by omega) (by decide)).mp hc)]
    refine ev_go 80 rfl ?_
    refine ev_ldiv (v := lN (p / Nat.gcd p q)) rfl (hgz) (pk_lDiv hp hg0 hgl) ?_
    refine ev_go 80 rfl ?_
    exact ev_lret rfl
theorem c_common {p q : Nat} (hp : p < 2 ^ 63) (hq : q < 2 ^ 63) : ev_V scr d cd_X6_common 0 [.long (lN p), .double 0, .long (lN q), .double 0, .float 0, .float 0, .float 0, .float 0, .float 0, .float 0] [] h (some (.long (lN (Nat.gcd p q))), h) := by
  refine ev_go 80 rfl ?_
  refine ev_loop 200 (fun i => ∀ x y tl, (tl = [.float 0, .float 0] ∨ ∃ r, tl = [.long r, .double 0]) → x < 2 ^ 63 → y < 2 ^ 63 → Nat.gcd x y = Nat.gcd p q → (i = 0 ∨ (y < x ∧ x * y * 2 ^ (i - 1) < 2 ^ 126)) → ev_V scr d cd_X6_common 4 (.long (lN p) :: .double 0 :: .long (lN q) :: .double 0 :: .long (lN x) :: .double 0 :: .long (lN y) :: .double 0 :: tl) [] h (some (.long (lN (Nat.gcd p q))), h)) (fun i hi K x y tl ht hx hy hg hc => ?_) (fun x y tl ht hx hy hg hc => ?_) p q _ (Or.inl rfl) hp hq rfl (Or.inl rfl)
  · refine ev_nop rfl ?_
    have ez : lg_cmp (lN y) 0 = 0 ↔ y = 0 := by
      rw [lg_cmp_eq, show (0 : Int64) = lN 0 from rfl, pk_lEQ hy (by decide)]
    rcases ht with rfl | ⟨r, rfl⟩
    · skip
      refine ev_go 80 rfl ?_
      try dsimp only
      try simp only [nI_inc, nI_1, nI_add, nI_mul2, tb_and, tb_or, tb_andn, nI_x5, nI_x2, nI_p0, nI_p2, nI_p3, nI_p4, nI_q45]
      refine ev_zeq rfl (fun hz => ?_) (fun hz => ?_)
      · rw [ez] at hz
        rw [← hg, hz, Nat.gcd_zero_right]
        refine ev_go 80 rfl ?_
        exact ev_lret rfl
      · rw [ez] at hz
        refine ev_go 80 rfl ?_
        refine ev_lrem (v := lN (x % y)) rfl (fun q => hz ((pk_lEQ hy (by decide)).mp q)) (pk_lRem hx (by omega) hy) ?_
        refine ev_go 80 rfl ?_
        obtain ⟨d1, d2⟩ := gcd_dec (by omega) hx hy hc
        exact K y (x % y) _ (Or.inr ⟨_, rfl⟩) hy (by omega) (by rw [gcd_step (by omega), hg]) (Or.inr ⟨d1, d2⟩)
    · skip
      refine ev_go 80 rfl ?_
      try dsimp only
      try simp only [nI_inc, nI_1, nI_add, nI_mul2, tb_and, tb_or, tb_andn, nI_x5, nI_x2, nI_p0, nI_p2, nI_p3, nI_p4, nI_q45]
      refine ev_zeq rfl (fun hz => ?_) (fun hz => ?_)
      · rw [ez] at hz
        rw [← hg, hz, Nat.gcd_zero_right]
        refine ev_go 80 rfl ?_
        exact ev_lret rfl
      · rw [ez] at hz
        refine ev_go 80 rfl ?_
        refine ev_lrem (v := lN (x % y)) rfl (fun q => hz ((pk_lEQ hy (by decide)).mp q)) (pk_lRem hx (by omega) hy) ?_
        refine ev_go 80 rfl ?_
        obtain ⟨d1, d2⟩ := gcd_dec (by omega) hx hy hc
        exact K y (x % y) _ (Or.inr ⟨_, rfl⟩) hy (by omega) (by rw [gcd_step (by omega), hg]) (Or.inr ⟨d1, d2⟩)
  · have hy0 := gcd_end hc
    have ez : lg_cmp (lN y) 0 = 0 := by
      rw [lg_cmp_eq, hy0]
      rfl
    rw [hy0, Nat.gcd_zero_right] at hg
    refine ev_nop rfl ?_
    refine ev_go 80 rfl ?_
    try dsimp only
    try simp only [nI_inc, nI_1, nI_add, nI_mul2, tb_and, tb_or, tb_andn, nI_x5, nI_x2, nI_p0, nI_p2, nI_p3, nI_p4, nI_q45]
    refine ev_zeqT rfl (ez) ?_
    rw [← hg]
    refine ev_go 80 rfl ?_
    exact ev_lret rfl
theorem c_told {p q w : Nat} (hp : p < 2 ^ 63) (hq : q < 2 ^ 63) (hq0 : 0 < q) (hw : w < 2) (hd : 1 ≤ d) : ev_V scr d cd_X6_told 0 [.long (lN p), .double 0, .long (lN q), .double 0, .int (nI w), .float 0, .float 0] [] h (some (.long (lN (low p q w))), h) := by
  have hg0 : 0 < Nat.gcd p q := Nat.gcd_pos_of_pos_right _ hq0
  have hgl : Nat.gcd p q < 2 ^ 63 := Nat.lt_of_le_of_lt (Nat.gcd_le_right _ hq0) hq
  have hgz : ¬ lN (Nat.gcd p q) = 0 := fun c => by
    have := (pk_lEQ (b := 0) hgl (by decide)).mp c
    omega
  refine ev_go 80 rfl ?_
  refine ev_cs rfl rfl rfl (d' := 0) (by omega) (c_common hq hp) ?_
  refine ev_go 80 rfl ?_
  rw [Nat.gcd_comm q p]
  unfold low
  refine ev_zne rfl (fun hc => ?_) (fun hc => ?_)
  · rw [if_neg (fun c => hc (by rw [c]; rfl))]
    refine ev_go 80 rfl ?_
    refine ev_ldiv (v := lN (q / Nat.gcd p q)) rfl (hgz) (pk_lDiv hq hg0 hgl) ?_
    exact ev_lret rfl
  · rw [if_pos ((nI_eq (b := 0) (by omega) (by decide)).mp hc)]
    refine ev_go 80 rfl ?_
    refine ev_ldiv (v := lN (p / Nat.gcd p q)) rfl (hgz) (pk_lDiv hp hg0 hgl) ?_
    refine ev_go 80 rfl ?_
    exact ev_lret rfl
end REST
