/-! The town, as a picture: n men, and f laid out by fives. -/
def tv (t : Nat) : Int32 := if t < 4 then nI t else -4
theorem tv_eq {x t : Nat} (ht : t < 4) : tv x = nI t ↔ x = t := by
  unfold tv
  by_cases hx : x < 4
  · rw [if_pos hx, nI_eq (by omega) (by omega)]
  · rw [if_neg hx]
    constructor
    · intro q
      have : ∀ t, t < 4 → (-4 : Int32) ≠ nI t := by decide
      exact absurd q (this t ht)
    · intro q; omega
theorem tv_lt {t : Nat} (ht : t < 4) : tv t = nI t := if_pos ht
theorem tv_neg (t : Nat) : tv t < 0 ↔ ¬ t < 4 := by
  unfold tv
  by_cases ht : t < 4
  · rw [if_pos ht]
    exact ⟨fun q => absurd q (nI_pos (by omega)), fun q => absurd ht q⟩
  · rw [if_neg ht]
    exact ⟨fun _ => ht, fun _ => by decide⟩
theorem tv_inj {x y : Nat} (hx : x ≤ 4) (hy : y ≤ 4) : tv x = tv y ↔ x = y := by
  have : ∀ x, x < 5 → ∀ y, y < 5 → (tv x = tv y ↔ x = y) := by decide
  exact this x (by omega) y (by omega)
theorem tv_m4 {x : Nat} (hx : x ≤ 4) : tv x = -4 ↔ x = 4 := by
  have : ∀ x, x < 5 → (tv x = -4 ↔ x = 4) := by decide
  exact this x (by omega)
def TA (h : ev_H) (a n : Nat) (f : Nat → Nat) : Prop :=
  h[a]? = some (.inr (4, [.int (nI n), .int (nI (f 41)), .int (nI (f 42)), .int (nI (f 43)), .int (nI (f 40)), .int (nI (f 44)), .ref (a + 1), .ref (a + 2), .ref (a + 3), .ref (a + 4), .ref (a + 5), .ref (a + 6), .ref (a + 7), .ref (a + 8)])) ∧
  IA h (a + 1) 8 (fun m => m < n) (fun m => nI (f (5 * m))) ∧
  IA h (a + 2) 8 (fun m => m < n) (fun m => nI (f (5 * m + 1))) ∧
  IA h (a + 3) 8 (fun m => m < n) (fun m => nI (f (5 * m + 2))) ∧
  IA h (a + 4) 8 (fun m => m < n) (fun m => tv (f (5 * m + 3))) ∧
  IA h (a + 5) 8 (fun _ => True) (fun m => nI (f (5 * m + 4))) ∧
  IA h (a + 6) 4 (fun _ => True) (fun t => nI (f (60 + t))) ∧
  IA h (a + 7) 6 (fun k => k < f 44) (fun k => nI (f (45 + 2 * k))) ∧
  IA h (a + 8) 6 (fun k => k < f 44) (fun k => nI (f (46 + 2 * k)))
/-- is it the number of a man -/
def isM (n : Nat) (m : Int32) : Bool := decide (0 ≤ m.toInt) && decide (m.toInt < n)
theorem isM_of {n : Nat} {m : Int32} (h : isM n m = true) (hn : n < 2 ^ 31) : ∃ j, j < n ∧ m = nI j := by
  simp only [isM, Bool.and_eq_true, decide_eq_true_eq] at h
  exact vp_in_of (vp_in_iff.mpr h) hn
theorem isM_nI {n j : Nat} (h : j < n) (hn : n < 2 ^ 31) : isM n (nI j) = true := by
  simp only [isM, Bool.and_eq_true, decide_eq_true_eq, nI_toInt (show j < 2 ^ 31 by omega)]
  omega
theorem isM_lo {n : Nat} {m : Int32} (h : m < 0) : isM n m = false := by
  have : m.toInt < 0 := by simpa using Int32.lt_iff_toInt_lt.mp h
  simp only [isM, Bool.and_eq_false_iff, decide_eq_false_iff_not]
  left; omega
theorem isM_hi {n : Nat} {m : Int32} (hn : n < 2 ^ 31) (h : nI n ≤ m) : isM n m = false := by
  have := Int32.le_iff_toInt_le.mp h
  rw [nI_toInt hn] at this
  simp only [isM, Bool.and_eq_false_iff, decide_eq_false_iff_not]
  right; omega
theorem isM_in {n : Nat} {m : Int32} (hn : n < 2 ^ 31) (h0 : ¬ m < 0) (h : ¬ nI n ≤ m) : isM n m = true := by
  have h1 : ¬ m.toInt < 0 := fun q => h0 (by rw [Int32.lt_iff_toInt_lt]; simpa using q)
  have h2 : ¬ (n : Int) ≤ m.toInt := fun q => h (by rw [Int32.le_iff_toInt_le, nI_toInt hn]; exact q)
  simp only [isM, Bool.and_eq_true, decide_eq_true_eq]
  omega
section TOWN
variable {scr : List Int32} {d : Nat} {h : ev_H} {a n : Nat} {f : Nat → Nat}
theorem c_bitOf {x i : Nat} (hx : x < 2 ^ 31) (hi : i < 31) : ev_V scr d cd_X5_bitOf 0 [.int (nI x), .int (nI i)] [] h (some (.int (nI (tb_b (x.testBit i)))), h) := by
  refine ev_go 80 rfl ?_
  rw [← tb_bit hx i hi]
  exact ev_iret rfl
theorem c_withBit {x i : Nat} (b : Bool) (hi : i < 31) : ev_V scr d cd_X5_withBit 0 [.int (nI x), .int (nI i), .int (nI (tb_b b))] [] h (some (.int (nI (if b = true then x ||| 2 ^ i else tb_wo x (2 ^ i)))), h) := by
  refine ev_go 80 rfl ?_
  refine ev_zeq rfl (fun hc => ?_) (fun hc => ?_)
  · refine ev_go 80 rfl ?_
    dsimp only
    rw [tb_b0] at hc
    rw [hc, tb_sh1 i hi, tb_andn]
    exact ev_iret rfl
  · refine ev_go 80 rfl ?_
    dsimp only
    have hc : b = true := by
      cases b
      · exact absurd ((tb_b0 false).mpr rfl) hc
      · rfl
    rw [hc, tb_sh1 i hi, tb_or]
    exact ev_iret rfl
theorem c_isTen {t : Int32} : ev_V scr d cd_X5_isTen 0 [.int t] [] h (some (.int (nI (tb_b (isM 4 t)))), h) := by
  refine ev_go 80 rfl ?_
  refine ev_zlt rfl (fun hc => ?_) (fun hc => ?_)
  · refine ev_go 80 rfl ?_
    rw [isM_lo hc]
    exact ev_tret rfl rfl
  · have h0 := hc
    refine ev_go 80 rfl ?_
    refine ev_ige rfl (fun hc => ?_) (fun hc => ?_)
    · refine ev_go 80 rfl ?_
      rw [isM_hi (by decide) hc]
      exact ev_tret rfl rfl
    · refine ev_go 80 rfl ?_
      rw [isM_in (by decide) h0 hc]
      exact ev_tret rfl rfl
theorem c_isWithin {v : Int32} {k : Nat} (hk : k < 1000) : ev_V scr d cd_X5_isWithin 0 [.int v, .int (nI k)] [] h (some (.int (nI (tb_b (isM (k + 1) v)))), h) := by
  refine ev_go 80 rfl ?_
  refine ev_zlt rfl (fun hc => ?_) (fun hc => ?_)
  · refine ev_go 80 rfl ?_
    rw [isM_lo hc]
    exact ev_tret rfl rfl
  · have h0 := hc
    refine ev_go 80 rfl ?_
    refine ev_igt rfl (fun hc => ?_) (fun hc => ?_)
    · refine ev_go 80 rfl ?_
      rw [isM_hi (by omega) (by
        rw [Int32.le_iff_toInt_le, nI_toInt (by omega)]
        have := Int32.lt_iff_toInt_lt.mp hc
        rw [nI_toInt (by omega)] at this
        omega)]
      exact ev_tret rfl rfl
    · refine ev_go 80 rfl ?_
      rw [isM_in (by omega) h0 (fun q => hc (by
        rw [Int32.lt_iff_toInt_lt, nI_toInt (by omega)]
        have := Int32.le_iff_toInt_le.mp q
        rw [nI_toInt (by omega)] at this
        omega))]
      exact ev_tret rfl rfl
theorem c_hasMan (hT : TA h a n f) (hn : n ≤ 8) {m : Int32} : ev_V scr d cd_X4_hasMan 0 [.ref a, .int m] [] h (some (.int (nI (tb_b (isM n m)))), h) := by
  obtain ⟨hO, -⟩ := hT
  refine ev_go 80 rfl ?_
  refine ev_zlt rfl (fun hc => ?_) (fun hc => ?_)
  · refine ev_go 80 rfl ?_
    rw [isM_lo hc]
    exact ev_tret rfl rfl
  · have h0 := hc
    refine ev_go 80 rfl ?_
    refine ev_getf rfl hO rfl rfl ?_
    refine ev_ige rfl (fun hc => ?_) (fun hc => ?_)
    · refine ev_go 80 rfl ?_
      rw [isM_hi (by omega) hc]
      exact ev_tret rfl rfl
    · refine ev_go 80 rfl ?_
      rw [isM_in (by omega) h0 hc]
      exact ev_tret rfl rfl
theorem c_allMen (hT : TA h a n f) (hn : n ≤ 8) : ev_V scr d cd_X4_allMen 0 [.ref a] [] h (some (.int (nI (2 ^ n - 1))), h) := by
  obtain ⟨hO, -⟩ := hT
  refine ev_go 80 rfl ?_
  refine ev_getf rfl hO rfl rfl ?_
  refine ev_go 80 rfl ?_
  dsimp only
  rw [tb_sh1 n (by omega), show (1 : Int32) = nI 1 from rfl, pk_sub Nat.one_le_two_pow]
  exact ev_iret rfl
theorem c_menOfKind (hT : TA h a n f) (hn : n ≤ 8) {k : Nat} (hk : k < 4) (hf : ∀ m, m < n → f (5 * m) ≤ 3) : ev_V scr d cd_X4_menOfKind 0 [.ref a, .int (nI k), .float 0, .float 0] [] h (some (.int (nI (bs (fun m => decide (f (5 * m) = k)) n))), h) := by
  obtain ⟨hO, hK, -⟩ := hT
  refine ev_go 80 rfl ?_
  refine ev_loop n (fun i => ev_V scr d cd_X4_menOfKind 4 [.ref a, .int (nI k), .int (nI (bs (fun m => decide (f (5 * m) = k)) i)), .int (nI i)] [] h _) (fun i hi K => ?_) ?_
  · refine ev_nop rfl ?_
    refine ev_go 80 rfl ?_
    refine ev_getf rfl hO rfl rfl ?_
    refine ev_ige rfl (fun hc => ?_) (fun hc => ?_)
    · exact absurd hc (nI_ge hi (by omega))
    · refine ev_go 80 rfl ?_
      refine ev_getf rfl hO rfl rfl ?_
      refine ev_go 80 rfl ?_
      refine ev_ia (i) rfl hK rfl hi (by omega) (by omega) rfl ?_
      refine ev_go 80 rfl ?_
      refine ev_ine rfl (fun hc => ?_) (fun hc => ?_)
      · refine ev_go 80 rfl ?_
        rw [nI_inc]
        have hp : decide (f (5 * i) = k) = false := decide_eq_false (fun q => hc (by rw [q]))
        rw [bs_stay _ hp] at K
        exact K
      · refine ev_go 80 rfl ?_
        dsimp only
        have hp : decide (f (5 * i) = k) = true := decide_eq_true ((nI_eq (by have := hf i hi; omega) (by omega)).mp hc)
        rw [nI_inc, bs_step (fun m => decide (f (5 * m) = k)) (by omega) hp]
        exact K
  · refine ev_nop rfl ?_
    refine ev_go 80 rfl ?_
    refine ev_getf rfl hO rfl rfl ?_
    refine ev_ige rfl (fun hc => ?_) (fun hc => ?_)
    · refine ev_go 80 rfl ?_
      exact ev_iret rfl
    · exact absurd (nI_le (Nat.le_refl n) (by omega)) hc
theorem c_menOfTen (hT : TA h a n f) (hn : n ≤ 8) {t : Nat} (ht : t < 4) : ev_V scr d cd_X4_menOfTen 0 [.ref a, .int (nI t), .float 0, .float 0] [] h (some (.int (nI (bs (fun m => decide (f (5 * m + 3) = t)) n))), h) := by
  obtain ⟨hO, -, -, -, hT, -⟩ := hT
  refine ev_go 80 rfl ?_
  refine ev_loop n (fun i => ev_V scr d cd_X4_menOfTen 4 [.ref a, .int (nI t), .int (nI (bs (fun m => decide (f (5 * m + 3) = t)) i)), .int (nI i)] [] h _) (fun i hi K => ?_) ?_
  · refine ev_nop rfl ?_
    refine ev_go 80 rfl ?_
    refine ev_getf rfl hO rfl rfl ?_
    refine ev_ige rfl (fun hc => ?_) (fun hc => ?_)
    · exact absurd hc (nI_ge hi (by omega))
    · refine ev_go 80 rfl ?_
      refine ev_getf rfl hO rfl rfl ?_
      refine ev_go 80 rfl ?_
      refine ev_ia (i) rfl hT rfl hi (by omega) (by omega) rfl ?_
      refine ev_go 80 rfl ?_
      refine ev_ine rfl (fun hc => ?_) (fun hc => ?_)
      · refine ev_go 80 rfl ?_
        rw [nI_inc]
        have hp : decide (f (5 * i + 3) = t) = false := decide_eq_false (fun q => hc ((tv_eq ht).mpr q))
        rw [bs_stay _ hp] at K
        exact K
      · refine ev_go 80 rfl ?_
        dsimp only
        have hp : decide (f (5 * i + 3) = t) = true := decide_eq_true ((tv_eq ht).mp hc)
        rw [nI_inc, bs_step (fun m => decide (f (5 * m + 3) = t)) (by omega) hp]
        exact K
  · refine ev_nop rfl ?_
    refine ev_go 80 rfl ?_
    refine ev_getf rfl hO rfl rfl ?_
    refine ev_ige rfl (fun hc => ?_) (fun hc => ?_)
    · refine ev_go 80 rfl ?_
      exact ev_iret rfl
    · exact absurd (nI_le (Nat.le_refl n) (by omega)) hc
def bcI (x0 : Int32) : Int32 :=
  let x1 := x0 - ((x0.toUInt32 >>> ((1 : Int32).toUInt32 &&& Int32.toUInt32 31)).toInt32 &&& 1431655765)
  let x2 := (x1 &&& 858993459) + ((x1.toUInt32 >>> ((2 : Int32).toUInt32 &&& Int32.toUInt32 31)).toInt32 &&& 858993459)
  let x3 := (x2 + (x2.toUInt32 >>> ((4 : Int32).toUInt32 &&& Int32.toUInt32 31)).toInt32) &&& 252645135
  let x4 := x3 + (x3.toUInt32 >>> ((8 : Int32).toUInt32 &&& Int32.toUInt32 31)).toInt32
  let x5 := x4 + (x4.toUInt32 >>> ((16 : Int32).toUInt32 &&& Int32.toUInt32 31)).toInt32
  x5 &&& 63
theorem bcI_ok : ∀ x, x < 256 → bcI (nI x) = nI (pc8 x) := by decide +kernel
theorem c_bitCount {x : Nat} (hx : x < 256) : ev_V scr d cd_J6_bitCount_0f7a4 0 [.int (nI x)] [] h (some (.int (nI (pc8 x))), h) := by
  refine ev_go 80 rfl ?_
  rw [← bcI_ok x hx]
  exact ev_iret rfl
theorem c_min {x y : Int32} : ev_V scr d cd_J9_min_7cf53 0 [.int x, .int y] [] h (some (.int (if y < x then y else x)), h) := by
  refine ev_go 80 rfl ?_
  refine ev_igt rfl (fun hc => ?_) (fun hc => ?_)
  · refine ev_go 80 rfl ?_
    rw [if_pos hc]
    exact ev_iret rfl
  · refine ev_go 80 rfl ?_
    rw [if_neg hc]
    exact ev_iret rfl
theorem bs_256 (p : Nat → Bool) {n : Nat} (hn : n ≤ 8) : bs p n < 256 := Nat.lt_of_lt_of_le (bs_lt p n) (Nat.pow_le_pow_right (by decide) hn)
theorem c_sizeOfTen (hT : TA h a n f) (hn : n ≤ 8) {t : Nat} (ht : t < 4) (hd : 1 ≤ d) : ev_V scr d cd_X4_sizeOfTen 0 [.ref a, .int (nI t)] [] h (some (.int (nI (pc8 (bs (fun m => decide (f (5 * m + 3) = t)) n)))), h) := by
  refine ev_go 80 rfl ?_
  refine ev_cv rfl rfl rfl rfl hT.1 rfl (d' := 0) (by omega) (c_menOfTen hT hn ht) ?_
  refine ev_cs rfl rfl rfl (d' := 0) (by omega) (c_bitCount (bs_256 _ hn)) ?_
  refine ev_go 80 rfl ?_
  exact ev_iret rfl
end TOWN
