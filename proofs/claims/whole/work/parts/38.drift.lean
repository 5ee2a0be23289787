/-! drift. -/
def lcg (v : Int32) : Nat → Int32
  | 0 => v
  | m + 1 => lcg v m * 1103515245 + 12345
def dr (v : Int32) : Nat := v.toBitVec.toNat / 65536 % 32768
def wrp (n : Nat) (f : Nat → Nat) (v : Int32) (m : Nat) : Bool := decide (dr (lcg v (m + 1)) % 10 < od n f m)
def wrd (n : Nat) (f : Nat → Nat) (v : Int32) : Nat := bs (wrp n f v) n
def dst (n : Nat) (f : Nat → Nat) (s : Int32) : Nat → Int32 × (Nat → Nat) × Nat
  | 0 => (s, gd f, 0)
  | k + 1 => (lcg (dst n f s k).1 n, (yr n f (dst n f s k).2.1 (wrd n f (dst n f s k).1)).1, (dst n f s k).2.2 + (yr n f (dst n f s k).2.1 (wrd n f (dst n f s k).1)).2)
theorem dst_le (n : Nat) (f : Nat → Nat) (s : Int32) : ∀ k j, (dst n f s k).2.1 j ≤ gd f j
  | 0, _ => Nat.le_refl _
  | k + 1, j => Nat.le_trans (yr_le _ _ _ _ _) (dst_le n f s k j)
def isY (y : Int32) : Bool := isM 61 y && decide (y ≠ 0)
def a_drift (n : Nat) (f : Nat → Nat) (s y w : Int32) : Int32 := if (isY y && isM 2 w) = true then (if w = 0 then nI (dst n f s (ix y)).2.2 else nI (sm (gsg (wg f (dst n f s (ix y)).2.1) (2 ^ n - 1)) n)) else -1
theorem dr_and (X : Int32) : X &&& 32767 = nI (X.toBitVec.toNat % 32768) := pk_and X 15 (by decide)
theorem dr_u (v : Int32) : (v.toUInt32 >>> ((16 : Int32).toUInt32 &&& Int32.toUInt32 31)).toInt32 &&& 32767 = nI (dr v) := by
  rw [dr_and]
  congr 2
  show (v.toUInt32 >>> ((16 : Int32).toUInt32 &&& Int32.toUInt32 31)).toNat = _
  rw [show (16 : Int32).toUInt32 &&& Int32.toUInt32 31 = 16 from by decide, UInt32.toNat_shiftRight]
  show v.toBitVec.toNat >>> (16 % 32) = _
  rw [Nat.shiftRight_eq_div_pow]
theorem dr_s (v : Int32) : (v >>> ((16 : Int32) &&& 31)) &&& 32767 = nI (dr v) := by
  rw [dr_and]
  congr 1
  have h1 := pk_shr v ((16 : Int32) &&& 31) 16 (by decide)
  generalize v >>> ((16 : Int32) &&& 31) = X at *
  rw [Int.shiftRight_eq_div_pow] at h1
  have hX : X.toInt = X.toBitVec.toInt := rfl
  have hv : v.toInt = v.toBitVec.toInt := rfl
  rw [hX, hv, BitVec.toInt_eq_toNat_cond, BitVec.toInt_eq_toNat_cond] at h1
  have l1 := X.toBitVec.isLt
  have l2 := v.toBitVec.isLt
  unfold dr
  generalize X.toBitVec.toNat = a at *
  generalize v.toBitVec.toNat = b at *
  split at h1 <;> split at h1 <;> omega
theorem dr_rem {v : Int32} : nI (dr v) - nI (dr v) / 10 * 10 = nI (dr v % 10) := pk_rem (d := 10) (by unfold dr; omega) (by decide) (by decide)
theorem dr_lt (v : Int32) : dr v % 10 < 10 := Nat.mod_lt _ (by decide)
section DRIFT
variable {scr : List Int32} {d : Nat} {h : ev_H} {n : Nat} {f : Nat → Nat} {x : Nat → Int32} {q : Nat → Int32} {im : Nat → Int32}
theorem isY_of {y : Int32} (h : isY y = true) : ∃ k, 1 ≤ k ∧ k < 61 ∧ y = nI k := by
  unfold isY at h
  rw [Bool.and_eq_true, decide_eq_true_eq] at h
  obtain ⟨k, hk, rfl⟩ := isM_of h.1 (by decide)
  refine ⟨k, ?_, hk, rfl⟩
  apply Classical.byContradiction
  intro c
  have : k = 0 := by omega
  rw [this] at h
  exact h.2 rfl
theorem isY_lo {y : Int32} (h : y < 1) : isY y = false := by
  unfold isY
  cases c : isM 61 y
  · rfl
  · obtain ⟨k, hk, rfl⟩ := isM_of c (by decide)
    have := (nI_ltI (b := 1) (by omega) (by decide)).mp h
    have : k = 0 := by omega
    rw [this]
    decide
theorem isY_hi {y : Int32} (h : 60 < y) : isY y = false := by
  unfold isY
  rw [isM_hi (n := 61) (by decide) (by
    rw [Int32.le_iff_toInt_le]
    have := Int32.lt_iff_toInt_lt.mp h
    rw [show (60 : Int32).toInt = 60 by decide] at this
    rw [nI_toInt (by decide)]
    omega)]
  rfl
theorem isY_in {y : Int32} (h1 : ¬ y < 1) (h2 : ¬ 60 < y) : isY y = true := by
  have a : ¬ y.toInt < 1 := fun q => h1 (Int32.lt_iff_toInt_lt.mpr (by rw [show (1 : Int32).toInt = 1 by decide]; exact q))
  have b : ¬ 60 < y.toInt := fun q => h2 (Int32.lt_iff_toInt_lt.mpr (by rw [show (60 : Int32).toInt = 60 by decide]; exact q))
  unfold isY isM
  rw [decide_eq_true (show 0 ≤ y.toInt by omega), decide_eq_true (show y.toInt < ((61 : Nat) : Int) by omega), decide_eq_true (show y ≠ 0 from fun e => by rw [e] at a; exact a (by decide))]
  rfl
theorem isY_l (y : Int32) : decide ((1 : Int64) ≤ y.toInt64 ∧ y.toInt64 ≤ 60) = isY y := by
  have e1 : ((1 : Int64) ≤ y.toInt64) ↔ 1 ≤ y.toInt := by rw [Int64.le_iff_toInt_le, Int32.toInt_toInt64, show (1 : Int64).toInt = 1 by decide]
  have e2 : (y.toInt64 ≤ (60 : Int64)) ↔ y.toInt ≤ 60 := by rw [Int64.le_iff_toInt_le, Int32.toInt_toInt64, show (60 : Int64).toInt = 60 by decide]
  cases c : isY y
  · refine decide_eq_false (fun k => ?_)
    rw [e1, e2] at k
    have := isY_in (y := y) (fun q => by have := Int32.lt_iff_toInt_lt.mp q; rw [show (1 : Int32).toInt = 1 by decide] at this; omega) (fun q => by have := Int32.lt_iff_toInt_lt.mp q; rw [show (60 : Int32).toInt = 60 by decide] at this; omega)
    rw [c] at this
    exact absurd this (by decide)
  · obtain ⟨k, h1, h2, rfl⟩ := isY_of c
    refine decide_eq_true ?_
    rw [e1, e2, nI_toInt (by omega)]
    omega
theorem k_drift (hC : CO h x) (hT : TA h 1 n f) (hL : TL h) (g : GD n f) {s y w : Int32} (hd : 5 ≤ d) : ev_X scr d cd_X5_drift 0 [.ref 0, .int s, .int y, .int w, .float 0, .float 0, .float 0, .float 0, .float 0, .float 0] [] h (CQ h n f (.int (a_drift n f s y w))) := by
  have hn := g.1
  have h8 : 2 ^ n ≤ 2 ^ 8 := Nat.pow_le_pow_right (by decide) hn
  unfold a_drift
  refine ex_go 80 rfl ?_
  refine ex_ilt rfl (fun hc => ?_) (fun hc => ?_)
  · rw [isY_lo hc]
    refine ex_go 80 rfl ?_
    exact ex_iret rfl (cq_s hT hL)
  · refine ex_go 80 rfl ?_
    refine ex_igt rfl (fun hc2 => ?_) (fun hc2 => ?_)
    · rw [isY_hi hc2]
      refine ex_go 80 rfl ?_
      exact ex_iret rfl (cq_s hT hL)
    · have hy := isY_in hc hc2
      obtain ⟨k, hk1, hk2, rfl⟩ := isY_of hy
      rw [hy, Bool.true_and, ix_nI (by omega)]
      refine ex_go 80 rfl ?_
      refine ex_cs rfl rfl rfl (d' := 0) (by omega) (c_isWithin (k := 1) (by decide)) ?_
      show ev_X scr d cd_X5_drift _ _ [.int (nI (tb_b (isM 2 w)))] _ _
      cases hw : isM 2 w
      · refine ex_zneF rfl (by decide) ?_
        refine ex_go 80 rfl ?_
        exact ex_iret rfl (cq_s hT hL)
      · rw [if_pos rfl]
        obtain ⟨n2, f2, hR⟩ := hL
        refine ex_zneT rfl (by decide) ?_
        refine ex_go 80 rfl ?_
        refine ex_getf rfl hC rfl rfl ?_
        refine ex_go 80 rfl ?_
        refine ex_getf rfl hC rfl rfl ?_
        refine ex_cvx rfl rfl rfl rfl hR.1 rfl (d' := 1) (by omega) (c_copyFrom hR hT (by decide) rfl (Nat.le_refl _)) ?_
        rintro v1 h1 ⟨rfl, hR1, hF1⟩
        rw [← wg_gdf f] at hR1
        refine ex_go 80 rfl ?_
        refine ev_loop k (fun i => ∀ h2, TA h2 10 n (wg f (dst n f s i).2.1) → FR 10 (10 + 8) h h2 → ev_X scr d cd_X5_drift 23 [.ref 0, .int s, .int (nI k), .int w, .int (dst n f s i).1, .int (nI (dst n f s i).2.2), .int (nI i), .float 0, .float 0, .float 0] [] h2 (CQ h n f (.int (if w = 0 then nI (dst n f s k).2.2 else nI (sm (gsg (wg f (dst n f s k).2.1) (2 ^ n - 1)) n))))) (fun i hi K h2 hR2 hF2 => ?_) (fun h2 hR2 hF2 => ?_) h1 hR1 hF1
        · have hC2 := (hF2.2 0 (by decide)).trans hC
          have hT2 := hT.kept hF2 (by decide)
          have hdl := dst_le n f s i
          rw [dst] at K
          dsimp only at K
          generalize (dst n f s i).1 = v at *
          generalize (dst n f s i).2.1 = u at *
          generalize (dst n f s i).2.2 = p at *
          refine ex_nop rfl ?_
          refine ex_go 80 rfl ?_
          refine ex_igeF rfl (nI_ge hi (by first | omega | decide)) ?_
          refine ex_go 80 rfl ?_
          refine ev_loop n (fun m => ev_X scr d cd_X5_drift 31 [.ref 0, .int s, .int (nI k), .int w, .int (lcg v m), .int (nI p), .int (nI i), .int (nI (bs (wrp n f v) m)), .int (nI m), .float 0] [] h2 _) (fun m hm K2 => ?_) ?_
          · refine ex_nop rfl ?_
            refine ex_go 80 rfl ?_
            refine ex_getf rfl hC2 rfl rfl ?_
            refine ex_getf rfl hT2.1 rfl rfl ?_
            refine ex_igeF rfl (nI_ge hm (by omega)) ?_
            refine ex_go 80 rfl ?_
            show ev_X scr d cd_X5_drift _ [.ref 0, .int s, .int (nI k), .int w, .int (lcg v (m + 1)), .int (nI p), .int (nI i), .int (nI (bs (wrp n f v) m)), .int (nI m), .float 0] [.int 10, .int (((lcg v (m + 1)).toUInt32 >>> ((16 : Int32).toUInt32 &&& Int32.toUInt32 31)).toInt32 &&& 32767)] _ _
            rw [dr_u]
            refine ex_irem (v := nI (dr (lcg v (m + 1)) % 10)) rfl (by decide) (dr_rem) ?_
            have hol := od_le n f m
            have hrl := dr_lt (lcg v (m + 1))
            refine ex_go 80 rfl ?_
            refine ex_getf rfl hC2 rfl rfl ?_
            refine ex_go 80 rfl ?_
            refine ex_cv rfl rfl rfl rfl hT2.1 rfl (d' := 3) (by omega) (c_oddsInTen hT2 g hm (Nat.le_refl _)) ?_
            refine ex_igeM 1 2 62 (v := nI (tb_b (wrp n f v m))) rfl rfl rfl (if01 (by rw [nI_leI (by omega) (by omega)]; omega)) ?_
            refine ex_cs rfl rfl rfl (d' := 0) (by omega) (c_withBit (wrp n f v m) (by omega)) ?_
            have ew := wb_bs (wrp n f v) m
            unfold wb at ew
            rw [ew]
            refine ex_go 80 rfl ?_
            try dsimp only
            try simp only [nI_inc, nI_1, nI_add, nI_mul2, tb_and, tb_or, tb_andn]
            exact ex_weak (K2) (by repeat (first | exact W_n | refine W_e ?_ | refine W_i ?_ | refine W_r ?_))
          · refine ex_nop rfl ?_
            refine ex_go 80 rfl ?_
            refine ex_getf rfl hC2 rfl rfl ?_
            refine ex_getf rfl hT2.1 rfl rfl ?_
            refine ex_igeT rfl (nI_le (Nat.le_refl _) (by omega)) ?_
            have hwl : wrd n f v < 256 := bs_256 _ hn
            show ev_X scr d cd_X5_drift _ [.ref 0, .int s, .int (nI k), .int w, .int (lcg v n), .int (nI p), .int (nI i), .int (nI (wrd n f v)), .int (nI n), .float 0] _ _ _
            refine ex_go 80 rfl ?_
            refine ex_getf rfl hC2 rfl rfl ?_
            refine ex_go 80 rfl ?_
            refine ex_cvx rfl rfl rfl rfl hR2.1 rfl (d' := 4) (by omega) (c_payAll hR2 g (fun j hj => Nat.lt_of_le_of_lt (hdl j) (gd_lt g j hj)) hwl (Nat.le_refl _)) ?_
            rintro v3 h3 ⟨rfl, hR3, hF3⟩
            refine ex_go 80 rfl ?_
            try dsimp only
            try simp only [nI_inc, nI_1, nI_add, nI_mul2, tb_and, tb_or, tb_andn]
            exact ex_weak (K h3 hR3 (hF2.tr hF3)) (by repeat (first | exact W_n | refine W_e ?_ | refine W_i ?_ | refine W_r ?_))
        · have hC2 := (hF2.2 0 (by decide)).trans hC
          have hT2 := hT.kept hF2 (by decide)
          refine ex_nop rfl ?_
          refine ex_go 80 rfl ?_
          refine ex_igeT rfl (nI_le (Nat.le_refl _) (by omega)) ?_
          refine ex_go 80 rfl ?_
          refine ex_zne rfl (fun k1 => ?_) (fun k1 => ?_)
          · rw [if_neg k1]
            refine ex_go 80 rfl ?_
            refine ex_getf rfl hC2 rfl rfl ?_
            refine ex_go 80 rfl ?_
            refine ex_getf rfl hC2 rfl rfl ?_
            refine ex_cv rfl rfl rfl rfl hR2.1 rfl (d' := 0) (by omega) (c_allMen hR2 hn) ?_
            refine ex_cv rfl rfl rfl rfl hR2.1 rfl (d' := 1) (by omega) (c_stockOf hR2 hn (by omega) (Nat.le_refl _)) ?_
            exact ex_iret rfl (cq_r hT hR2 hF2)
          · rw [if_pos k1]
            refine ex_go 80 rfl ?_
            exact ex_iret rfl (cq_r hT hR2 hF2)
theorem wg_4343 (f u : Nat → Nat) (a b : Nat) : up (wg (up f 43 a) u) 43 b = wg (up f 43 b) u := by
  rw [wg_43]
  congr 1
  funext j
  unfold up
  by_cases c : j = 43
  · rw [if_pos c, if_pos c]
  · rw [if_neg c, if_neg c, if_neg c]
theorem GP.f43 {n : Nat} {f : Nat → Nat} (g : GP n f) (v : Nat) : GP n (up f 43 v) := by
  obtain ⟨a, b, c, e, k⟩ := g
  exact ⟨a, fun m hm => by rw [up_ne (by omega)]; exact b m hm, c, e, k⟩
theorem r_drift (hM : MO h n q) (hS : ST h f im) (hR : RS h) (g : GD n f) {s y w : Int32} (hd : 4 ≤ d) : ev_X scr d cd_X6_drift 0 [.ref 57, .int s, .int y, .int w, .float 0, .float 0, .float 0, .float 0, .float 0] [] h (RQ h f im (.int (a_drift n f s y w))) := by
  have hn := g.1
  have h8 : 2 ^ n ≤ 2 ^ 8 := Nat.pow_le_pow_right (by decide) hn
  unfold a_drift
  refine ex_go 80 rfl ?_
  try dsimp only
  try simp only [nI_inc, nI_1, nI_add, nI_mul2, tb_and, tb_or, tb_andn, nI_x5, nI_x2, nI_p0, nI_p2, nI_p3, nI_p4, nI_q45]
  refine ex_cs rfl rfl rfl (d' := 0) (by omega) (c_in) ?_
  rw [isY_l]
  cases hy : isY y
  · refine ex_zeqT rfl (by decide) ?_
    refine ex_go 80 rfl ?_
    exact ex_iret rfl (rq_s hS hR)
  · obtain ⟨k, hk1, hk2, rfl⟩ := isY_of hy
    rw [Bool.true_and, ix_nI (by omega)]
    refine ex_zeqF rfl (by decide) ?_
    refine ex_go 80 rfl ?_
    refine ex_cs rfl rfl rfl (d' := 1) (by omega) (c_isPart (Nat.le_refl _)) ?_
    cases hw : isM 2 w
    · refine ex_zneF rfl (by decide) ?_
      refine ex_go 80 rfl ?_
      exact ex_iret rfl (rq_s hS hR)
    · rw [if_pos rfl]
      refine ex_zneT rfl (by decide) ?_
      refine ex_go 80 rfl ?_
      refine ex_cvx rfl rfl rfl rfl hM rfl (d' := 2) (by omega) (c_findOdds hM hS hR.1 hR.2.2 g (Nat.le_refl _)) ?_
      rintro v1 h1 ⟨rfl, hA1, hO1, h65, hX1⟩
      have hM1 : MO h1 n q := (hX1.2 57 (by decide) (by decide) (by decide)).trans hM
      have hS1 : ST h1 f im := hS.kept (hX1.2 58 (by decide) (by decide) (by decide))
      have hI1 : LA h1 65 8 := hR.2.1.kept h65
      have hA1 : AT h1 (wg (up f 43 (f 43 + 0)) (gd f)) := by
        rw [show f 43 + 0 = f 43 from rfl, up_self, wg_gdf]
        exact hA1
      refine ex_go 80 rfl ?_
      refine ev_loop k (fun i => ∀ h2, AT h2 (wg (up f 43 (f 43 + i)) (dst n f s i).2.1) → LA h2 65 8 → RZ h1 h2 → ev_X scr d cd_X6_drift 19 [.ref 57, .int s, .int (nI k), .int w, .int (dst n f s i).1, .int (nI (dst n f s i).2.2), .int (nI i), .float 0, .float 0] [] h2 (RQ h f im (.int (if w = 0 then nI (dst n f s k).2.2 else nI (sm (gsg (wg f (dst n f s k).2.1) (2 ^ n - 1)) n))))) (fun i hi K h2 hA2 hI2 hZ2 => ?_) (fun h2 hA2 hI2 hZ2 => ?_) h1 hA1 hI1 RZ.rf
      · have hM2 := hZ2.mo hM1
        have hO2 := hO1.rz hZ2 (by decide) (by decide)
        have hdl := dst_le n f s i
        rw [dst] at K
        dsimp only at K
        generalize (dst n f s i).1 = v at *
        generalize (dst n f s i).2.1 = u at *
        generalize (dst n f s i).2.2 = p at *
        refine ex_nop rfl ?_
        refine ex_go 80 rfl ?_
        refine ex_igeF rfl (nI_ge hi (by first | omega | decide)) ?_
        refine ex_go 80 rfl ?_
        refine ev_loop n (fun m => ev_X scr d cd_X6_drift 27 [.ref 57, .int s, .int (nI k), .int w, .int (lcg v m), .int (nI p), .int (nI i), .int (nI (bs (wrp n f v) m)), .int (nI m)] [] h2 _) (fun m hm K2 => ?_) ?_
        · refine ex_nop rfl ?_
          refine ex_go 80 rfl ?_
          refine ex_getf rfl hM2 rfl rfl ?_
          refine ex_igeF rfl (nI_ge hm (by omega)) ?_
          refine ex_go 80 rfl ?_
          show ev_X scr d cd_X6_drift _ [.ref 57, .int s, .int (nI k), .int w, .int (lcg v (m + 1)), .int (nI p), .int (nI i), .int (nI (bs (wrp n f v) m)), .int (nI m)] [.int 10, .int ((lcg v (m + 1) >>> ((16 : Int32) &&& 31)) &&& 32767), .int (nI (bs (wrp n f v) m))] _ _
          rw [dr_s]
          refine ex_irem (v := nI (dr (lcg v (m + 1)) % 10)) rfl (by decide) (dr_rem) ?_
          have hol := od_le n f m
          have hrl := dr_lt (lcg v (m + 1))
          refine ex_go 80 rfl ?_
          refine ex_getf rfl hM2 rfl rfl ?_
          refine ex_go 80 rfl ?_
          refine ex_ia _ rfl hO2 rfl (by first | exact trivial | assumption | (show _ < _; omega)) (by omega) (by omega) rfl ?_
          refine ex_igeM 1 2 54 (v := nI (tb_b (wrp n f v m))) rfl rfl rfl (if01 (by rw [nI_leI (by omega) (by omega)]; omega)) ?_
          refine ex_cs rfl rfl rfl (d' := 0) (by omega) (c_flag) ?_
          refine ex_go 80 rfl ?_
          dsimp only
          rw [nI_inc, bs_fl (wrp n f v) (by omega)]
          exact K2
        · refine ex_nop rfl ?_
          refine ex_go 80 rfl ?_
          refine ex_getf rfl hM2 rfl rfl ?_
          refine ex_igeT rfl (nI_le (Nat.le_refl _) (by omega)) ?_
          have hwl : wrd n f v < 256 := bs_256 _ hn
          show ev_X scr d cd_X6_drift _ [.ref 57, .int s, .int (nI k), .int w, .int (lcg v n), .int (nI p), .int (nI i), .int (nI (wrd n f v)), .int (nI n)] _ _ _
          refine ex_go 80 rfl ?_
          refine ex_cvx rfl rfl rfl rfl hM2 rfl (d' := 3) (by omega) (c_yearGoes hM2 hA2 hI2 (g.p.f43 (f 43 + i)) (fun j hj => Nat.lt_of_le_of_lt (hdl j) (gd_lt g j hj)) (by omega) (Nat.le_refl _)) ?_
          rintro v3 h3 ⟨rfl, hA3, hFi3, hZ3⟩
          rw [yr_c (pc_43 hn f (f 43 + i)), wg_4343, show up f 43 (f 43 + i) 43 = f 43 + i from up_eq] at hA3
          rw [yr_c (pc_43 hn f (f 43 + i))]
          refine ex_go 80 rfl ?_
          try dsimp only
          try simp only [nI_inc, nI_1, nI_add, nI_mul2, tb_and, tb_or, tb_andn, nI_x5, nI_x2, nI_p0, nI_p2, nI_p3, nI_p4, nI_q45]
          exact ex_weak (K h3 hA3 hFi3.la (hZ2.tr hZ3)) (by repeat (first | exact W_n | refine W_e ?_ | refine W_i ?_ | refine W_r ?_))
      · have hM2 := hZ2.mo hM1
        have hO2 := hO1.rz hZ2 (by decide) (by decide)
        have fin : ∀ a, RQ h f im a (some a) h2 := fun a => ⟨rfl, hS1.z hZ2, ⟨hA2.la, hI2, hO2.la⟩, hX1.ry.tr hZ2.ry⟩
        refine ex_nop rfl ?_
        refine ex_go 80 rfl ?_
        refine ex_igeT rfl (nI_le (Nat.le_refl _) (by omega)) ?_
        refine ex_go 80 rfl ?_
        refine ex_zne rfl (fun k1 => ?_) (fun k1 => ?_)
        · rw [if_neg k1]
          refine ex_go 80 rfl ?_
          refine ex_getf rfl hM2 rfl rfl ?_
          refine ex_go 80 rfl ?_
          try dsimp only
          try simp only [nI_inc, nI_1, nI_add, nI_mul2, tb_and, tb_or, tb_andn, nI_x5, nI_x2, nI_p0, nI_p2, nI_p3, nI_p4, nI_q45]
          rw [tb_sh1 n (by omega), show (1 : Int32) = nI 1 from rfl, pk_sub Nat.one_le_two_pow]
          refine ex_cv rfl rfl rfl rfl hM2 rfl (d' := 1) (by omega) (c_allGoods hM2 hA2 hn (by omega) (Nat.le_refl _)) ?_
          have e : sm (gsg (wg (up f 43 (f 43 + k)) (dst n f s k).2.1) (2 ^ n - 1)) n = sm (gsg (wg f (dst n f s k).2.1) (2 ^ n - 1)) n := sm_cong (fun i hi => by unfold gsg; rw [wg_gd (by omega), wg_gd (by omega)])
          rw [e]
          exact ex_iret rfl (fin _)
        · rw [if_pos k1]
          refine ex_go 80 rfl ?_
          exact ex_iret rfl (fin _)
end DRIFT
