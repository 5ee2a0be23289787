/-! change of the model, see, forget, worth. -/
theorem odw_mono (n : Nat) (f : Nat → Nat) (m : Nat) : odw n f m true ≤ odw n f m false := by
  unfold odw oda
  split
  · exact Nat.le_refl _
  · generalize f (5 * m + 1) + (if f (5 * m) = 1 then oth n f m else 0) = y
    show min 9 (y / 2) ≤ min 9 y
    omega
theorem dec1 (k : Nat) : ev_inc (-1) (nI k) = nI k - 1 := by
  show nI k + (-1) = _
  rw [Int32.sub_eq_add_neg]
def won (n : Nat) (f : Nat → Nat) (m : Nat) : Nat := f 41 * (odw n f m false - odw n f m true)
def wth (w : Nat) : Nat → Int32
  | 0 => -4
  | c + 1 => if 10 * c < w then nI c else wth w c
def a_worth (n : Nat) (f : Nat → Nat) (m : Int32) : Int32 := if rit n f m = 0 then wth (won n f (ix m)) 10 else rit n f m
theorem won_lt {n : Nat} {f : Nat → Nat} (g : GD n f) (m : Nat) : won n f m ≤ 900 := by
  unfold won
  exact Nat.le_trans (Nat.mul_le_mul g.2.2.2.1 (Nat.le_trans (Nat.sub_le _ _) (oda_le f m (oth n f m) false))) (by decide)
theorem odw_up {n : Nat} (hn : n ≤ 8) (f : Nat → Nat) (k v : Nat) (hk : 40 ≤ k) {m : Nat} (hm : m < n) (b : Bool) : odw n (up f k v) m b = odw n f m b := by
  unfold odw oda oth
  rw [up_ne (by omega), up_ne (by omega)]
  congr 4
  refine congrArg (fun z => if f (5 * m) = 1 then z else 0) (sm_cong (fun i hi => ?_))
  rw [up_ne (by omega), up_ne (by omega), up_ne (by omega)]
theorem od_up {n : Nat} (hn : n ≤ 8) (f : Nat → Nat) (k v : Nat) (hk : 40 < k) {m : Nat} (hm : m < n) : od n (up f k v) m = od n f m := by
  unfold od
  rw [odw_up hn f k v (by omega) hm, up_ne (by omega)]
theorem od_40 {n : Nat} (hn : n ≤ 8) (f : Nat → Nat) (v : Nat) {m : Nat} (hm : m < n) : od n (up f 40 v) m = odw n f m (v.testBit m) := by
  unfold od
  rw [odw_up hn f 40 v (by omega) hm, up_eq]
theorem worth_hm {n : Nat} {f : Nat → Nat} (g : GD n f) {i v X1 X0 : Nat} (hi : i < n) (ht : f (5 * i + 3) < 4) (h1 : X1.testBit i = true) (h0 : X0.testBit i = false) (ho : ∀ j, j ≠ i → X1.testBit j = X0.testBit j) : hm n (up (up f 42 v) 40 X1) (f (5 * i + 3)) < hm n (up (up f 42 v) 40 X0) (f (5 * i + 3)) ↔ 10 * v < won n f i := by
  have hn := g.1
  have e41 : ∀ X, up (up f 42 v) 40 X 41 = f 41 := fun X => by rw [up_ne (by decide), up_ne (by decide)]
  have e42 : ∀ X, up (up f 42 v) 40 X 42 = v := fun X => by rw [up_ne (by decide), up_eq]
  have e40 : ∀ X, up (up f 42 v) 40 X 40 = X := fun X => up_eq
  have e3 : ∀ X m, m < n → up (up f 42 v) 40 X (5 * m + 3) = f (5 * m + 3) := fun X m hm => by rw [up_ne (by omega), up_ne (by omega)]
  have eo : ∀ X m, m < n → od n (up (up f 42 v) 40 X) m = odw n f m (X.testBit m) := fun X m hm => by rw [od_40 hn _ _ hm, odw_up hn f 42 v (by decide) hm]
  unfold hm
  rw [e41, e41, e42, e42]
  generalize ht' : f (5 * i + 3) = t at *
  have s1 := sm_one (g := hmg n (up (up f 42 v) 40 X1) t) (g' := hmg n (up (up f 42 v) 40 X0) t) hi (fun j hj hji => by
    unfold hmg
    rw [e3 X1 j hj, e3 X0 j hj, eo X1 j hj, eo X0 j hj, ho j hji])
  have s2 := sm_one (g := fun m => tb_b (decide (up (up f 42 v) 40 X1 (5 * m + 3) = t) && (up (up f 42 v) 40 X1 40).testBit m)) (g' := fun m => tb_b (decide (up (up f 42 v) 40 X0 (5 * m + 3) = t) && (up (up f 42 v) 40 X0 40).testBit m)) hi (fun j hj hji => by
    rw [e3 X1 j hj, e3 X0 j hj, e40, e40, ho j hji])
  have a1 : hmg n (up (up f 42 v) 40 X1) t i = odw n f i true := by unfold hmg; rw [e3 X1 i hi, if_pos ht', eo X1 i hi, h1]
  have a0 : hmg n (up (up f 42 v) 40 X0) t i = odw n f i false := by unfold hmg; rw [e3 X0 i hi, if_pos ht', eo X0 i hi, h0]
  have b1 : tb_b (decide (up (up f 42 v) 40 X1 (5 * i + 3) = t) && (up (up f 42 v) 40 X1 40).testBit i) = 1 := by rw [e3 X1 i hi, e40, h1, decide_eq_true ht']; rfl
  have b0 : tb_b (decide (up (up f 42 v) 40 X0 (5 * i + 3) = t) && (up (up f 42 v) 40 X0 40).testBit i) = 0 := by rw [e3 X0 i hi, e40, h0, Bool.and_false]; rfl
  rw [a1, a0] at s1
  rw [b1, b0] at s2
  unfold wct
  generalize sm (hmg n (up (up f 42 v) 40 X1) t) n = S1 at *
  generalize sm (hmg n (up (up f 42 v) 40 X0) t) n = S0 at *
  generalize sm (fun m => tb_b (decide (up (up f 42 v) 40 X1 (5 * m + 3) = t) && (up (up f 42 v) 40 X1 40).testBit m)) n = W1 at *
  generalize sm (fun m => tb_b (decide (up (up f 42 v) 40 X0 (5 * m + 3) = t) && (up (up f 42 v) 40 X0 40).testBit m)) n = W0 at *
  have hmono := odw_mono n f i
  have eS : S0 = S1 + (odw n f i false - odw n f i true) := by omega
  have eW : W1 = W0 + 1 := by omega
  unfold won
  rw [eS, eW, Nat.add_mul, Nat.mul_comm (odw n f i false - odw n f i true) (f 41), Nat.mul_add]
  generalize f 41 * (odw n f i false - odw n f i true) = z
  omega
section WORTH
variable {scr : List Int32} {d : Nat} {h : ev_H} {n : Nat} {f : Nat → Nat} {x : Nat → Int32} {q : Nat → Int32} {im : Nat → Int32}
theorem c_won (hT : TA h 1 n f) (g : GD n f) {m : Nat} (hm : m < n) (hd : 3 ≤ d) : ev_V scr d cd_X4_wonByWatch 0 [.ref 1, .int (nI m)] [] h (some (.int (nI (if f (5 * m + 3) < 4 then won n f m else 0))), h) := by
  have := c_wonByWatch (scr := scr) (d := d) hT g hm hd
  rw [pk_sub (odw_mono n f m), nI_mul2] at this
  by_cases c : f (5 * m + 3) < 4
  · rw [if_pos c] at this ⊢
    exact this
  · rw [if_neg c] at this ⊢
    exact this
theorem k_worth (hC : CO h x) (hT : TA h 1 n f) (hL : TL h) (g : GD n f) {m : Int32} (hd : 4 ≤ d) : ev_X scr d cd_X5_worth 0 [.ref 0, .int m, .float 0, .float 0, .float 0] [] h (CQ h n f (.int (a_worth n f m))) := by
  have hn := g.1
  unfold a_worth
  refine ex_go 80 rfl ?_
  refine ex_cv rfl rfl rfl rfl hC rfl (d' := 1) (by omega) (c_refusalInTen hC hT hn (Nat.le_refl _)) ?_
  by_cases c : rit n f m = 0
  · obtain ⟨i, hi, rfl, ht, e⟩ := rit_0 hn c
    have hwl := won_lt g i
    rw [if_pos c, e, c]
    refine ex_go 80 rfl ?_
    refine ex_zeqT rfl (rfl) ?_
    refine ex_go 80 rfl ?_
    refine ex_getf rfl hC rfl rfl ?_
    refine ex_go 80 rfl ?_
    refine ex_cv rfl rfl rfl rfl hT.1 rfl (d' := 3) (by omega) (c_won hT g hi (Nat.le_refl _)) ?_
    rw [if_pos ht]
    refine ex_go 80 rfl ?_
    refine ev_down 10 (fun k => k ≤ 10 → ev_X scr d cd_X5_worth 15 [.ref 0, .int (nI i), .int 0, .int (nI (won n f i)), .int (nI k - 1)] [] h (CQ h n f (.int (wth (won n f i) k)))) (fun k _ K hk => ?_) (fun _ => ?_) (Nat.le_refl 10)
    · rw [nI_pred, wth]
      refine ex_nop rfl ?_
      refine ex_go 80 rfl ?_
      refine ex_zltF rfl (nI_pos (by omega)) ?_
      refine ex_go 80 rfl ?_
      dsimp only
      rw [show (10 : Int32) = nI 10 from rfl, nI_mul2]
      by_cases c2 : 10 * k < won n f i
      · rw [if_pos c2]
        refine ex_ileF rfl (nI_ge c2 (by omega)) ?_
        refine ex_go 80 rfl ?_
        exact ex_iret rfl (cq_s hT hL)
      · rw [if_neg c2]
        refine ex_ileT rfl (nI_le (by omega) (by omega)) ?_
        refine ex_go 80 rfl ?_
        rw [dec1]
        exact K (by omega)
    · refine ex_nop rfl ?_
      refine ex_go 80 rfl ?_
      refine ex_zltT rfl (by decide) ?_
      refine ex_go 80 rfl ?_
      exact ex_iret rfl (cq_s hT hL)
  · rw [if_neg c]
    refine ex_go 80 rfl ?_
    refine ex_zeqF rfl (c) ?_
    refine ex_go 80 rfl ?_
    exact ex_iret rfl (cq_s hT hL)
theorem r_worth (hM : MO h n q) (hS : ST h f im) (hR : RS h) (g : GD n f) {m : Int32} (hd : 3 ≤ d) : ev_X scr d cd_X6_worth 0 [.ref 57, .int m, .float 0, .float 0] [] h (RQ h f im (.int (a_worth n f m))) := by
  have hn := g.1
  have hw := g.w
  unfold a_worth
  refine ex_go 80 rfl ?_
  refine ex_cv rfl rfl rfl rfl hM rfl (d' := 1) (by omega) (c_isMan hM hn (Nat.le_refl _)) ?_
  cases hmn : isM n m
  · have er : rit n f m = -1 := by unfold rit; rw [hmn]; rfl
    rw [er, if_neg (by decide)]
    refine ex_zneF rfl (by decide) ?_
    refine ex_go 80 rfl ?_
    exact ex_iret rfl (rq_s hS hR)
  · obtain ⟨i, hi, rfl⟩ := isM_of hmn (by omega)
    obtain ⟨g1, g2, g3, g4, g5, g6⟩ := g.2.1 i hi
    have er : rit n f (nI i) = if f (5 * i + 3) < 4 then 0 else -2 := by unfold rit; rw [hmn, ix_nI (by omega)]; rfl
    rw [er, ix_nI (by omega)]
    refine ex_zneT rfl (by decide) ?_
    refine ex_go 80 rfl ?_
    refine ex_cv rfl rfl rfl rfl hM rfl (d' := 0) (by omega) (c_isWanderer hM hS (by omega) g4) ?_
    by_cases c : f (5 * i + 3) = 4
    · rw [decide_eq_true c, if_neg (show ¬ f (5 * i + 3) < 4 by omega), if_neg (by decide)]
      refine ex_zeqF rfl (by decide) ?_
      refine ex_go 80 rfl ?_
      exact ex_iret rfl (rq_s hS hR)
    · have ht : f (5 * i + 3) < 4 := by omega
      rw [decide_eq_false c, if_pos ht, if_pos rfl]
      refine ex_zeqT rfl (by decide) ?_
      refine ex_go 80 rfl ?_
      refine ev_down 10 (fun k => k ≤ 10 → ∀ h1, LA h1 59 57 → SB 59 h h1 → ev_X scr d cd_X6_worth 14 [.ref 57, .int (nI i), .int (nI k - 1), .float 0] [] h1 (RQ h f im (.int (wth (won n f i) k)))) (fun k _ K hk h1 hL1 hB1 => ?_) (fun _ h1 hL1 hB1 => ?_) (Nat.le_refl 10) h hR.1 SB.rf
      · rw [nI_pred, wth]
        have hM1 := hB1.mo hM (by decide)
        have hS1 := hS.b9 hB1
        refine ex_nop rfl ?_
        refine ex_go 80 rfl ?_
        refine ex_zltF rfl (nI_pos (by omega)) ?_
        refine ex_go 80 rfl ?_
        refine ex_cvx rfl rfl rfl rfl hM1 rfl (d' := 0) (by omega) (c_starts hM1 hS1 hL1) ?_
        rintro v2 h2 ⟨rfl, hA2, hB2⟩
        have hM2 := hB2.mo hM1 (by decide)
        refine ex_go 80 rfl ?_
        refine ex_getf rfl hM2 rfl rfl ?_
        refine ex_go 80 rfl ?_
        refine ex_is 42 rfl hA2 rfl (by omega) (by omega) (fun h3 hA3 hB3 => ?_)
        have hA4 : AT h3 (up f 42 k) := AT.st hA3 (fun _ => Or.inl trivial) (by rw [rvx_n (by omega)])
        have hM4 := hB3.mo hM2 (by decide)
        have e40 : up f 42 k 40 = f 40 := up_ne (by decide)
        refine ex_go 80 rfl ?_
        refine ex_getf rfl hM4 rfl rfl ?_
        refine ex_go 80 rfl ?_
        refine ex_ia 40 rfl hA4 rfl (by first | exact trivial | assumption | (show _ < _; omega)) (by omega) (by omega) rfl ?_
        simp (disch := omega) only [rv_0, rv_1, rv_2, rv_3, rv_4, rv_40, rv_41, rv_42, rv_43, rv_44]
        refine ex_go 80 rfl ?_
        try dsimp only
        try simp only [nI_inc, nI_1, nI_add, nI_mul2, tb_and, tb_or, tb_andn, nI_x5, nI_x2, nI_p0, nI_p2, nI_p3, nI_p4, nI_q45]
        rw [tb_sh1 i (by omega), tb_or, e40]
        refine ex_is 40 rfl hA4 rfl (by omega) (by omega) (fun h5 hA5 hB5 => ?_)
        have hA6 : AT h5 (up (up f 42 k) 40 (f 40 ||| 2 ^ i)) := AT.st hA5 (fun _ => Or.inl trivial) (by rw [rvx_n (by omega)])
        have hM6 := hB5.mo hM4 (by decide)
        have b1 : ∀ j, (f 40 ||| 2 ^ i).testBit j = if i = j then true else (f 40).testBit j := fun j => wb_bit true (f 40) i j
        have gk := g.f42 (v := k) (by omega)
        have gx1 : GD n (up (up f 42 k) 40 (f 40 ||| 2 ^ i)) := gk.w40 (wb_lt (b := true) g.2.2.1 hi) (fun j hj hb => by
          rw [up_ne (by omega)]
          rw [b1] at hb
          by_cases c : i = j
          · rw [← c]; exact ht
          · rw [if_neg c] at hb
            exact (g.2.1 j hj).2.2.2.2.2 hb)
        have e3 : up (up f 42 k) 40 (f 40 ||| 2 ^ i) (5 * i + 3) = f (5 * i + 3) := by rw [up_ne (by omega), up_ne (by omega)]
        refine ex_go 80 rfl ?_
        refine ex_cv rfl rfl rfl rfl hM6 rfl (d' := 0) (by omega) (c_of3 hM6 hA6 (by omega)) ?_
        rw [e3, tv_lt ht]
        refine ex_cv rfl rfl rfl rfl hM6 rfl (d' := 2) (by omega) (c_harmOf hM6 hA6 gx1 ht (Nat.le_refl _)) ?_
        have l1 := hm_lt gx1 (f (5 * i + 3))
        refine ex_go 80 rfl ?_
        refine ex_getf rfl hM6 rfl rfl ?_
        refine ex_go 80 rfl ?_
        refine ex_ia 40 rfl hA6 rfl (by first | exact trivial | assumption | (show _ < _; omega)) (by omega) (by omega) rfl ?_
        simp (disch := omega) only [rv_0, rv_1, rv_2, rv_3, rv_4, rv_40, rv_41, rv_42, rv_43, rv_44]
        refine ex_go 80 rfl ?_
        try dsimp only
        try simp only [nI_inc, nI_1, nI_add, nI_mul2, tb_and, tb_or, tb_andn, nI_x5, nI_x2, nI_p0, nI_p2, nI_p3, nI_p4, nI_q45]
        rw [tb_sh1 i (by omega), tb_andn, show up (up f 42 k) 40 (f 40 ||| 2 ^ i) 40 = f 40 ||| 2 ^ i from up_eq]
        refine ex_is 40 rfl hA6 rfl (by omega) (by omega) (fun h7 hA7 hB7 => ?_)
        have hA8 : AT h7 (up (up (up f 42 k) 40 (f 40 ||| 2 ^ i)) 40 (tb_wo (f 40 ||| 2 ^ i) (2 ^ i))) := AT.st hA7 (fun _ => Or.inl trivial) (by rw [rvx_n (by omega)])
        have euu : up (up (up f 42 k) 40 (f 40 ||| 2 ^ i)) 40 (tb_wo (f 40 ||| 2 ^ i) (2 ^ i)) = up (up f 42 k) 40 (tb_wo (f 40 ||| 2 ^ i) (2 ^ i)) := funext (fun j => by
          unfold up
          by_cases c : j = 40
          · rw [if_pos c, if_pos c]
          · rw [if_neg c, if_neg c, if_neg c])
        rw [euu] at hA8
        have hM8 := hB7.mo hM6 (by decide)
        have gx0 : GD n (up (up f 42 k) 40 (tb_wo (f 40 ||| 2 ^ i) (2 ^ i))) := gk.w40 (Nat.lt_of_le_of_lt (tb_wo_le _ _) (wb_lt (b := true) g.2.2.1 hi)) (fun j hj hb => by
          rw [up_ne (by omega)]
          rw [wo_bit2, Bool.and_eq_true, b1] at hb
          by_cases c : i = j
          · rw [← c]; exact ht
          · rw [if_neg c] at hb
            exact (g.2.1 j hj).2.2.2.2.2 hb.1)
        have e3' : up (up f 42 k) 40 (tb_wo (f 40 ||| 2 ^ i) (2 ^ i)) (5 * i + 3) = f (5 * i + 3) := by rw [up_ne (by omega), up_ne (by omega)]
        refine ex_go 80 rfl ?_
        refine ex_cv rfl rfl rfl rfl hM8 rfl (d' := 0) (by omega) (c_of3 hM8 hA8 (by omega)) ?_
        rw [e3', tv_lt ht]
        refine ex_cv rfl rfl rfl rfl hM8 rfl (d' := 2) (by omega) (c_harmOf hM8 hA8 gx0 ht (Nat.le_refl _)) ?_
        have l0 := hm_lt gx0 (f (5 * i + 3))
        have key := worth_hm (v := k) (X1 := f 40 ||| 2 ^ i) (X0 := tb_wo (f 40 ||| 2 ^ i) (2 ^ i)) g hi ht (by rw [b1, if_pos rfl]) (by rw [wo_bit2]; simp) (fun j hj => by rw [wo_bit2, decide_eq_true (Ne.symm hj), Bool.and_true])
        have hBB := hB1.tr ((hB2.tr hB3).tr (hB5.tr hB7))
        by_cases c2 : 10 * k < won n f i
        · rw [if_pos c2]
          refine ex_igeF rfl (nI_ge (key.mpr c2) (by omega)) ?_
          refine ex_go 80 rfl ?_
          exact ex_iret rfl (rq_9 hS hR hBB hA8)
        · rw [if_neg c2]
          refine ex_igeT rfl (nI_le (Nat.le_of_not_lt (fun z => c2 (key.mp z))) (by omega)) ?_
          refine ex_go 80 rfl ?_
          rw [dec1]
          exact ex_weak (K (by omega) h7 hA8.la hBB) (by repeat (first | exact W_n | refine W_e ?_ | refine W_i ?_ | refine W_r ?_))
      · have hM1 := hB1.mo hM (by decide)
        refine ex_nop rfl ?_
        refine ex_go 80 rfl ?_
        refine ex_zltT rfl (by decide) ?_
        refine ex_go 80 rfl ?_
        exact ex_iret rfl (rq_9 hS hR hB1 hL1)
theorem r_change (hM : MO h n q) (hS : ST h f im) (hR : RS h) (g : GD n f) {w : Int32} (hd : 5 ≤ d) : ev_X scr d cd_X6_change 0 [.ref 57, .int w, .float 0, .float 0, .float 0, .float 0, .float 0, .float 0, .float 0] [] h (RQ h f im (.int (a_change n f w))) := by
  have hn := g.1
  unfold a_change
  refine ex_go 80 rfl ?_
  refine ex_cs rfl rfl rfl (d' := 1) (by omega) (c_isPart (Nat.le_refl _)) ?_
  cases hw : isM 2 w
  · refine ex_zneF rfl (by decide) ?_
    refine ex_go 80 rfl ?_
    exact ex_iret rfl (rq_s hS hR)
  · have hal := ha_lt g
    rw [if_pos rfl]
    refine ex_zneT rfl (by decide) ?_
    refine ex_go 80 rfl ?_
    refine ex_cvx rfl rfl rfl rfl hM rfl (d' := 4) (by omega) (c_harmR hM hS hR g (Nat.le_refl _)) ?_
    rintro v1 h1 ⟨rfl, hA1, hB1⟩
    refine ex_go 80 rfl ?_
    refine ev_loop n (fun i => ∀ h2, LA h2 59 57 → SB 59 h h2 → ev_X scr d cd_X6_change 12 [.ref 57, .int w, .int (nI (cho n f i).1), .int (cho n f i).2, .int (nI i), .float 0, .float 0, .float 0, .float 0] [] h2 (RQ h f im (.int (if (cho n f n).2 = -4 ∨ w = 0 then (cho n f n).2 else nI (cho n f n).1)))) (fun i hi K h2 hL2 hB2 => ?_) (fun h2 hL2 hB2 => ?_) h1 hA1.la hB1
    · have hM2 := hB2.mo hM (by decide)
      have hcl := cho_lt n f i
      obtain ⟨-, -, -, gi4, -⟩ := g.2.1 i hi
      refine ex_nop rfl ?_
      refine ex_go 80 rfl ?_
      refine ex_getf rfl hM2 rfl rfl ?_
      refine ex_igeF rfl (nI_ge hi (by first | omega | decide)) ?_
      refine ex_go 80 rfl ?_
      try dsimp only
      try simp only [nI_inc, nI_1, nI_add, nI_mul2, tb_and, tb_or, tb_andn, nI_x5, nI_x2, nI_p0, nI_p2, nI_p3, nI_p4, nI_q45]
      have L : ∀ h3, LA h3 59 57 → SB 59 h h3 → ev_X scr d cd_X6_change 21 [.ref 57, .int w, .int (nI (chi n f i (cho n f i) (i + 1)).1), .int (chi n f i (cho n f i) (i + 1)).2, .int (nI i), .int (nI (i + 1)), .float 0, .float 0, .float 0] [] h3 (RQ h f im (.int (if (cho n f n).2 = -4 ∨ w = 0 then (cho n f n).2 else nI (cho n f n).1))) := by
        refine ev_loopF (i + 1) n (by omega) (fun j => ∀ h3, LA h3 59 57 → SB 59 h h3 → ev_X scr d cd_X6_change 21 [.ref 57, .int w, .int (nI (chi n f i (cho n f i) j).1), .int (chi n f i (cho n f i) j).2, .int (nI i), .int (nI j), .float 0, .float 0, .float 0] [] h3 (RQ h f im (.int (if (cho n f n).2 = -4 ∨ w = 0 then (cho n f n).2 else nI (cho n f n).1)))) (fun j hj1 hj K2 h3 hL3 hB3 => ?_) (fun h3 hL3 hB3 => ?_)
        · have hM3 := hB3.mo hM (by decide)
          have hS3 := hS.b9 hB3
          have hcl2 := chi_lt n f i (cho n f i) j
          obtain ⟨-, -, -, gj4, -⟩ := g.2.1 j hj
          rw [chi] at K2
          refine ex_nop rfl ?_
          refine ex_go 80 rfl ?_
          refine ex_getf rfl hM3 rfl rfl ?_
          refine ex_igeF rfl (nI_ge hj (by omega)) ?_
          refine ex_go 80 rfl ?_
          refine ex_cvx rfl rfl rfl rfl hM3 rfl (d' := 0) (by omega) (c_starts hM3 hS3 hL3) ?_
          rintro v4 h4 ⟨rfl, hA4, hB4⟩
          have hM4 := hB4.mo hM3 (by decide)
          have no : ¬ msw f i j = true → ev_X scr d cd_X6_change 78 [.ref 57, .int w, .int (nI (chi n f i (cho n f i) j).1), .int (chi n f i (cho n f i) j).2, .int (nI i), .int (nI j), .int (tv (f (5 * i + 3))), .int (tv (f (5 * j + 3))), .float 0] [] h4 (RQ h f im (.int (if (cho n f n).2 = -4 ∨ w = 0 then (cho n f n).2 else nI (cho n f n).1))) := by
            intro cs
            rw [if_neg (fun k => cs k.2.1)] at K2
            refine ex_go 80 rfl ?_
            try dsimp only
            try simp only [nI_inc, nI_1, nI_add, nI_mul2, tb_and, tb_or, tb_andn, nI_x5, nI_x2, nI_p0, nI_p2, nI_p3, nI_p4, nI_q45]
            exact ex_weak (K2 h4 hA4.la (hB3.tr hB4)) (by repeat (first | exact W_n | refine W_e ?_ | refine W_i ?_ | refine W_r ?_))
          refine ex_go 80 rfl ?_
          refine ex_cv rfl rfl rfl rfl hM4 rfl (d' := 0) (by omega) (c_of3 hM4 hA4 (by omega)) ?_
          refine ex_go 80 rfl ?_
          refine ex_cv rfl rfl rfl rfl hM4 rfl (d' := 0) (by omega) (c_of3 hM4 hA4 (by omega)) ?_
          refine ex_go 80 rfl ?_
          refine ex_ieq rfl (fun k1 => ?_) (fun k1 => ?_)
          · rw [tv_m4 gi4] at k1
            exact no (fun c => by unfold msw at c; rw [decide_eq_true_eq] at c; omega)
          · rw [tv_m4 gi4] at k1
            refine ex_go 80 rfl ?_
            refine ex_ieq rfl (fun k2 => ?_) (fun k2 => ?_)
            · rw [tv_m4 gj4] at k2
              exact no (fun c => by unfold msw at c; rw [decide_eq_true_eq] at c; omega)
            · rw [tv_m4 gj4] at k2
              refine ex_go 80 rfl ?_
              refine ex_ieq rfl (fun k3 => ?_) (fun k3 => ?_)
              · rw [tv_inj gi4 gj4] at k3
                exact no (fun c => by unfold msw at c; rw [decide_eq_true_eq] at c; omega)
              · rw [tv_inj gi4 gj4] at k3
                have cs : msw f i j = true := decide_eq_true ⟨by omega, by omega, k3⟩
                have gx := g.ex hi hj cs (by omega)
                have hxl := ha_lt gx
                refine ex_go 80 rfl ?_
                refine ex_cvx rfl rfl rfl rfl hM4 rfl (d' := 0) (by omega) (c_becomesOf (w := 3) (v := f (5 * j + 3)) hM4 hA4 (by omega) (by decide) (by rw [rvx_t (by omega)])) ?_
                rintro v5 h5 ⟨rfl, hA5, hB5⟩
                have hM5 := hB5.mo hM4 (by decide)
                refine ex_go 80 rfl ?_
                refine ex_cvx rfl rfl rfl rfl hM5 rfl (d' := 0) (by omega) (c_becomesOf (w := 3) (v := f (5 * i + 3)) hM5 hA5 (by omega) (by decide) (by rw [rvx_t (by omega)])) ?_
                rintro v6 h6 ⟨rfl, hA6, hB6⟩
                have hM6 := hB6.mo hM5 (by decide)
                have hA7 : AT h6 (exF f i j) := hA6
                have hBB := hB3.tr (hB4.tr (hB5.tr hB6))
                refine ex_go 80 rfl ?_
                refine ex_cv rfl rfl rfl rfl hM6 rfl (d' := 3) (by omega) (c_harmAll hM6 hA7 gx (Nat.le_refl _)) ?_
                refine ex_go 80 rfl ?_
                by_cases k4 : ha n (exF f i j) < (chi n f i (cho n f i) j).1
                · rw [if_pos ⟨by omega, cs, k4⟩] at K2
                  refine ex_igeF rfl (nI_ge k4 (by omega)) ?_
                  refine ex_go 80 rfl ?_
                  dsimp only
                  rw [show (10 : Int32) = nI 10 from rfl, nI_mul2, nI_add]
                  refine ex_igeF rfl (nI_ge k4 (by omega)) ?_
                  refine ex_go 80 rfl ?_
                  try dsimp only
                  try simp only [nI_inc, nI_1, nI_add, nI_mul2, tb_and, tb_or, tb_andn, nI_x5, nI_x2, nI_p0, nI_p2, nI_p3, nI_p4, nI_q45]
                  exact ex_weak (K2 h6 hA7.la hBB) (by repeat (first | exact W_n | refine W_e ?_ | refine W_i ?_ | refine W_r ?_))
                · rw [if_neg (fun k => k4 k.2.2)] at K2
                  refine ex_igeT rfl (nI_le (by omega) (by omega)) ?_
                  refine ex_go 80 rfl ?_
                  refine ex_igeT rfl (nI_le (by omega) (by omega)) ?_
                  refine ex_go 80 rfl ?_
                  try dsimp only
                  try simp only [nI_inc, nI_1, nI_add, nI_mul2, tb_and, tb_or, tb_andn, nI_x5, nI_x2, nI_p0, nI_p2, nI_p3, nI_p4, nI_q45]
                  exact ex_weak (K2 h6 hA7.la hBB) (by repeat (first | exact W_n | refine W_e ?_ | refine W_i ?_ | refine W_r ?_))
        · have hM3 := hB3.mo hM (by decide)
          refine ex_nop rfl ?_
          refine ex_go 80 rfl ?_
          refine ex_getf rfl hM3 rfl rfl ?_
          refine ex_igeT rfl (nI_le (Nat.le_refl _) (by first | omega | decide)) ?_
          refine ex_go 80 rfl ?_
          try dsimp only
          try simp only [nI_inc, nI_1, nI_add, nI_mul2, tb_and, tb_or, tb_andn, nI_x5, nI_x2, nI_p0, nI_p2, nI_p3, nI_p4, nI_q45]
          exact ex_weak (K h3 hL3 hB3) (by repeat (first | exact W_n | refine W_e ?_ | refine W_i ?_ | refine W_r ?_))
      rw [chi_0 n f i (cho n f i) (i + 1) (Nat.le_refl _)] at L
      exact ex_weak (L h2 hL2 hB2) (by repeat (first | exact W_n | refine W_e ?_ | refine W_i ?_ | refine W_r ?_))
    · have hM2 := hB2.mo hM (by decide)
      refine ex_nop rfl ?_
      refine ex_go 80 rfl ?_
      refine ex_getf rfl hM2 rfl rfl ?_
      refine ex_igeT rfl (nI_le (Nat.le_refl _) (by first | omega | decide)) ?_
      refine ex_go 80 rfl ?_
      refine ex_ine rfl (fun hc => ?_) (fun hc => ?_)
      · refine ex_go 80 rfl ?_
        refine ex_zne rfl (fun k1 => ?_) (fun k1 => ?_)
        · rw [if_neg (fun k => k.elim hc k1)]
          refine ex_go 80 rfl ?_
          exact ex_iret rfl (rq_9 hS hR hB2 hL2)
        · rw [if_pos (Or.inr k1)]
          refine ex_go 80 rfl ?_
          exact ex_iret rfl (rq_9 hS hR hB2 hL2)
      · rw [if_pos (Or.inl hc), hc]
        refine ex_go 80 rfl ?_
        exact ex_iret rfl (rq_9 hS hR hB2 hL2)
end WORTH
