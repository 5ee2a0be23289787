/-! takes, change, see, forget. -/
def a_see (n : Nat) (f : Nat → Nat) (m v : Int32) : Int32 := if (isM n m && isM 100 v) = true then (if f 44 = 6 then -3 else nI (f 44 + 1)) else -1
def seeF (f : Nat → Nat) (i v : Nat) : Nat → Nat := up (up (up f (45 + 2 * f 44) i) (46 + 2 * f 44) v) 44 (f 44 + 1)
def s_see (n : Nat) (f : Nat → Nat) (m v : Int32) : Nat → Nat := if (isM n m && isM 100 v) = true then (if f 44 = 6 then f else seeF f (ix m) (ix v)) else f
def a_forget (f : Nat → Nat) (v : Int32) : Int32 := if isM (f 44 + 1) v = true then nI (f 44) else -1
def s_forget (f : Nat → Nat) (v : Int32) : Nat → Nat := if isM (f 44 + 1) v = true then up f 44 (ix v) else f
theorem gd_see {n : Nat} {f : Nat → Nat} (g : GD n f) (m v : Int32) : GD n (s_see n f m v) := by
  unfold s_see
  by_cases c : (isM n m && isM 100 v) = true
  · rw [if_pos c]
    rw [Bool.and_eq_true] at c
    have hn := g.1
    obtain ⟨i, hi, rfl⟩ := isM_of c.1 (by omega)
    obtain ⟨j, hj, rfl⟩ := isM_of c.2 (by omega)
    rw [ix_nI (by omega), ix_nI (by omega)]
    by_cases c6 : f 44 = 6
    · rw [if_pos c6]; exact g
    · rw [if_neg c6]
      obtain ⟨g1, g2, g3, g4, g5, g6, g7, g8, g9, g10⟩ := id g
      have u : ∀ k, k ≠ 44 → k ≠ 45 + 2 * f 44 → k ≠ 46 + 2 * f 44 → seeF f i j k = f k := fun k a b c => by unfold seeF; rw [up_ne a, up_ne c, up_ne b]
      have u44 : seeF f i j 44 = f 44 + 1 := up_eq
      have u45 : seeF f i j (45 + 2 * f 44) = i := by unfold seeF; rw [up_ne (by omega), up_ne (by omega), up_eq]
      have u46 : seeF f i j (46 + 2 * f 44) = j := by unfold seeF; rw [up_ne (by omega), up_eq]
      refine g.hi (fun k hk => u k (by omega) (by omega) (by omega)) (by rw [u 41 (by omega) (by omega) (by omega)]; exact g4) (by rw [u 42 (by omega) (by omega) (by omega)]; exact g5) (by rw [u 43 (by omega) (by omega) (by omega)]; exact g7) (by rw [u44]; omega) (fun k hk => ?_) (fun t ht => by rw [u _ (by omega) (by omega) (by omega)]; exact g10 t ht)
      rw [u44] at hk
      by_cases ck : k = f 44
      · rw [ck, u45, u46]
        exact ⟨hi, by omega⟩
      · rw [u _ (by omega) (by omega) (by omega), u _ (by omega) (by omega) (by omega)]
        exact g9 k (by omega)
  · rw [if_neg c]; exact g
theorem gd_forget {n : Nat} {f : Nat → Nat} (g : GD n f) (v : Int32) : GD n (s_forget f v) := by
  unfold s_forget
  by_cases c : isM (f 44 + 1) v = true
  · rw [if_pos c]
    have := g.2.2.2.2.2.2.2.1
    obtain ⟨j, hj, rfl⟩ := isM_of c (by omega)
    rw [ix_nI (by omega)]
    exact g.f44 (by omega)
  · rw [if_neg c]; exact g
section CHANGE
variable {scr : List Int32} {d : Nat} {h : ev_H} {n : Nat} {f : Nat → Nat} {x : Nat → Int32} {q : Nat → Int32} {im : Nat → Int32}
theorem k_takes (hC : CO h x) (hT : TA h 1 n f) (hL : TL h) (g : GD n f) {m : Int32} (hd : 5 ≤ d) : ev_X scr d cd_X5_takes 0 [.ref 0, .int m, .float 0, .float 0, .float 0, .float 0] [] h (CQ h n f (.int (a_takes n f m))) := by
  have hn := g.1
  unfold a_takes
  refine ex_go 80 rfl ?_
  refine ex_getf rfl hC rfl rfl ?_
  refine ex_go 80 rfl ?_
  refine ex_cv rfl rfl rfl rfl hT.1 rfl (d' := 0) (by omega) (c_hasMan hT hn) ?_
  cases hm : isM n m
  · refine ex_zneF rfl (by decide) ?_
    refine ex_go 80 rfl ?_
    exact ex_iret rfl (cq_s hT hL)
  · obtain ⟨i, hi, rfl⟩ := isM_of hm (by omega)
    obtain ⟨g1, g2, g3, g4, g5, g6⟩ := g.2.1 i hi
    rw [ix_nI (by omega), if_pos rfl]
    refine ex_zneT rfl (by decide) ?_
    refine ex_go 80 rfl ?_
    refine ex_getf rfl hC rfl rfl ?_
    refine ex_getf rfl hT.1 rfl rfl ?_
    refine ex_go 80 rfl ?_
    try dsimp only
    try simp only [nI_inc, nI_1, nI_add, nI_mul2, tb_and, tb_or, tb_andn]
    rw [show (10 : Int32) = nI 10 from rfl, nI_mul2]
    refine ev_loop 4 (fun t => ∀ h1, TA h1 1 n f → TL h1 → FR 10 (10 + 8) h h1 → ev_X scr d cd_X5_takes 17 [.ref 0, .int (nI i), .int (nI (tkf n f i t).1), .int (tkf n f i t).2, .int (nI t), .float 0] [] h1 (CQ h n f (.int (tkf n f i 4).2))) (fun t ht K h1 hT1 hL1 hF1 => ?_) (fun h1 hT1 hL1 hF1 => ?_) h hT hL FR.rf
    · have hC1 := (hF1.2 0 (by decide)).trans hC
      have htl := tkf_lt g i t
      rw [tkf] at K
      refine ex_nop rfl ?_
      refine ex_go 80 rfl ?_
      refine ex_igeF rfl (nI_ge ht (by decide)) ?_
      refine ex_go 80 rfl ?_
      refine ex_getf rfl hC1 rfl rfl ?_
      refine ex_getf rfl hT1.1 rfl rfl ?_
      refine ex_go 80 rfl ?_
      refine ex_ia _ rfl hT1.2.2.2.2.1 rfl (by first | exact trivial | assumption | (show _ < _; omega)) (by omega) (by omega) rfl ?_
      refine ex_ieq rfl (fun hc => ?_) (fun hc => ?_)
      · have c : f (5 * i + 3) = t := ((tv_eq ht).mp hc.symm)
        rw [if_neg (fun k => k.1 c)] at K
        refine ex_go 80 rfl ?_
        try dsimp only
        try simp only [nI_inc, nI_1, nI_add, nI_mul2, tb_and, tb_or, tb_andn]
        exact K h1 hT1 hL1 hF1
      · have c : f (5 * i + 3) ≠ t := fun q => hc ((tv_eq ht).mpr q).symm
        refine ex_go 80 rfl ?_
        refine ex_getf rfl hC1 rfl rfl ?_
        refine ex_go 80 rfl ?_
        refine ex_cv rfl rfl rfl rfl hT1.1 rfl (d' := 2) (by omega) (c_whyNoSeat hT1 g hi ht (Nat.le_refl _)) ?_
        by_cases cf : f (60 + t) ≤ sz n f t
        · rw [if_neg (fun k => k.2.1 cf)] at K
          rw [show wns n f i t = -3 from if_pos ⟨c, cf⟩]
          refine ex_zneT rfl (by decide) ?_
          refine ex_go 80 rfl ?_
          try dsimp only
          try simp only [nI_inc, nI_1, nI_add, nI_mul2, tb_and, tb_or, tb_andn]
          exact K h1 hT1 hL1 hF1
        · rw [show wns n f i t = 0 from if_neg (fun k => cf k.2)]
          obtain ⟨n2, f2, hR1⟩ := hL1
          refine ex_zneF rfl (by decide) ?_
          refine ex_go 80 rfl ?_
          refine ex_getf rfl hC1 rfl rfl ?_
          refine ex_go 80 rfl ?_
          refine ex_getf rfl hC1 rfl rfl ?_
          refine ex_cvx rfl rfl rfl rfl hR1.1 rfl (d' := 1) (by omega) (c_copyFrom hR1 hT1 (by decide) rfl (Nat.le_refl _)) ?_
          rintro v2 h2 ⟨rfl, hR2, hF2⟩
          have hC2 := (hF2.2 0 (by decide)).trans hC1
          have hT2 := hT1.kept hF2 (by decide)
          refine ex_go 80 rfl ?_
          refine ex_getf rfl hC2 rfl rfl ?_
          refine ex_go 80 rfl ?_
          refine ex_cvx rfl rfl rfl rfl hR2.1 rfl (d' := 0) (by omega) (c_seat hR2 hn hi ht g1) ?_
          rintro v3 h3 ⟨rfl, hR3, hF3⟩
          have hC3 := (hF3.2 0 (by decide)).trans hC2
          have hT3 := hT2.kept hF3 (by decide)
          have hF4 := (hF1.tr hF2).tr hF3
          have gs := g.se hi ht
          have hl := hm_lt gs t
          refine ex_go 80 rfl ?_
          refine ex_getf rfl hC3 rfl rfl ?_
          refine ex_go 80 rfl ?_
          refine ex_cv rfl rfl rfl rfl hR3.1 rfl (d' := 4) (by omega) (c_harmOfTen hR3 gs ht (Nat.le_refl _)) ?_
          refine ex_go 80 rfl ?_
          refine ex_ige rfl (fun k1 => ?_) (fun k1 => ?_)
          · rw [nI_leI (by omega) (by omega)] at k1
            rw [if_neg (fun k => by omega)] at K
            refine ex_go 80 rfl ?_
            try dsimp only
            try simp only [nI_inc, nI_1, nI_add, nI_mul2, tb_and, tb_or, tb_andn]
            exact ex_weak (K h3 hT3 ⟨_, _, hR3⟩ hF4) (by repeat (first | exact W_n | refine W_e ?_ | refine W_i ?_ | refine W_r ?_))
          · rw [nI_leI (by omega) (by omega)] at k1
            rw [if_pos ⟨c, cf, by omega⟩] at K
            refine ex_go 80 rfl ?_
            try dsimp only
            try simp only [nI_inc, nI_1, nI_add, nI_mul2, tb_and, tb_or, tb_andn]
            exact ex_weak (K h3 hT3 ⟨_, _, hR3⟩ hF4) (by repeat (first | exact W_n | refine W_e ?_ | refine W_i ?_ | refine W_r ?_))
    · have hC1 := (hF1.2 0 (by decide)).trans hC
      refine ex_nop rfl ?_
      refine ex_go 80 rfl ?_
      refine ex_igeT rfl (nI_le (Nat.le_refl 4) (by decide)) ?_
      refine ex_go 80 rfl ?_
      exact ex_iret rfl (⟨rfl, hT1, hL1, hF1.wide (by decide) (by decide)⟩)
theorem r_takes (hM : MO h n q) (hS : ST h f im) (hR : RS h) (hMo : MS h f) (g : GD n f) {m : Int32} (hd : 3 ≤ d) : ev_X scr d cd_X6_takes 0 [.ref 57, .int m, .float 0, .float 0, .float 0, .float 0] [] h (RQ h f im (.int (a_takes n f m))) := by
  have hn := g.1
  unfold a_takes
  refine ex_go 80 rfl ?_
  refine ex_cv rfl rfl rfl rfl hM rfl (d' := 1) (by omega) (c_isMan hM hn (Nat.le_refl _)) ?_
  cases hmn : isM n m
  · refine ex_zneF rfl (by decide) ?_
    refine ex_go 80 rfl ?_
    exact ex_iret rfl (rq_s hS hR)
  · obtain ⟨i, hi, rfl⟩ := isM_of hmn (by omega)
    obtain ⟨g1, g2, g3, g4, g5, g6⟩ := g.2.1 i hi
    rw [ix_nI (by omega), if_pos rfl]
    refine ex_zneT rfl (by decide) ?_
    refine ex_go 80 rfl ?_
    refine ex_getf rfl hM rfl rfl ?_
    refine ex_go 80 rfl ?_
    refine ex_ia 41 rfl hS rfl (by first | exact trivial | assumption | (show _ < _; omega)) (by omega) (by omega) rfl ?_
    simp (disch := omega) only [rs_lt, rv_0, rv_1, rv_2, rv_3, rv_4, rv_40, rv_41, rv_42, rv_43, rv_44]
    refine ex_go 80 rfl ?_
    try dsimp only
    try simp only [nI_inc, nI_1, nI_add, nI_mul2, tb_and, tb_or, tb_andn, nI_x5, nI_x2, nI_p0, nI_p2, nI_p3, nI_p4, nI_q45]
    rw [show (10 : Int32) = nI 10 from rfl, nI_mul2]
    refine ev_loop 4 (fun t => ∀ h1, LA h1 59 57 → SB 59 h h1 → ev_X scr d cd_X6_takes 17 [.ref 57, .int (nI i), .int (nI (tkf n f i t).1), .int (tkf n f i t).2, .int (nI t), .float 0] [] h1 (RQ h f im (.int (tkf n f i 4).2))) (fun t ht K h1 hL1 hB1 => ?_) (fun h1 hL1 hB1 => ?_) h hR.1 SB.rf
    · have hM1 := hB1.mo hM (by decide)
      have hS1 := hS.b9 hB1
      have hMo1 := hMo.sb hB1 (by decide)
      have htl := tkf_lt g i t
      rw [tkf] at K
      refine ex_nop rfl ?_
      refine ex_go 80 rfl ?_
      refine ex_igeF rfl (nI_ge ht (by decide)) ?_
      refine ex_go 80 rfl ?_
      refine ex_getf rfl hM1 rfl rfl ?_
      refine ex_go 80 rfl ?_
      try dsimp only
      try simp only [nI_inc, nI_1, nI_add, nI_mul2, tb_and, tb_or, tb_andn, nI_x5, nI_x2, nI_p0, nI_p2, nI_p3, nI_p4, nI_q45]
      refine ex_ia _ rfl hS1 rfl (by first | exact trivial | assumption | (show _ < _; omega)) (by omega) (by omega) rfl ?_
      simp (disch := omega) only [rs_lt, rv_0, rv_1, rv_2, rv_3, rv_4, rv_40, rv_41, rv_42, rv_43, rv_44]
      refine ex_go 80 rfl ?_
      refine ex_ieq rfl (fun hc => ?_) (fun hc => ?_)
      · have c : f (5 * i + 3) = t := ((tv_eq ht).mp hc)
        rw [if_neg (fun k => k.1 c)] at K
        refine ex_go 80 rfl ?_
        try dsimp only
        try simp only [nI_inc, nI_1, nI_add, nI_mul2, tb_and, tb_or, tb_andn, nI_x5, nI_x2, nI_p0, nI_p2, nI_p3, nI_p4, nI_q45]
        exact K h1 hL1 hB1
      · have c : f (5 * i + 3) ≠ t := fun q => hc ((tv_eq ht).mpr q)
        refine ex_go 80 rfl ?_
        refine ex_cvx rfl rfl rfl rfl hM1 rfl (d' := 2) (by omega) (c_isFull hM1 hS1 hL1 hMo1 g ht (Nat.le_refl _)) ?_
        rintro v2 h2 ⟨rfl, hA2, hB2⟩
        have hM2 := hB2.mo hM1 (by decide)
        have hS2 := hS1.b9 hB2
        by_cases cf : f (60 + t) ≤ sz n f t
        · rw [if_neg (fun k => k.2.1 cf)] at K
          rw [decide_eq_true cf]
          refine ex_zneT rfl (by decide) ?_
          refine ex_go 80 rfl ?_
          try dsimp only
          try simp only [nI_inc, nI_1, nI_add, nI_mul2, tb_and, tb_or, tb_andn, nI_x5, nI_x2, nI_p0, nI_p2, nI_p3, nI_p4, nI_q45]
          exact K h2 hA2.la (hB1.tr hB2)
        · rw [decide_eq_false cf]
          refine ex_zneF rfl (by decide) ?_
          refine ex_go 80 rfl ?_
          refine ex_cvx rfl rfl rfl rfl hM2 rfl (d' := 0) (by omega) (c_starts hM2 hS2 hA2) ?_
          rintro v3 h3 ⟨rfl, hA3, hB3⟩
          have hM3 := hB3.mo hM2 (by decide)
          have hS3 := hS2.b9 hB3
          have gs := g.se hi ht
          have hl := hm_lt gs t
          have tail : ∀ y : Int32, y = rvx (5 * i + 0) (if f (5 * i + 3) = 4 then 0 else f (5 * i)) → ev_X scr d cd_X6_takes 50 [.ref 57, .int (nI i), .int (nI (tkf n f i t).1), .int (tkf n f i t).2, .int (nI t), .float 0] [.int y, .int 0, .int (nI i), .ref 57] h3 (RQ h f im (.int (tkf n f i 4).2)) := by
            intro y hy
            refine ex_cvx rfl rfl rfl rfl hM3 rfl (d' := 0) (by omega) (c_becomesOf (w := 0) hM3 hA3 (by omega) (by decide) hy) ?_
            rintro v4 h4 ⟨rfl, hA4, hB4⟩
            have hM4 := hB4.mo hM3 (by decide)
            refine ex_go 80 rfl ?_
            refine ex_cvx rfl rfl rfl rfl hM4 rfl (d' := 0) (by omega) (c_becomesOf (w := 3) (v := t) hM4 hA4 (by omega) (by decide) (by rw [rvx_t (by omega), tv_lt ht])) ?_
            rintro v5 h5 ⟨rfl, hA5, hB5⟩
            have hM5 := hB5.mo hM4 (by decide)
            have hA6 : AT h5 (seF f i t) := by rw [seF_up g hi]; exact hA5
            have hB6 := ((hB1.tr hB2).tr hB3).tr (hB4.tr hB5)
            refine ex_go 80 rfl ?_
            refine ex_cv rfl rfl rfl rfl hM5 rfl (d' := 2) (by omega) (c_harmOf hM5 hA6 gs ht (Nat.le_refl _)) ?_
            refine ex_go 80 rfl ?_
            by_cases k1 : hm n (seF f i t) t < (tkf n f i t).1
            · rw [if_pos ⟨c, cf, k1⟩] at K
              refine ex_igeF rfl (nI_ge k1 (by omega)) ?_
              refine ex_go 80 rfl ?_
              refine ex_igeF rfl (nI_ge k1 (by omega)) ?_
              refine ex_go 80 rfl ?_
              try dsimp only
              try simp only [nI_inc, nI_1, nI_add, nI_mul2, tb_and, tb_or, tb_andn, nI_x5, nI_x2, nI_p0, nI_p2, nI_p3, nI_p4, nI_q45]
              exact ex_weak (K h5 hA6.la hB6) (by repeat (first | exact W_n | refine W_e ?_ | refine W_i ?_ | refine W_r ?_))
            · rw [if_neg (fun k => k1 k.2.2)] at K
              refine ex_igeT rfl (nI_le (by omega) (by omega)) ?_
              refine ex_go 80 rfl ?_
              refine ex_igeT rfl (nI_le (by omega) (by omega)) ?_
              refine ex_go 80 rfl ?_
              try dsimp only
              try simp only [nI_inc, nI_1, nI_add, nI_mul2, tb_and, tb_or, tb_andn, nI_x5, nI_x2, nI_p0, nI_p2, nI_p3, nI_p4, nI_q45]
              exact ex_weak (K h5 hA6.la hB6) (by repeat (first | exact W_n | refine W_e ?_ | refine W_i ?_ | refine W_r ?_))
          refine ex_go 80 rfl ?_
          refine ex_cv rfl rfl rfl rfl hM3 rfl (d' := 0) (by omega) (c_isWanderer hM3 hS3 (by omega) g4) ?_
          by_cases c4 : f (5 * i + 3) = 4
          · rw [decide_eq_true c4]
            refine ex_zeqF rfl (by decide) ?_
            refine ex_go 2 rfl ?_
            exact tail _ (by rw [if_pos c4, rvx_n (by omega)]; rfl)
          · rw [decide_eq_false c4]
            refine ex_zeqT rfl (by decide) ?_
            refine ex_go 80 rfl ?_
            refine ex_cv rfl rfl rfl rfl hM3 rfl (d' := 0) (by omega) (c_of0 hM3 hA3 (by omega)) ?_
            exact tail _ (by rw [if_neg c4, rvx_n (by omega)])
    · have hM1 := hB1.mo hM (by decide)
      refine ex_nop rfl ?_
      refine ex_go 80 rfl ?_
      refine ex_igeT rfl (nI_le (Nat.le_refl 4) (by decide)) ?_
      refine ex_go 80 rfl ?_
      exact ex_iret rfl (rq_9 hS hR hB1 hL1)
theorem c_harmBySwap (hC : CO h x) (hT : TA h 10 n f) (g : GD n f) {i j : Nat} (hi : i < n) (hj : j < n) (hij : i ≠ j) (hd : 6 ≤ d) : ev_X scr d cd_X5_harmBySwap 0 [.ref 0, .int (nI i), .int (nI j), .float 0] [] h (fun v h' => v = some (.int (nI (if msw f i j = true then ha n (exF f i j) else 1000000))) ∧ TA h' 10 n f ∧ FR 10 (10 + 8) h h') := by
  have hn := g.1
  refine ex_go 80 rfl ?_
  refine ex_getf rfl hC rfl rfl ?_
  refine ex_go 80 rfl ?_
  refine ex_cv rfl rfl rfl rfl hT.1 rfl (d' := 0) (by omega) (c_maySwap hT g hi hj) ?_
  show ev_X scr d cd_X5_harmBySwap _ _ [.int (nI (tb_b (msw f i j)))] _ _
  cases hs : msw f i j
  · refine ex_zneF rfl (by decide) ?_
    refine ex_go 80 rfl ?_
    exact ex_iret rfl (⟨rfl, hT, FR.rf⟩)
  · refine ex_zneT rfl (by decide) ?_
    refine ex_go 80 rfl ?_
    refine ex_getf rfl hC rfl rfl ?_
    refine ex_go 80 rfl ?_
    refine ex_cvx rfl rfl rfl rfl hT.1 rfl (d' := 0) (by omega) (c_exchange hT hn hi hj) ?_
    rintro v1 h1 ⟨rfl, hT1, hF1⟩
    have hC1 := (hF1.2 0 (by decide)).trans hC
    refine ex_go 80 rfl ?_
    refine ex_getf rfl hC1 rfl rfl ?_
    refine ex_cv rfl rfl rfl rfl hT1.1 rfl (d' := 5) (by omega) (c_harmOfAll hT1 (g.ex hi hj hs hij) (Nat.le_refl _)) ?_
    refine ex_go 80 rfl ?_
    refine ex_getf rfl hC1 rfl rfl ?_
    refine ex_go 80 rfl ?_
    refine ex_cvx rfl rfl rfl rfl hT1.1 rfl (d' := 0) (by omega) (c_exchange hT1 hn hi hj) ?_
    rintro v2 h2 ⟨rfl, hT2, hF2⟩
    rw [ex_ex f i j hij] at hT2
    refine ex_go 80 rfl ?_
    exact ex_iret rfl (⟨rfl, hT2, hF1.tr hF2⟩)
theorem k_change (hC : CO h x) (hT : TA h 1 n f) (hL : TL h) (g : GD n f) {w : Int32} (hd : 7 ≤ d) : ev_X scr d cd_X5_change 0 [.ref 0, .int w, .float 0, .float 0, .float 0, .float 0, .float 0] [] h (CQ h n f (.int (a_change n f w))) := by
  have hn := g.1
  unfold a_change
  refine ex_go 80 rfl ?_
  refine ex_cs rfl rfl rfl (d' := 0) (by omega) (c_isWithin (k := 1) (by decide)) ?_
  show ev_X scr d cd_X5_change _ _ [.int (nI (tb_b (isM 2 w)))] _ _
  cases hw : isM 2 w
  · refine ex_zneF rfl (by decide) ?_
    refine ex_go 80 rfl ?_
    exact ex_iret rfl (cq_s hT hL)
  · obtain ⟨n2, f2, hR⟩ := hL
    have hal := ha_lt g
    rw [if_pos rfl]
    refine ex_zneT rfl (by decide) ?_
    refine ex_go 80 rfl ?_
    refine ex_getf rfl hC rfl rfl ?_
    refine ex_go 80 rfl ?_
    refine ex_getf rfl hC rfl rfl ?_
    refine ex_cvx rfl rfl rfl rfl hR.1 rfl (d' := 1) (by omega) (c_copyFrom hR hT (by decide) rfl (Nat.le_refl _)) ?_
    rintro v1 h1 ⟨rfl, hR1, hF1⟩
    have hC1 := (hF1.2 0 (by decide)).trans hC
    have hT1 := hT.kept hF1 (by decide)
    refine ex_go 80 rfl ?_
    refine ex_getf rfl hC1 rfl rfl ?_
    refine ex_cv rfl rfl rfl rfl hT1.1 rfl (d' := 5) (by omega) (c_harmOfAll hT1 g (Nat.le_refl _)) ?_
    refine ex_go 80 rfl ?_
    refine ev_loop n (fun i => ∀ h2, TA h2 10 n f → FR 10 (10 + 8) h h2 → ev_X scr d cd_X5_change 19 [.ref 0, .int w, .int (nI (cho n f i).1), .int (cho n f i).2, .int (nI i), .float 0, .float 0] [] h2 (CQ h n f (.int (if (cho n f n).2 = -4 ∨ w = 0 then (cho n f n).2 else nI (cho n f n).1)))) (fun i hi K h2 hR2 hF2 => ?_) (fun h2 hR2 hF2 => ?_) h1 hR1 hF1
    · have hC2 := (hF2.2 0 (by decide)).trans hC
      have hT2 := hT.kept hF2 (by decide)
      have hcl := cho_lt n f i
      refine ex_nop rfl ?_
      refine ex_go 80 rfl ?_
      refine ex_getf rfl hC2 rfl rfl ?_
      refine ex_getf rfl hT2.1 rfl rfl ?_
      refine ex_igeF rfl (nI_ge hi (by first | omega | decide)) ?_
      refine ex_go 80 rfl ?_
      try dsimp only
      try simp only [nI_inc, nI_1, nI_add, nI_mul2, tb_and, tb_or, tb_andn]
      have L : ∀ h3, TA h3 10 n f → FR 10 (10 + 8) h h3 → ev_X scr d cd_X5_change 29 [.ref 0, .int w, .int (nI (chi n f i (cho n f i) (i + 1)).1), .int (chi n f i (cho n f i) (i + 1)).2, .int (nI i), .int (nI (i + 1)), .float 0] [] h3 (CQ h n f (.int (if (cho n f n).2 = -4 ∨ w = 0 then (cho n f n).2 else nI (cho n f n).1))) := by
        refine ev_loopF (i + 1) n (by omega) (fun j => ∀ h3, TA h3 10 n f → FR 10 (10 + 8) h h3 → ev_X scr d cd_X5_change 29 [.ref 0, .int w, .int (nI (chi n f i (cho n f i) j).1), .int (chi n f i (cho n f i) j).2, .int (nI i), .int (nI j), .float 0] [] h3 (CQ h n f (.int (if (cho n f n).2 = -4 ∨ w = 0 then (cho n f n).2 else nI (cho n f n).1)))) (fun j hj1 hj K2 h3 hR3 hF3 => ?_) (fun h3 hR3 hF3 => ?_)
        · have hC3 := (hF3.2 0 (by decide)).trans hC
          have hT3 := hT.kept hF3 (by decide)
          have hcl2 := chi_lt n f i (cho n f i) j
          rw [chi] at K2
          refine ex_nop rfl ?_
          refine ex_go 80 rfl ?_
          refine ex_getf rfl hC3 rfl rfl ?_
          refine ex_getf rfl hT3.1 rfl rfl ?_
          refine ex_igeF rfl (nI_ge hj (by omega)) ?_
          refine ex_go 80 rfl ?_
          refine ex_cvx rfl rfl rfl rfl hC3 rfl (d' := 6) (by omega) (c_harmBySwap hC3 hR3 g hi hj (by omega) (Nat.le_refl _)) ?_
          rintro v4 h4 ⟨rfl, hR4, hF4⟩
          by_cases cs : msw f i j = true
          · have hxl := ha_lt (g.ex hi hj cs (by omega))
            rw [if_pos cs]
            by_cases k1 : ha n (exF f i j) < (chi n f i (cho n f i) j).1
            · rw [if_pos ⟨by omega, cs, k1⟩] at K2
              refine ex_go 80 rfl ?_
              refine ex_igeF rfl (nI_ge k1 (by omega)) ?_
              refine ex_go 80 rfl ?_
              dsimp only
              rw [show (10 : Int32) = nI 10 from rfl, nI_mul2, nI_add, nI_inc]
              exact ex_weak (K2 h4 hR4 (hF3.tr hF4)) (by repeat (first | exact W_n | refine W_e ?_ | refine W_i ?_ | refine W_r ?_))
            · rw [if_neg (fun k => k1 k.2.2)] at K2
              refine ex_go 80 rfl ?_
              refine ex_igeT rfl (nI_le (by omega) (by omega)) ?_
              refine ex_go 80 rfl ?_
              try dsimp only
              try simp only [nI_inc, nI_1, nI_add, nI_mul2, tb_and, tb_or, tb_andn]
              exact ex_weak (K2 h4 hR4 (hF3.tr hF4)) (by repeat (first | exact W_n | refine W_e ?_ | refine W_i ?_ | refine W_r ?_))
          · rw [if_neg cs]
            rw [if_neg (fun k => cs k.2.1)] at K2
            refine ex_go 80 rfl ?_
            refine ex_igeT rfl (nI_le (by omega) (by omega)) ?_
            refine ex_go 80 rfl ?_
            try dsimp only
            try simp only [nI_inc, nI_1, nI_add, nI_mul2, tb_and, tb_or, tb_andn]
            exact ex_weak (K2 h4 hR4 (hF3.tr hF4)) (by repeat (first | exact W_n | refine W_e ?_ | refine W_i ?_ | refine W_r ?_))
        · have hC3 := (hF3.2 0 (by decide)).trans hC
          have hT3 := hT.kept hF3 (by decide)
          refine ex_nop rfl ?_
          refine ex_go 80 rfl ?_
          refine ex_getf rfl hC3 rfl rfl ?_
          refine ex_getf rfl hT3.1 rfl rfl ?_
          refine ex_igeT rfl (nI_le (Nat.le_refl _) (by first | omega | decide)) ?_
          refine ex_go 80 rfl ?_
          try dsimp only
          try simp only [nI_inc, nI_1, nI_add, nI_mul2, tb_and, tb_or, tb_andn]
          exact ex_weak (K h3 hR3 hF3) (by repeat (first | exact W_n | refine W_e ?_ | refine W_i ?_ | refine W_r ?_))
      rw [chi_0 n f i (cho n f i) (i + 1) (Nat.le_refl _)] at L
      exact ex_weak (L h2 hR2 hF2) (by repeat (first | exact W_n | refine W_e ?_ | refine W_i ?_ | refine W_r ?_))
    · have hC2 := (hF2.2 0 (by decide)).trans hC
      have hT2 := hT.kept hF2 (by decide)
      refine ex_nop rfl ?_
      refine ex_go 80 rfl ?_
      refine ex_getf rfl hC2 rfl rfl ?_
      refine ex_getf rfl hT2.1 rfl rfl ?_
      refine ex_igeT rfl (nI_le (Nat.le_refl _) (by first | omega | decide)) ?_
      refine ex_go 80 rfl ?_
      refine ex_ieq rfl (fun hc => ?_) (fun hc => ?_)
      · rw [if_pos (Or.inl hc)]
        refine ex_go 80 rfl ?_
        exact ex_iret rfl (cq_r hT hR2 hF2)
      · refine ex_go 80 rfl ?_
        refine ex_zne rfl (fun k1 => ?_) (fun k1 => ?_)
        · rw [if_neg (fun k => k.elim hc k1)]
          refine ex_go 80 rfl ?_
          exact ex_iret rfl (cq_r hT hR2 hF2)
        · rw [if_pos (Or.inr k1)]
          refine ex_go 80 rfl ?_
          exact ex_iret rfl (cq_r hT hR2 hF2)
end CHANGE
