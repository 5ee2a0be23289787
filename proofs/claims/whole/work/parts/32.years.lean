/-! Years, payments, harm, chances. -/
def PC (n : Nat) (f f' : Nat → Nat) : Prop := (∀ j, j < n → f' (5 * j + 3) = f (5 * j + 3) ∧ f' (5 * j + 4) = f (5 * j + 4)) ∧ f' 40 = f 40 ∧ f' 41 = f 41 ∧ f' 42 = f 42
section PCC
variable {n : Nat} {f f' : Nat → Nat} (e : PC n f f')
theorem pyr_c (e : PC n f f') {m : Nat} (hm : m < n) : pyr n f' m = pyr n f m := by
  unfold pyr
  rw [(e.1 m hm).1, (e.1 m hm).2, bs_cong (fun i hi => by rw [(e.1 i hi).1])]
theorem pfm_c (e : PC n f f') {m : Nat} (hm : m < n) (g : Nat → Nat) : pfm n f' g m = pfm n f g m := by
  unfold pfm
  rw [pyr_c e hm, e.2.2.1]
theorem fi_c (e : PC n f f') (w : Nat) (g : Nat → Nat) : ∀ i, i ≤ n → fi n f' w g i = fi n f w g i
  | 0, _ => rfl
  | i + 1, h => by rw [fi, fi, fi_c e w g i (by omega), (e.1 i (by omega)).1, pfm_c e (by omega)]
theorem cot_c (e : PC n f f') (g : Nat → Nat) (t : Nat) : cot n f' g t = cot n f g t := by
  unfold cot wct
  rw [e.2.1, e.2.2.2, bs_cong (fun i hi => by rw [(e.1 i hi).1]), sm_cong (fun i hi => by rw [(e.1 i hi).1])]
theorem co_c (e : PC n f f') (g : Nat → Nat) : ∀ t, co n f' g t = co n f g t
  | 0 => rfl
  | t + 1 => by rw [co, co, co_c e g t, cot_c e]
theorem yr_c (e : PC n f f') (g : Nat → Nat) (w : Nat) : yr n f' g w = yr n f g w := by
  unfold yr
  rw [fi_c e w g n (Nat.le_refl n), co_c e]
end PCC
theorem pc_43 {n : Nat} (hn : n ≤ 8) (f : Nat → Nat) (v : Nat) : PC n f (up f 43 v) := ⟨fun j hj => ⟨up_ne (by omega), up_ne (by omega)⟩, up_ne (by decide), up_ne (by decide), up_ne (by decide)⟩
theorem gd_43 (f : Nat → Nat) (v : Nat) : gd (up f 43 v) = gd f := funext (fun m => by unfold gd; rw [up_ne (by omega)])
theorem wg_43 (f u : Nat → Nat) (v : Nat) : up (wg f u) 43 v = wg (up f 43 v) u := funext (fun j => by
  unfold wg up
  by_cases c : j = 43
  · rw [if_pos c, if_neg (by omega), if_pos c]
  · rw [if_neg c, if_neg c])
theorem gd_lt {n : Nat} {f : Nat → Nat} (g : GD n f) : ∀ j, j < n → gd f j < 2 ^ 31 := fun j hj => by
  have := (g.2.1 j hj).2.2.1
  unfold gd
  omega
def a_year (n : Nat) (f : Nat → Nat) (w : Int32) : Int32 := if mdw n f w = true then (if f 43 = 99 then -3 else nI (yr n f (gd f) (ix w)).2) else -1
def s_year (n : Nat) (f : Nat → Nat) (w : Int32) : Nat → Nat := if mdw n f w = true then (if f 43 = 99 then f else wg (up f 43 (f 43 + 1)) (yr n f (gd f) (ix w)).1) else f
theorem gd_year {n : Nat} {f : Nat → Nat} (g : GD n f) (w : Int32) : GD n (s_year n f w) := by
  unfold s_year
  split
  · split
    · exact g
    · have := g.2.2.2.2.2.2.1
      exact (g.f43 (by omega)).wgg (fun m hm => Nat.le_trans (yr_le _ _ _ _ _) (g.2.1 m hm).2.2.1)
  · exact g
def a_pays (n : Nat) (f : Nat → Nat) (m w : Int32) : Int32 := if (isM n m && mdw n f w) = true then nI (gd f (ix m) - (fi n f (ix w) (gd f) n).1 (ix m)) else -1
def a_calm (n : Nat) (f : Nat → Nat) (t w : Int32) : Int64 := if (isM 4 t && isM 2 w) = true then lN (low (pd (cf n f (tb n f (ix t)) 0) n) (10 ^ pc8 (tb n f (ix t))) (ix w)) else -1
theorem pd_le {q : Nat → Nat} {c : Nat} (hc : 1 ≤ c) : ∀ {n : Nat}, (∀ i, i < n → q i ≤ c) → pd q n ≤ c ^ n
  | 0, _ => Nat.le_refl _
  | n + 1, h => by
    rw [pd, Nat.pow_succ]
    exact Nat.mul_le_mul (pd_le hc (fun i hi => h i (Nat.lt_succ_of_lt hi))) (h n (Nat.lt_succ_self n))
theorem pd_cong {q q' : Nat → Nat} : ∀ {n : Nat}, (∀ i, i < n → q i = q' i) → pd q n = pd q' n
  | 0, _ => rfl
  | n + 1, h => by rw [pd, pd, pd_cong (fun i hi => h i (Nat.lt_succ_of_lt hi)), h n (Nat.lt_succ_self n)]
theorem pd_pow (p : Nat → Bool) : ∀ n, pd (fun i => if p i = true then 10 else 1) n = 10 ^ sm (fun i => tb_b (p i)) n
  | 0 => rfl
  | n + 1 => by
    rw [pd, sm, pd_pow p n, Nat.pow_add]
    congr 1
    cases p n <;> rfl
theorem cf_le (n : Nat) (f : Nat → Nat) (x s m : Nat) : cf n f x s m ≤ 10 := by
  have := od_le n f m
  unfold cf
  split
  · split <;> omega
  · omega
theorem pow10_lt {n : Nat} (hn : n ≤ 8) : 10 ^ n ≤ 100000000 := Nat.pow_le_pow_right (n := 10) (by decide) hn
section YEARS
variable {scr : List Int32} {d : Nat} {h : ev_H} {n : Nat} {f : Nat → Nat} {x : Nat → Int32} {q : Nat → Int32} {im : Nat → Int32}
theorem k_harm (hC : CO h x) (hT : TA h 1 n f) (hL : TL h) (g : GD n f) (hd : 6 ≤ d) : ev_X scr d cd_X5_harm 0 [.ref 0] [] h (CQ h n f (.int (nI (ha n f)))) := by
  refine ex_go 80 rfl ?_
  refine ex_getf rfl hC rfl rfl ?_
  refine ex_cv rfl rfl rfl rfl hT.1 rfl (d' := 5) (by omega) (c_harmOfAll hT g (Nat.le_refl _)) ?_
  exact ex_iret rfl (cq_s hT hL)
theorem c_harmR (hM : MO h n q) (hS : ST h f im) (hR : RS h) (g : GD n f) (hd : 4 ≤ d) : ev_X scr d cd_X6_harm 0 [.ref 57] [] h (fun v h' => v = some (.int (nI (ha n f))) ∧ AT h' f ∧ SB 59 h h') := by
  refine ex_go 80 rfl ?_
  refine ex_cvx rfl rfl rfl rfl hM rfl (d' := 0) (by omega) (c_starts hM hS hR.1) ?_
  rintro v1 h1 ⟨rfl, hA1, hB1⟩
  have hM1 := hB1.mo hM (by decide)
  refine ex_go 80 rfl ?_
  refine ex_cv rfl rfl rfl rfl hM1 rfl (d' := 3) (by omega) (c_harmAll hM1 hA1 g (Nat.le_refl _)) ?_
  exact ex_iret rfl (⟨rfl, hA1, hB1⟩)
theorem r_harm (hM : MO h n q) (hS : ST h f im) (hR : RS h) (g : GD n f) (hd : 4 ≤ d) : ev_X scr d cd_X6_harm 0 [.ref 57] [] h (RQ h f im (.int (nI (ha n f)))) := by
  refine ex_mono (c_harmR hM hS hR g hd) ?_
  rintro v h' ⟨rfl, hA, hB⟩
  exact rq_9 hS hR hB hA
theorem k_year (hC : CO h x) (hT : TA h 1 n f) (hL : TL h) (g : GD n f) {w : Int32} (hd : 5 ≤ d) : ev_X scr d cd_X5_year 0 [.ref 0, .int w] [] h (CQ h n (s_year n f w) (.int (a_year n f w))) := by
  have hn := g.1
  have h8 : 2 ^ n ≤ 2 ^ 8 := Nat.pow_le_pow_right (by decide) hn
  have h43 := g.2.2.2.2.2.2.1
  unfold a_year s_year
  refine ex_go 80 rfl ?_
  refine ex_getf rfl hC rfl rfl ?_
  refine ex_go 80 rfl ?_
  refine ex_cv rfl rfl rfl rfl hT.1 rfl (d' := 1) (by omega) (c_mayDoWrong hT g (Nat.le_refl _)) ?_
  cases hb : mdw n f w
  · refine ex_zneF rfl (by decide) ?_
    refine ex_go 80 rfl ?_
    exact ex_iret rfl (cq_s hT hL)
  · obtain ⟨j, hj, rfl, hs⟩ := mdw_of hn hb
    rw [ix_nI (by omega), if_pos rfl, if_pos rfl]
    refine ex_zneT rfl (by decide) ?_
    refine ex_go 80 rfl ?_
    refine ex_getf rfl hC rfl rfl ?_
    refine ex_getf rfl hT.1 rfl rfl ?_
    refine ex_go 80 rfl ?_
    refine ex_ilt rfl (fun hc => ?_) (fun hc => ?_)
    · have c : ¬ f 43 = 99 := by
        have := (nI_ltI (b := 99) (by omega) (by decide)).mp hc
        omega
      rw [if_neg c, if_neg c]
      refine ex_go 80 rfl ?_
      refine ex_getf rfl hC rfl rfl ?_
      refine ex_go 80 rfl ?_
      refine ex_getf rfl hT.1 rfl rfl ?_
      refine ex_go 80 rfl ?_
      try dsimp only
      try simp only [nI_inc, nI_1, nI_add, nI_mul2, tb_and, tb_or, tb_andn]
      refine ex_pf rfl hT.1 rfl rfl (fun h1 hO1 hB1 => ?_)
      have hT1 := hT.f_43 (v := f 43 + 1) hO1 hB1 rfl
      have hF1 := hB1.fr (a := 1) (b := 1 + 8) (by decide) (by decide)
      have hC1 := (hF1.2 0 (by decide)).trans hC
      have g1 := g.f43 (v := f 43 + 1) (by omega)
      rw [← wg_gdf (up f 43 (f 43 + 1))] at hT1
      refine ex_go 80 rfl ?_
      refine ex_getf rfl hC1 rfl rfl ?_
      refine ex_go 80 rfl ?_
      refine ex_cvx rfl rfl rfl rfl hT1.1 rfl (d' := 4) (by omega) (c_payAll hT1 g1 (gd_lt g1) (by omega) (Nat.le_refl _)) ?_
      rintro v2 h2 ⟨rfl, hT2, hF2⟩
      rw [yr_c (pc_43 hn f (f 43 + 1)), gd_43] at *
      exact ex_iret rfl (cq_t hL hT2 (hF1.tr hF2))
    · have c : f 43 = 99 := by
        have := Nat.le_of_not_lt (fun q => hc ((nI_ltI (b := 99) (by omega) (by decide)).mpr q))
        omega
      rw [if_pos c, if_pos c]
      refine ex_go 80 rfl ?_
      exact ex_iret rfl (cq_s hT hL)
theorem r_year (hM : MO h n q) (hS : ST h f im) (hR : RS h) (g : GD n f) {w : Int32} (hd : 4 ≤ d) : ev_X scr d cd_X6_year 0 [.ref 57, .int w, .float 0] [] h (RQ h (s_year n f w) im (.int (a_year n f w))) := by
  have hn := g.1
  have h8 : 2 ^ n ≤ 2 ^ 8 := Nat.pow_le_pow_right (by decide) hn
  have h43 := g.2.2.2.2.2.2.1
  unfold a_year s_year
  refine ex_go 80 rfl ?_
  refine ex_cv rfl rfl rfl rfl hM rfl (d' := 2) (by omega) (c_isWrong hM hS g (Nat.le_refl _)) ?_
  cases hb : mdw n f w
  · refine ex_zneF rfl (by decide) ?_
    refine ex_go 80 rfl ?_
    exact ex_iret rfl (rq_s hS hR)
  · obtain ⟨j, hj, rfl, hs⟩ := mdw_of hn hb
    rw [ix_nI (by omega), if_pos rfl, if_pos rfl]
    refine ex_zneT rfl (by decide) ?_
    refine ex_go 80 rfl ?_
    refine ex_getf rfl hM rfl rfl ?_
    refine ex_go 80 rfl ?_
    refine ex_ia 43 rfl hS rfl (by first | exact trivial | assumption | (show _ < _; omega)) (by omega) (by omega) rfl ?_
    simp (disch := omega) only [rs_lt, rv_0, rv_1, rv_2, rv_3, rv_4, rv_40, rv_41, rv_42, rv_43, rv_44]
    refine ex_go 80 rfl ?_
    refine ex_ine rfl (fun hc => ?_) (fun hc => ?_)
    · have c : ¬ f 43 = 99 := fun q => hc (by rw [q]; rfl)
      rw [if_neg c, if_neg c]
      refine ex_go 80 rfl ?_
      refine ex_cvx rfl rfl rfl rfl hM rfl (d' := 0) (by omega) (c_starts hM hS hR.1) ?_
      rintro v1 h1 ⟨rfl, hA1, hB1⟩
      have hM1 := hB1.mo hM (by decide)
      have hI1 := hR.2.1.sb hB1 (by decide)
      rw [← wg_gdf f] at hA1
      refine ex_go 80 rfl ?_
      refine ex_cvx rfl rfl rfl rfl hM1 rfl (d' := 3) (by omega) (c_yearGoes hM1 hA1 hI1 g.p (gd_lt g) (by omega) (Nat.le_refl _)) ?_
      rintro v2 h2 ⟨rfl, hA2, hF2, hZ2⟩
      have hM2 := hZ2.mo hM1
      have hS2 := (hS.b9 hB1).z hZ2
      have hR2 := (hR.b9 hB1 hA1).z hZ2 hA2 hF2
      rw [wg_43] at hA2
      refine ex_go 80 rfl ?_
      refine ex_cvx rfl rfl rfl rfl hM2 rfl (d' := 0) (by omega) (c_settles hM2 hS2 hA2) ?_
      rintro v3 h3 ⟨rfl, hS3, hB3⟩
      refine ex_go 80 rfl ?_
      exact ex_iret rfl (⟨rfl, hS3, hR2.b8 hB3, (hB1.ry9.tr hZ2.ry).tr hB3.ry8⟩)
    · have c : f 43 = 99 := (nI_eq (b := 99) (by omega) (by decide)).mp hc
      rw [if_pos c, if_pos c]
      refine ex_go 80 rfl ?_
      exact ex_iret rfl (rq_s hS hR)
theorem c_finesOnTrial (hC : CO h x) (hT : TA h 1 n f) {f2 : Nat → Nat} (hR : TA h 10 n (wg f f2)) (g : GD n f) {m w : Nat} (hm : m < n) (hw : w < 256) (hd : 4 ≤ d) : ev_X scr d cd_X5_finesOnTrial 0 [.ref 0, .int (nI m), .int (nI w)] [] h (fun v h' => v = some (.int (nI (gd f m - (fi n f w (gd f) n).1 m))) ∧ TA h' 10 n (wg f (fi n f w (gd f) n).1) ∧ FR 10 (10 + 8) h h') := by
  have hn := g.1
  have e : (fun m => f (5 * m + 2)) = gd f := rfl
  refine ex_go 80 rfl ?_
  refine ex_getf rfl hC rfl rfl ?_
  refine ex_go 80 rfl ?_
  refine ex_getf rfl hC rfl rfl ?_
  refine ex_cvx rfl rfl rfl rfl hR.1 rfl (d' := 0) (by omega) (c_copyStock hR hT (by decide)) ?_
  rintro v1 h1 ⟨rfl, hR1, hF1⟩
  have hC1 := (hF1.2 0 (by decide)).trans hC
  have hT1 := hT.kept hF1 (by decide)
  rw [wg_wg, e] at hR1
  refine ex_go 80 rfl ?_
  refine ex_getf rfl hC1 rfl rfl ?_
  refine ex_go 80 rfl ?_
  refine ex_cvx rfl rfl rfl rfl hR1.1 rfl (d' := 3) (by omega) (c_payFines hR1 g (gd_lt g) hw (Nat.le_refl _)) ?_
  rintro v2 h2 ⟨rfl, hR2, hF2⟩
  have hC2 := (hF2.2 0 (by decide)).trans hC1
  have hT2 := hT1.kept hF2 (by decide)
  refine ex_go 80 rfl ?_
  refine ex_getf rfl hC2 rfl rfl ?_
  refine ex_getf rfl hT2.1 rfl rfl ?_
  refine ex_go 80 rfl ?_
  refine ex_ia _ rfl hT2.2.2.2.1 rfl (by first | exact trivial | assumption | (show _ < _; omega)) (by omega) (by omega) rfl ?_
  refine ex_go 80 rfl ?_
  refine ex_getf rfl hC2 rfl rfl ?_
  refine ex_getf rfl hR2.1 rfl rfl ?_
  refine ex_go 80 rfl ?_
  refine ex_ia _ rfl hR2.2.2.2.1 rfl (by first | exact trivial | assumption | (show _ < _; omega)) (by omega) (by omega) rfl ?_
  refine ex_go 80 rfl ?_
  try dsimp only
  try simp only [nI_inc, nI_1, nI_add, nI_mul2, tb_and, tb_or, tb_andn]
  rw [wg_gd (by omega), show f (5 * m + 2) = gd f m from rfl, pk_sub (fi_le n f w (gd f) n m)]
  exact ex_iret rfl (⟨rfl, hR2, hF1.tr hF2⟩)
theorem k_pays (hC : CO h x) (hT : TA h 1 n f) (hL : TL h) (g : GD n f) {m w : Int32} (hd : 5 ≤ d) : ev_X scr d cd_X5_pays 0 [.ref 0, .int m, .int w] [] h (CQ h n f (.int (a_pays n f m w))) := by
  have hn := g.1
  have h8 : 2 ^ n ≤ 2 ^ 8 := Nat.pow_le_pow_right (by decide) hn
  unfold a_pays
  refine ex_go 80 rfl ?_
  refine ex_getf rfl hC rfl rfl ?_
  refine ex_go 80 rfl ?_
  refine ex_cv rfl rfl rfl rfl hT.1 rfl (d' := 0) (by omega) (c_hasMan hT hn) ?_
  cases hm : isM n m
  · refine ex_zeqT rfl (by decide) ?_
    refine ex_go 80 rfl ?_
    exact ex_iret rfl (cq_s hT hL)
  · obtain ⟨i, hi, rfl⟩ := isM_of hm (by omega)
    refine ex_zeqF rfl (by decide) ?_
    refine ex_go 80 rfl ?_
    refine ex_getf rfl hC rfl rfl ?_
    refine ex_go 80 rfl ?_
    refine ex_cv rfl rfl rfl rfl hT.1 rfl (d' := 1) (by omega) (c_mayDoWrong hT g (Nat.le_refl _)) ?_
    cases hb : mdw n f w
    · refine ex_zneF rfl (by decide) ?_
      refine ex_go 80 rfl ?_
      exact ex_iret rfl (cq_s hT hL)
    · obtain ⟨j, hj, rfl, hs⟩ := mdw_of hn hb
      rw [ix_nI (by omega), ix_nI (by omega), Bool.true_and, if_pos rfl]
      obtain ⟨n2, f2, hR⟩ := hL
      refine ex_zneT rfl (by decide) ?_
      refine ex_go 80 rfl ?_
      refine ex_getf rfl hC rfl rfl ?_
      refine ex_go 80 rfl ?_
      refine ex_getf rfl hC rfl rfl ?_
      refine ex_cvx rfl rfl rfl rfl hR.1 rfl (d' := 1) (by omega) (c_copyFrom hR hT (by decide) rfl (Nat.le_refl _)) ?_
      rintro v1 h1 ⟨rfl, hR1, hF1⟩
      have hC1 := (hF1.2 0 (by decide)).trans hC
      have hT1 := hT.kept hF1 (by decide)
      rw [← wg_gdf f] at hR1
      refine ex_go 80 rfl ?_
      refine ex_cvx rfl rfl rfl rfl hC1 rfl (d' := 4) (by omega) (c_finesOnTrial hC1 hT1 hR1 g hi (by omega) (Nat.le_refl _)) ?_
      rintro v2 h2 ⟨rfl, hR2, hF2⟩
      exact ex_iret rfl (cq_r hT hR2 (hF1.tr hF2))
theorem r_pays (hM : MO h n q) (hS : ST h f im) (hR : RS h) (g : GD n f) {m w : Int32} (hd : 4 ≤ d) : ev_X scr d cd_X6_pays 0 [.ref 57, .int m, .int w] [] h (RQ h f im (.int (a_pays n f m w))) := by
  have hn := g.1
  have h8 : 2 ^ n ≤ 2 ^ 8 := Nat.pow_le_pow_right (by decide) hn
  unfold a_pays
  refine ex_go 80 rfl ?_
  refine ex_cv rfl rfl rfl rfl hM rfl (d' := 1) (by omega) (c_isMan hM hn (Nat.le_refl _)) ?_
  cases hm : isM n m
  · refine ex_zeqT rfl (by decide) ?_
    refine ex_go 80 rfl ?_
    exact ex_iret rfl (rq_s hS hR)
  · obtain ⟨i, hi, rfl⟩ := isM_of hm (by omega)
    refine ex_zeqF rfl (by decide) ?_
    refine ex_go 80 rfl ?_
    refine ex_cv rfl rfl rfl rfl hM rfl (d' := 2) (by omega) (c_isWrong hM hS g (Nat.le_refl _)) ?_
    cases hb : mdw n f w
    · refine ex_zneF rfl (by decide) ?_
      refine ex_go 80 rfl ?_
      exact ex_iret rfl (rq_s hS hR)
    · obtain ⟨j, hj, rfl, hs⟩ := mdw_of hn hb
      rw [ix_nI (by omega), ix_nI (by omega), Bool.true_and, if_pos rfl]
      refine ex_zneT rfl (by decide) ?_
      refine ex_go 80 rfl ?_
      refine ex_cvx rfl rfl rfl rfl hM rfl (d' := 0) (by omega) (c_starts hM hS hR.1) ?_
      rintro v1 h1 ⟨rfl, hA1, hB1⟩
      have hM1 := hB1.mo hM (by decide)
      have hI1 := hR.2.1.sb hB1 (by decide)
      rw [← wg_gdf f] at hA1
      refine ex_go 80 rfl ?_
      refine ex_cvx rfl rfl rfl rfl hM1 rfl (d' := 3) (by omega) (c_yearGoes hM1 hA1 hI1 g.p (gd_lt g) (by omega) (Nat.le_refl _)) ?_
      rintro v2 h2 ⟨rfl, hA2, hF2, hZ2⟩
      have hM2 := hZ2.mo hM1
      have hS2 := (hS.b9 hB1).z hZ2
      have hR2 := (hR.b9 hB1 hA1).z hZ2 hA2 hF2
      refine ex_go 80 rfl ?_
      refine ex_getf rfl hM2 rfl rfl ?_
      refine ex_go 80 rfl ?_
      refine ex_ia _ rfl hF2 rfl (by first | exact trivial | assumption | (show _ < _; omega)) (by omega) (by omega) rfl ?_
      exact ex_iret rfl (⟨rfl, hS2, hR2, hB1.ry9.tr hZ2.ry⟩)
theorem k_calm (hC : CO h x) (hT : TA h 1 n f) (hL : TL h) (g : GD n f) {t w : Int32} (hd : 5 ≤ d) : ev_X scr d cd_X5_calm 0 [.ref 0, .int t, .int w, .float 0] [] h (CQ h n f (.long (a_calm n f t w))) := by
  have hn := g.1
  unfold a_calm
  refine ex_go 80 rfl ?_
  refine ex_cs rfl rfl rfl (d' := 0) (by omega) (c_isTen) ?_
  cases ht : isM 4 t
  · refine ex_zeqT rfl (by decide) ?_
    refine ex_go 80 rfl ?_
    exact ex_lret rfl (cq_s hT hL)
  · obtain ⟨i, hi, rfl⟩ := isM_of ht (by omega)
    refine ex_zeqF rfl (by decide) ?_
    refine ex_go 80 rfl ?_
    refine ex_cs rfl rfl rfl (d' := 0) (by omega) (c_isWithin (k := 1) (by decide)) ?_
    show ev_X scr d cd_X5_calm _ _ [.int (nI (tb_b (isM 2 w)))] _ _
    cases hw : isM 2 w
    · refine ex_zneF rfl (by decide) ?_
      refine ex_go 80 rfl ?_
      exact ex_lret rfl (cq_s hT hL)
    · obtain ⟨j, hj, rfl⟩ := isM_of hw (by omega)
      rw [ix_nI (by omega), ix_nI (by omega), Bool.true_and, if_pos rfl]
      have hb := bs_256 (fun m => decide (f (5 * m + 3) = i)) hn
      refine ex_zneT rfl (by decide) ?_
      refine ex_go 80 rfl ?_
      refine ex_getf rfl hC rfl rfl ?_
      refine ex_go 80 rfl ?_
      refine ex_cv rfl rfl rfl rfl hT.1 rfl (d' := 0) (by omega) (c_menOfTen hT hn hi) ?_
      refine ex_go 80 rfl ?_
      refine ex_getf rfl hC rfl rfl ?_
      refine ex_go 80 rfl ?_
      refine ex_cv rfl rfl rfl rfl hT.1 rfl (d' := 4) (by omega) (c_chanceOf (s := 0) hT g (by omega) (by decide) (Nat.le_refl _)) ?_
      refine ex_go 80 rfl ?_
      refine ex_cs rfl rfl rfl (d' := 1) (by omega) (c_tenthsOf hb (Nat.le_refl _)) ?_
      have hp := Nat.le_trans (pd_le (by decide) (fun k _ => cf_le n f (tb n f i) 0 k)) (pow10_lt hn)
      have hq := pow10_lt (pc8_le (tb n f i))
      have hq0 : 0 < 10 ^ pc8 (tb n f i) := Nat.pow_pos (by decide)
      refine ex_go 80 rfl ?_
      refine ex_cs rfl rfl rfl (d' := 1) (by omega) (c_inLowestTerms (p := pd (cf n f (tb n f i) 0) n) (q := 10 ^ pc8 (tb n f i)) (by omega) (by omega) hq0 hj (Nat.le_refl _)) ?_
      exact ex_lret rfl (cq_s hT hL)
theorem r_calm (hM : MO h n q) (hS : ST h f im) (hR : RS h) (g : GD n f) {t w : Int32} (hd : 3 ≤ d) : ev_X scr d cd_X6_calm 0 [.ref 57, .int t, .int w, .float 0, .float 0, .float 0, .float 0, .float 0, .float 0] [] h (RQ h f im (.long (a_calm n f t w))) := by
  have hn := g.1
  unfold a_calm
  refine ex_go 80 rfl ?_
  refine ex_cs rfl rfl rfl (d' := 1) (by omega) (c_isTenR (Nat.le_refl _)) ?_
  cases ht : isM 4 t
  · refine ex_zeqT rfl (by decide) ?_
    refine ex_go 80 rfl ?_
    exact ex_lret rfl (rq_s hS hR)
  · obtain ⟨i, hi, rfl⟩ := isM_of ht (by omega)
    refine ex_zeqF rfl (by decide) ?_
    refine ex_go 80 rfl ?_
    refine ex_cs rfl rfl rfl (d' := 1) (by omega) (c_isPart (Nat.le_refl _)) ?_
    cases hw : isM 2 w
    · refine ex_zneF rfl (by decide) ?_
      refine ex_go 80 rfl ?_
      exact ex_lret rfl (rq_s hS hR)
    · obtain ⟨j, hj, rfl⟩ := isM_of hw (by omega)
      rw [ix_nI (by omega), ix_nI (by omega), Bool.true_and, if_pos rfl]
      refine ex_zneT rfl (by decide) ?_
      refine ex_go 80 rfl ?_
      refine ex_cvx rfl rfl rfl rfl hM rfl (d' := 0) (by omega) (c_starts hM hS hR.1) ?_
      rintro v1 h1 ⟨rfl, hA1, hB1⟩
      have hM1 := hB1.mo hM (by decide)
      have eb : ∀ k, k < n → (tb n f i).testBit k = decide (f (5 * k + 3) = i) := fun k hk => by unfold tb; rw [bs_bit, decide_eq_true hk, Bool.true_and]
      have e10 : 10 ^ pc8 (tb n f i) = pd (fun k => if decide (f (5 * k + 3) = i) = true then 10 else 1) n := by rw [pd_pow (fun k => decide (f (5 * k + 3) = i)), ← pc8_bs _ hn]; rfl
      have hp := Nat.le_trans (pd_le (by decide) (fun k _ => cf_le n f (tb n f i) 0 k)) (pow10_lt hn)
      have hq := pow10_lt (pc8_le (tb n f i))
      have hq0 : 0 < 10 ^ pc8 (tb n f i) := Nat.pow_pos (by decide)
      rw [e10] at *
      refine ex_go 80 rfl ?_
      refine ev_loop n (fun k => ev_X scr d cd_X6_calm 16 [.ref 57, .int (nI i), .int (nI j), .long (lN (pd (cf n f (tb n f i) 0) k)), .double 0, .long (lN (pd (fun k => if decide (f (5 * k + 3) = i) = true then 10 else 1) k)), .double 0, .int (nI k), .float 0] [] h1 _) (fun k hk K => ?_) ?_
      · have hol := od_le n f k
        rw [pd, pd, cf, eb k hk] at K
        refine ex_nop rfl ?_
        refine ex_go 80 rfl ?_
        refine ex_getf rfl hM1 rfl rfl ?_
        refine ex_igeF rfl (nI_ge hk (by omega)) ?_
        refine ex_go 80 rfl ?_
        refine ex_cv rfl rfl rfl rfl hM1 rfl (d' := 0) (by omega) (c_of3 hM1 hA1 (by omega)) ?_
        refine ex_go 80 rfl ?_
        refine ex_ineM 1 2 30 (v := nI (tb_b (decide (f (5 * k + 3) = i)))) rfl rfl rfl (if10 (tv_eq hi)) ?_
        refine ex_go 80 rfl ?_
        by_cases c : f (5 * k + 3) = i
        · rw [decide_eq_true c, if_pos rfl, if_neg (by rw [Nat.zero_testBit]; decide), if_pos rfl] at K
          rw [decide_eq_true c]
          refine ex_zeqF rfl (by decide) ?_
          refine ex_go 80 rfl ?_
          refine ex_cv rfl rfl rfl rfl hM1 rfl (d' := 1) (by omega) (c_oddsOf hM1 hA1 g hk (Nat.le_refl _)) ?_
          refine ex_go 80 rfl ?_
          dsimp only
          rw [show (10 : Int32) = nI 10 from rfl, pk_sub (by omega), nI_l (by omega), lN_mul]
          refine ex_zeqF rfl (by decide) ?_
          refine ex_go 80 rfl ?_
          dsimp only
          rw [show (10 : Int64) = lN 10 from rfl, lN_mul, nI_inc]
          exact ex_weak (K) (by repeat (first | exact W_n | refine W_e ?_ | refine W_i ?_ | refine W_r ?_))
        · rw [decide_eq_false c, if_neg (by decide), if_neg (by decide)] at K
          rw [decide_eq_false c]
          refine ex_zeqT rfl (by decide) ?_
          refine ex_go 80 rfl ?_
          dsimp only
          rw [show (1 : Int64) = lN 1 from rfl, lN_mul]
          refine ex_zeqT rfl (by decide) ?_
          refine ex_go 80 rfl ?_
          dsimp only
          rw [show (1 : Int64) = lN 1 from rfl, lN_mul, nI_inc]
          exact ex_weak (K) (by repeat (first | exact W_n | refine W_e ?_ | refine W_i ?_ | refine W_r ?_))
      · refine ex_nop rfl ?_
        refine ex_go 80 rfl ?_
        refine ex_getf rfl hM1 rfl rfl ?_
        refine ex_igeT rfl (nI_le (Nat.le_refl _) (by first | omega | decide)) ?_
        refine ex_go 80 rfl ?_
        refine ex_cs rfl rfl rfl (d' := 1) (by omega) (c_told (p := pd (cf n f (tb n f i) 0) n) (by omega) (by omega) hq0 hj (Nat.le_refl _)) ?_
        exact ex_lret rfl (rq_9 hS hR hB1 hA1)
end YEARS
