/-! see, forget, guard. -/
theorem TA.f_44 {h h1 : ev_H} {a n v : Nat} {f : Nat → Nat} {x : Int32} (hT : TA h a n f) (hO1 : h1[a]? = some (.inr (4, [.int (nI n), .int (nI (f 41)), .int (nI (f 42)), .int (nI (f 43)), .int (nI (f 40)), .int x, .ref (a + 1), .ref (a + 2), .ref (a + 3), .ref (a + 4), .ref (a + 5), .ref (a + 6), .ref (a + 7), .ref (a + 8)]))) (hB : SB a h h1) (hx : x = nI v) (hv : v ≤ f 44) : TA h1 a n (up f 44 v) := by
  subst hx
  obtain ⟨hO, t1, t2, t3, t4, t5, t6, t7, t8⟩ := hT
  have e : ∀ j, j ≠ 44 → up f 44 v j = f j := fun j hj => up_ne hj
  have e4 : up f 44 v 44 = v := up_eq
  unfold TA
  rw [e 40 (by decide), e 41 (by decide), e 42 (by decide), e 43 (by decide), e4]
  exact ⟨hO1, (t1.sb hB (by omega)).congr (fun i hi hp => ⟨hp, by rw [e _ (by omega)]⟩), (t2.sb hB (by omega)).congr (fun i hi hp => ⟨hp, by rw [e _ (by omega)]⟩), (t3.sb hB (by omega)).congr (fun i hi hp => ⟨hp, by rw [e _ (by omega)]⟩), (t4.sb hB (by omega)).congr (fun i hi hp => ⟨hp, by rw [e _ (by omega)]⟩), (t5.sb hB (by omega)).congr (fun i hi hp => ⟨hp, by rw [e _ (by omega)]⟩), (t6.sb hB (by omega)).congr (fun i hi hp => ⟨hp, by rw [e _ (by omega)]⟩), (t7.sb hB (by omega)).congr (fun i hi hp => ⟨by omega, by rw [e _ (by omega)]⟩), (t8.sb hB (by omega)).congr (fun i hi hp => ⟨by omega, by rw [e _ (by omega)]⟩)⟩
def wn (n : Nat) (f : Nat → Nat) (m : Nat) : Nat := if f (5 * m + 3) < 4 then won n f m else 0
def gs (n : Nat) (f : Nat → Nat) : Nat := bs (fun m => decide (10 * f 42 < wn n f m)) n
def a_guard (n : Nat) (f : Nat → Nat) (w : Int32) : Int32 := if isM 2 w = true then (if w = 0 then nI (gs n f) else nI (ha n (up f 40 (gs n f)))) else -1
theorem wb_bs (p : Nat → Bool) (i : Nat) : wb (p i) (bs p i) i = bs p (i + 1) := by
  apply Nat.eq_of_testBit_eq
  intro j
  rw [wb_bit, bs_bit, bs_bit]
  by_cases c : i = j
  · rw [if_pos c, ← c]; simp
  · rw [if_neg c]
    by_cases c2 : j < i
    · simp [c2, Nat.lt_succ_of_lt c2]
    · have c3 : ¬ j < i + 1 := by omega
      simp [c2, c3]
theorem gs_bit {n : Nat} (f : Nat → Nat) {m : Nat} (hm : m < n) : (gs n f).testBit m = decide (10 * f 42 < wn n f m) := by
  unfold gs
  rw [bs_bit, decide_eq_true hm, Bool.true_and]
theorem gs_ten {n : Nat} {f : Nat → Nat} {m : Nat} (hm : m < n) (hb : (gs n f).testBit m = true) : f (5 * m + 3) < 4 := by
  rw [gs_bit f hm, decide_eq_true_eq] at hb
  unfold wn at hb
  apply Classical.byContradiction
  intro c
  rw [if_neg c] at hb
  omega
theorem GD.gs {n : Nat} {f : Nat → Nat} (g : GD n f) : GD n (up f 40 (gs n f)) := g.w40 (bs_lt _ _) (fun m hm hb => gs_ten hm hb)
def hx1 (n : Nat) (f : Nat → Nat) (b : Bool) (m : Nat) : Nat := if f (5 * m + 3) < 4 then odw n f m b * f 41 + tb_b b * 10 * f 42 else f (5 * m + 1) * f 41
theorem sm4 (g : Nat → Nat) : sm g 4 = g 0 + g 1 + g 2 + g 3 := by
  show 0 + g 0 + g 1 + g 2 + g 3 = _
  omega
theorem ha_men {n : Nat} {f : Nat → Nat} (g : GD n f) : ha n f = sm (fun m => hx1 n f ((f 40).testBit m) m) n := by
  have e : ∀ t, hm n f t = sm (hrg n f t) n := fun t => (hrg_sm n f t n).symm
  unfold ha
  rw [sm4, e, e, e, e, ← sm_add, ← sm_add, ← sm_add, ← sm_add]
  refine sm_cong (fun i hi => ?_)
  obtain ⟨g1, g2, g3, g4, g5, g6⟩ := g.2.1 i hi
  unfold hrg hwg hx1
  show _ = if f (5 * i + 3) < 4 then od n f i * f 41 + tb_b ((f 40).testBit i) * 10 * f 42 else f (5 * i + 1) * f 41
  generalize od n f i * f 41 + tb_b ((f 40).testBit i) * 10 * f 42 = z
  generalize f (5 * i + 1) * f 41 = y
  rcases (by omega : f (5 * i + 3) = 0 ∨ f (5 * i + 3) = 1 ∨ f (5 * i + 3) = 2 ∨ f (5 * i + 3) = 3 ∨ f (5 * i + 3) = 4) with c | c | c | c | c
  · have hk : ¬ f (5 * i) = 3 := fun q => by have := g5.mp q; omega
    simp [c, hk]
  · have hk : ¬ f (5 * i) = 3 := fun q => by have := g5.mp q; omega
    simp [c, hk]
  · have hk : ¬ f (5 * i) = 3 := fun q => by have := g5.mp q; omega
    simp [c, hk]
  · have hk : ¬ f (5 * i) = 3 := fun q => by have := g5.mp q; omega
    simp [c, hk]
  · have hk : f (5 * i) = 3 := g5.mpr c
    simp [c, hk]
theorem ha_40 {n : Nat} {f : Nat → Nat} {X : Nat} (g : GD n (up f 40 X)) : ha n (up f 40 X) = sm (fun m => hx1 n f (X.testBit m) m) n := by
  have hn := g.1
  rw [ha_men g]
  refine sm_cong (fun i hi => ?_)
  have e : up f 40 X 40 = X := up_eq
  rw [e]
  unfold hx1
  rw [odw_up hn f 40 X (by decide) hi, up_ne (show 5 * i + 3 ≠ 40 by omega), up_ne (show 41 ≠ 40 by decide), up_ne (show 42 ≠ 40 by decide), up_ne (show 5 * i + 1 ≠ 40 by omega)]
def gcost (n : Nat) (f : Nat → Nat) (X : Nat) : Nat := 10 * ha n (up f 40 X) + pc8 X
theorem sm_mulc (c : Nat) (g : Nat → Nat) : ∀ n, c * sm g n = sm (fun i => c * g i) n
  | 0 => rfl
  | n + 1 => by rw [sm, sm, Nat.mul_add, sm_mulc c g n]
theorem sm_lt {g g' : Nat → Nat} : ∀ {n : Nat}, (∀ i, i < n → g i ≤ g' i) → (∃ i, i < n ∧ g i < g' i) → sm g n < sm g' n
  | 0, _, h => by obtain ⟨i, hi, _⟩ := h; exact absurd hi (Nat.not_lt_zero i)
  | n + 1, hl, h => by
    have hle : ∀ k, k ≤ n → sm g k ≤ sm g' k := by
      intro k
      induction k with
      | zero => intro _; exact Nat.le_refl _
      | succ k ih => intro hk; have := ih (by omega); have := hl k (by omega); rw [sm, sm]; omega
    obtain ⟨i, hi, hlt⟩ := h
    rw [sm, sm]
    by_cases c : i = n
    · have := hle n (Nat.le_refl n)
      rw [c] at hlt
      omega
    · have := sm_lt (n := n) (fun j hj => hl j (by omega)) ⟨i, by omega, hlt⟩
      have := hl n (by omega)
      omega
theorem gcost_sm {n : Nat} {f : Nat → Nat} {X : Nat} (g : GD n (up f 40 X)) (hX : X < 2 ^ n) : gcost n f X = sm (fun m => 10 * hx1 n f (X.testBit m) m + tb_b (X.testBit m)) n := by
  have hn := g.1
  unfold gcost
  rw [ha_40 g, sm_mulc, sm_add]
  congr 1
  refine pc8_of hn (fun i _ => ?_)
  by_cases c : i < n
  · simp [c]
  · rw [Nat.testBit_lt_two_pow (Nat.lt_of_lt_of_le hX (Nat.pow_le_pow_right (by decide) (Nat.le_of_not_lt c)))]
    simp [c]
def wan (n : Nat) (f : Nat → Nat) : Nat := bs (fun m => decide (f (5 * m) = 3)) n
theorem wan_bit {n : Nat} {f : Nat → Nat} {X : Nat} (hz : X &&& wan n f = 0) {m : Nat} (hm : m < n) (hb : X.testBit m = true) : ¬ f (5 * m) = 3 := by
  intro c
  have := congrArg (fun z => z.testBit m) hz
  simp only [Nat.testBit_and, Nat.zero_testBit, hb, Bool.true_and] at this
  unfold wan at this
  rw [bs_bit, decide_eq_true hm, decide_eq_true c] at this
  exact absurd this (by decide)
theorem GD.X {n : Nat} {f : Nat → Nat} {X : Nat} (g : GD n f) (hX : X < 2 ^ n) (hz : X &&& wan n f = 0) : GD n (up f 40 X) := g.w40 hX (fun m hm hb => by
  obtain ⟨g1, g2, g3, g4, g5, g6⟩ := g.2.1 m hm
  have := wan_bit hz hm hb
  have h4 : ¬ f (5 * m + 3) = 4 := fun c => this (g5.mpr c)
  omega)
theorem gs_best {n : Nat} {f : Nat → Nat} {X : Nat} (g : GD n f) (hX : X < 2 ^ n) (hz : X &&& wan n f = 0) (hne : X ≠ gs n f) : gcost n f (gs n f) < gcost n f X := by
  have hgl : gs n f < 2 ^ n := bs_lt _ _
  rw [gcost_sm g.gs hgl, gcost_sm (g.X hX hz) hX]
  have per : ∀ m, m < n → X.testBit m ≠ (gs n f).testBit m → 10 * hx1 n f ((gs n f).testBit m) m + tb_b ((gs n f).testBit m) < 10 * hx1 n f (X.testBit m) m + tb_b (X.testBit m) := by
    intro m hm hd
    obtain ⟨g1, g2, g3, g4, g5, g6⟩ := g.2.1 m hm
    have ht : f (5 * m + 3) < 4 := by
      cases hb : X.testBit m
      · cases hb2 : (gs n f).testBit m
        · rw [hb, hb2] at hd; exact absurd rfl hd
        · exact gs_ten hm hb2
      · have := wan_bit hz hm hb
        have h4 : ¬ f (5 * m + 3) = 4 := fun c => this (g5.mpr c)
        omega
    have hw : wn n f m = won n f m := if_pos ht
    have hbit := gs_bit f hm
    rw [hw] at hbit
    have hmo := odw_mono n f m
    have ew : odw n f m false * f 41 = odw n f m true * f 41 + won n f m := by
      unfold won
      rw [Nat.mul_comm (f 41), ← Nat.add_mul]
      congr 1
      omega
    unfold hx1
    rw [if_pos ht, if_pos ht]
    cases hb : X.testBit m
    · have hb2 : (gs n f).testBit m = true := by
        cases hb2 : (gs n f).testBit m
        · rw [hb, hb2] at hd; exact absurd rfl hd
        · rfl
      rw [hb2] at hbit ⊢
      have := of_decide_eq_true hbit.symm
      rw [ew]
      simp only [tb_b]
      simp
      omega
    · have hb2 : (gs n f).testBit m = false := by
        cases hb2 : (gs n f).testBit m
        · rfl
        · rw [hb, hb2] at hd; exact absurd rfl hd
      rw [hb2] at hbit ⊢
      have := of_decide_eq_false hbit.symm
      rw [ew]
      simp only [tb_b]
      simp
      omega
  refine sm_lt (fun m hm => ?_) ?_
  · by_cases c : X.testBit m = (gs n f).testBit m
    · rw [c]; exact Nat.le_refl _
    · exact Nat.le_of_lt (per m hm c)
  · apply Classical.byContradiction
    intro hno
    apply hne
    apply Nat.eq_of_testBit_eq
    intro m
    by_cases hm : m < n
    · apply Classical.byContradiction
      intro c
      exact hno ⟨m, hm, per m hm c⟩
    · have h2 : 2 ^ n ≤ 2 ^ m := Nat.pow_le_pow_right (by decide) (Nat.le_of_not_lt hm)
      rw [Nat.testBit_lt_two_pow (Nat.lt_of_lt_of_le hX h2), Nat.testBit_lt_two_pow (Nat.lt_of_lt_of_le hgl h2)]
def gst (n : Nat) (f : Nat → Nat) : Nat → Nat × Nat
  | 0 => (1000000000, 0)
  | X + 1 => if X &&& wan n f = 0 ∧ gcost n f X < (gst n f X).1 then (gcost n f X, X) else gst n f X
theorem gs_wan {n : Nat} {f : Nat → Nat} (g : GD n f) : gs n f &&& wan n f = 0 := by
  apply Nat.eq_of_testBit_eq
  intro m
  rw [Nat.testBit_and, Nat.zero_testBit]
  by_cases hm : m < n
  · cases hb : (gs n f).testBit m
    · rfl
    · have ht := gs_ten hm hb
      obtain ⟨g1, g2, g3, g4, g5, g6⟩ := g.2.1 m hm
      unfold wan
      rw [bs_bit, decide_eq_false (p := f (5 * m) = 3) (fun c => by have := g5.mp c; omega), Bool.and_false]
      rfl
  · unfold wan
    rw [bs_bit, decide_eq_false hm]
    simp
theorem gst_end {n : Nat} {f : Nat → Nat} (g : GD n f) : ∀ i, i ≤ 2 ^ n → (i ≤ gs n f → gcost n f (gs n f) < (gst n f i).1) ∧ (gs n f < i → gst n f i = (gcost n f (gs n f), gs n f))
  | 0, _ => ⟨fun _ => by
    have h1 := ha_lt g.gs
    have h2 := pc8_le (gs n f)
    unfold gcost
    show _ < 1000000000
    omega, fun c => absurd c (Nat.not_lt_zero _)⟩
  | i + 1, hi => by
    obtain ⟨h1, h2⟩ := gst_end g i (by omega)
    rw [gst]
    refine ⟨fun c => ?_, fun c => ?_⟩
    · have hl := h1 (by omega)
      split
      · rename_i c2
        exact gs_best g (by omega) c2.1 (by omega)
      · exact hl
    · by_cases e : i = gs n f
      · have hl := h1 (by omega)
        rw [e, if_pos ⟨gs_wan g, by rw [← e] at hl ⊢; exact hl⟩]
      · have hl := h2 (by omega)
        rw [hl]
        rw [if_neg (fun c2 => ?_)]
        have := gs_best g (X := i) (by omega) c2.1 e
        have h3 := c2.2
        dsimp only at h3
        omega
theorem gst_lt {n : Nat} {f : Nat → Nat} (X : Nat) : (gst n f X).1 ≤ 1000000000 := by
  induction X with
  | zero => exact Nat.le_refl _
  | succ X ih =>
    rw [gst]
    split
    · rename_i c
      dsimp only
      omega
    · exact ih
section GUARD
variable {scr : List Int32} {d : Nat} {h : ev_H} {n : Nat} {f : Nat → Nat} {x : Nat → Int32} {q : Nat → Int32} {im : Nat → Int32}
theorem k_see (hC : CO h x) (hT : TA h 1 n f) (hL : TL h) (g : GD n f) {m v : Int32} (hd : 1 ≤ d) : ev_X scr d cd_X5_see 0 [.ref 0, .int m, .int v] [] h (CQ h n (s_see n f m v) (.int (a_see n f m v))) := by
  have hn := g.1
  have h44 := g.2.2.2.2.2.2.2.1
  unfold a_see s_see
  refine ex_go 80 rfl ?_
  refine ex_getf rfl hC rfl rfl ?_
  refine ex_go 80 rfl ?_
  refine ex_cv rfl rfl rfl rfl hT.1 rfl (d' := 0) (by omega) (c_hasMan hT hn) ?_
  cases hm : isM n m
  · refine ex_zeqT rfl (by decide) ?_
    refine ex_go 80 rfl ?_
    exact ex_iret rfl (cq_s hT hL)
  · obtain ⟨i, hi, rfl⟩ := isM_of hm (by omega)
    refine ex_zeqF rfl (by decide) ?_
    refine ex_go 80 rfl ?_
    refine ex_cs rfl rfl rfl (d' := 0) (by omega) (c_isWithin (k := 99) (by decide)) ?_
    show ev_X scr d cd_X5_see _ _ [.int (nI (tb_b (isM 100 v)))] _ _
    cases hv : isM 100 v
    · refine ex_zneF rfl (by decide) ?_
      refine ex_go 80 rfl ?_
      exact ex_iret rfl (cq_s hT hL)
    · obtain ⟨j, hj, rfl⟩ := isM_of hv (by omega)
      rw [ix_nI (by omega), ix_nI (by omega), Bool.true_and, if_pos rfl, if_pos rfl]
      refine ex_zneT rfl (by decide) ?_
      refine ex_go 80 rfl ?_
      refine ex_getf rfl hC rfl rfl ?_
      refine ex_getf rfl hT.1 rfl rfl ?_
      refine ex_go 80 rfl ?_
      refine ex_ilt rfl (fun hc => ?_) (fun hc => ?_)
      · have c : f 44 < 6 := (nI_ltI (b := 6) (by omega) (by decide)).mp hc
        rw [if_neg (show ¬ f 44 = 6 by omega), if_neg (show ¬ f 44 = 6 by omega)]
        refine ex_go 80 rfl ?_
        refine ex_getf rfl hC rfl rfl ?_
        refine ex_getf rfl hT.1 rfl rfl ?_
        refine ex_go 80 rfl ?_
        refine ex_getf rfl hC rfl rfl ?_
        refine ex_getf rfl hT.1 rfl rfl ?_
        refine ex_go 80 rfl ?_
        refine ex_is _ rfl hT.2.2.2.2.2.2.2.1 rfl (by omega) (by omega) (fun h1 hA1 hB1 => ?_)
        obtain ⟨hO, t1, t2, t3, t4, t5, t6, t7, t8⟩ := hT
        have hC1 := (hB1.2 0 (by decide)).trans hC
        have hO1 := (hB1.2 1 (by decide)).trans hO
        have t81 := t8.sb hB1 (by decide)
        refine ex_go 80 rfl ?_
        refine ex_getf rfl hC1 rfl rfl ?_
        refine ex_getf rfl hO1 rfl rfl ?_
        refine ex_go 80 rfl ?_
        refine ex_getf rfl hC1 rfl rfl ?_
        refine ex_getf rfl hO1 rfl rfl ?_
        refine ex_go 80 rfl ?_
        refine ex_is _ rfl t81 rfl (by omega) (by omega) (fun h2 hA2 hB2 => ?_)
        have hC2 := (hB2.2 0 (by decide)).trans hC1
        have hO2 := (hB2.2 1 (by decide)).trans hO1
        refine ex_go 80 rfl ?_
        refine ex_getf rfl hC2 rfl rfl ?_
        refine ex_go 80 rfl ?_
        refine ex_getf rfl hO2 rfl rfl ?_
        refine ex_go 80 rfl ?_
        try dsimp only
        try simp only [nI_inc, nI_1, nI_add, nI_mul2, tb_and, tb_or, tb_andn]
        refine ex_pf rfl hO2 rfl rfl (fun h3 hO3 hB3 => ?_)
        have hC3 := (hB3.2 0 (by decide)).trans hC2
        have hF : FR 1 (1 + 8) h h3 := ((hB1.fr (by decide) (by decide)).tr (hB2.fr (by decide) (by decide))).tr (hB3.fr (by decide) (by decide))
        have u : ∀ k, k ≠ 44 → k ≠ 45 + 2 * f 44 → k ≠ 46 + 2 * f 44 → seeF f i j k = f k := fun k a b c => by unfold seeF; rw [up_ne a, up_ne c, up_ne b]
        have u44 : seeF f i j 44 = f 44 + 1 := up_eq
        have u45 : seeF f i j (45 + 2 * f 44) = i := by unfold seeF; rw [up_ne (by omega), up_ne (by omega), up_eq]
        have u46 : seeF f i j (46 + 2 * f 44) = j := by unfold seeF; rw [up_ne (by omega), up_eq]
        have hT3 : TA h3 1 n (seeF f i j) := by
          unfold TA
          rw [u 40 (by omega) (by omega) (by omega), u 41 (by omega) (by omega) (by omega), u 42 (by omega) (by omega) (by omega), u 43 (by omega) (by omega) (by omega), u44]
          refine ⟨hO3, (((t1.sb hB1 (by decide)).sb hB2 (by decide)).sb hB3 (by decide)).congr (fun k hk hp => ⟨hp, by rw [u _ (by omega) (by omega) (by omega)]⟩), (((t2.sb hB1 (by decide)).sb hB2 (by decide)).sb hB3 (by decide)).congr (fun k hk hp => ⟨hp, by rw [u _ (by omega) (by omega) (by omega)]⟩), (((t3.sb hB1 (by decide)).sb hB2 (by decide)).sb hB3 (by decide)).congr (fun k hk hp => ⟨hp, by rw [u _ (by omega) (by omega) (by omega)]⟩), (((t4.sb hB1 (by decide)).sb hB2 (by decide)).sb hB3 (by decide)).congr (fun k hk hp => ⟨hp, by rw [u _ (by omega) (by omega) (by omega)]⟩), (((t5.sb hB1 (by decide)).sb hB2 (by decide)).sb hB3 (by decide)).congr (fun k hk hp => ⟨hp, by rw [u _ (by omega) (by omega) (by omega)]⟩), (((t6.sb hB1 (by decide)).sb hB2 (by decide)).sb hB3 (by decide)).congr (fun k hk hp => ⟨hp, by rw [u _ (by omega) (by omega) (by omega)]⟩), ((hA1.sb hB2 (by decide)).sb hB3 (by decide)).congr (fun k hk hp => ⟨by omega, ?_⟩), (hA2.sb hB3 (by decide)).congr (fun k hk hp => ⟨by omega, ?_⟩)⟩
          · by_cases ck : k = f 44
            · rw [if_pos ck, ck, u45]
            · rw [if_neg ck, u _ (by omega) (by omega) (by omega)]
          · by_cases ck : k = f 44
            · rw [if_pos ck, ck, u46]
            · rw [if_neg ck, u _ (by omega) (by omega) (by omega)]
        refine ex_go 80 rfl ?_
        refine ex_getf rfl hC3 rfl rfl ?_
        refine ex_getf rfl hO3 rfl rfl ?_
        exact ex_iret rfl (cq_t hL hT3 hF)
      · have c : f 44 = 6 := by
          have := Nat.le_of_not_lt (fun q => hc ((nI_ltI (b := 6) (by omega) (by decide)).mpr q))
          omega
        rw [if_pos c, if_pos c]
        refine ex_go 80 rfl ?_
        exact ex_iret rfl (cq_s hT hL)
theorem r_see (hM : MO h n q) (hS : ST h f im) (hR : RS h) (g : GD n f) {m v : Int32} (hd : 2 ≤ d) : ev_X scr d cd_X6_see 0 [.ref 57, .int m, .int v] [] h (RQ h (s_see n f m v) im (.int (a_see n f m v))) := by
  have hn := g.1
  have h44 := g.2.2.2.2.2.2.2.1
  unfold a_see s_see
  refine ex_go 80 rfl ?_
  refine ex_cv rfl rfl rfl rfl hM rfl (d' := 1) (by omega) (c_isMan hM hn (Nat.le_refl _)) ?_
  cases hm : isM n m
  · refine ex_zeqT rfl (by decide) ?_
    refine ex_go 80 rfl ?_
    exact ex_iret rfl (rq_s hS hR)
  · obtain ⟨i, hi, rfl⟩ := isM_of hm (by omega)
    refine ex_zeqF rfl (by decide) ?_
    refine ex_go 80 rfl ?_
    try dsimp only
    try simp only [nI_inc, nI_1, nI_add, nI_mul2, tb_and, tb_or, tb_andn, nI_x5, nI_x2, nI_p0, nI_p2, nI_p3, nI_p4, nI_q45]
    refine ex_cs rfl rfl rfl (d' := 0) (by omega) (c_in0 100 (by decide)) ?_
    cases hv : isM 100 v
    · refine ex_zneF rfl (by decide) ?_
      refine ex_go 80 rfl ?_
      exact ex_iret rfl (rq_s hS hR)
    · obtain ⟨j, hj, rfl⟩ := isM_of hv (by omega)
      rw [ix_nI (by omega), ix_nI (by omega), Bool.true_and, if_pos rfl, if_pos rfl]
      refine ex_zneT rfl (by decide) ?_
      refine ex_go 80 rfl ?_
      refine ex_getf rfl hM rfl rfl ?_
      refine ex_go 80 rfl ?_
      refine ex_ia 44 rfl hS rfl (by first | exact trivial | assumption | (show _ < _; omega)) (by omega) (by omega) rfl ?_
      simp (disch := omega) only [rs_lt, rv_0, rv_1, rv_2, rv_3, rv_4, rv_40, rv_41, rv_42, rv_43, rv_44]
      refine ex_go 80 rfl ?_
      refine ex_ine rfl (fun hc => ?_) (fun hc => ?_)
      · have c : ¬ f 44 = 6 := fun q => hc (by rw [q]; rfl)
        rw [if_neg c, if_neg c]
        refine ex_go 80 rfl ?_
        refine ex_getf rfl hM rfl rfl ?_
        refine ex_go 80 rfl ?_
        refine ex_getf rfl hM rfl rfl ?_
        refine ex_go 80 rfl ?_
        refine ex_ia 44 rfl hS rfl (by first | exact trivial | assumption | (show _ < _; omega)) (by omega) (by omega) rfl ?_
        simp (disch := omega) only [rs_lt, rv_0, rv_1, rv_2, rv_3, rv_4, rv_40, rv_41, rv_42, rv_43, rv_44]
        refine ex_go 80 rfl ?_
        try dsimp only
        try simp only [nI_inc, nI_1, nI_add, nI_mul2, tb_and, tb_or, tb_andn, nI_x5, nI_x2, nI_p0, nI_p2, nI_p3, nI_p4, nI_q45]
        refine ex_is _ rfl hS rfl (by omega) (by omega) (fun h1 hA1 hB1 => ?_)
        have hS1 := ST.st (v := i) hA1 (fun _ => Or.inl trivial) (by omega) (by rw [rvx_n (by omega)])
        have hM1 := hB1.mo hM (by decide)
        have e1 : up f (45 + 2 * f 44) i 44 = f 44 := up_ne (by omega)
        refine ex_go 80 rfl ?_
        refine ex_getf rfl hM1 rfl rfl ?_
        refine ex_go 80 rfl ?_
        refine ex_getf rfl hM1 rfl rfl ?_
        refine ex_go 80 rfl ?_
        refine ex_ia 44 rfl hS1 rfl (by first | exact trivial | assumption | (show _ < _; omega)) (by omega) (by omega) rfl ?_
        simp (disch := omega) only [rs_lt, rv_0, rv_1, rv_2, rv_3, rv_4, rv_40, rv_41, rv_42, rv_43, rv_44]
        refine ex_go 80 rfl ?_
        try dsimp only
        try simp only [nI_inc, nI_1, nI_add, nI_mul2, tb_and, tb_or, tb_andn, nI_x5, nI_x2, nI_p0, nI_p2, nI_p3, nI_p4, nI_q45]
        rw [e1]
        refine ex_is _ rfl hS1 rfl (by omega) (by omega) (fun h2 hA2 hB2 => ?_)
        have hS2 := ST.st (v := j) hA2 (fun _ => Or.inl trivial) (by omega) (by rw [rvx_n (by omega)])
        have hM2 := hB2.mo hM1 (by decide)
        have e2 : up (up f (45 + 2 * f 44) i) (45 + 2 * f 44 + 1) j 44 = f 44 := by rw [up_ne (by omega), up_ne (by omega)]
        refine ex_go 80 rfl ?_
        refine ex_getf rfl hM2 rfl rfl ?_
        refine ex_go 80 rfl ?_
        refine ex_ia 44 rfl hS2 rfl (by first | exact trivial | assumption | (show _ < _; omega)) (by omega) (by omega) rfl ?_
        simp (disch := omega) only [rs_lt, rv_0, rv_1, rv_2, rv_3, rv_4, rv_40, rv_41, rv_42, rv_43, rv_44]
        refine ex_go 80 rfl ?_
        try dsimp only
        try simp only [nI_inc, nI_1, nI_add, nI_mul2, tb_and, tb_or, tb_andn, nI_x5, nI_x2, nI_p0, nI_p2, nI_p3, nI_p4, nI_q45]
        rw [e2]
        refine ex_is 44 rfl hS2 rfl (by omega) (by omega) (fun h3 hA3 hB3 => ?_)
        have hS3 := ST.st (v := f 44 + 1) hA3 (fun _ => Or.inl trivial) (by omega) (by rw [rvx_n (by omega)])
        have hM3 := hB3.mo hM2 (by decide)
        refine ex_go 80 rfl ?_
        refine ex_getf rfl hM3 rfl rfl ?_
        refine ex_go 80 rfl ?_
        refine ex_ia 44 rfl hS3 rfl (by first | exact trivial | assumption | (show _ < _; omega)) (by omega) (by omega) rfl ?_
        simp (disch := omega) only [rs_lt, rv_0, rv_1, rv_2, rv_3, rv_4, rv_40, rv_41, rv_42, rv_43, rv_44]
        rw [up_eq]
        rw [show 45 + 2 * f 44 + 1 = 46 + 2 * f 44 by omega] at hS3
        exact ex_iret rfl (⟨rfl, hS3, hR.b8 ((hB1.tr hB2).tr hB3), ((hB1.tr hB2).tr hB3).ry8⟩)
      · have c : f 44 = 6 := (nI_eq (b := 6) (by omega) (by decide)).mp hc
        rw [if_pos c, if_pos c]
        refine ex_go 80 rfl ?_
        exact ex_iret rfl (rq_s hS hR)
theorem k_forget (hC : CO h x) (hT : TA h 1 n f) (hL : TL h) (g : GD n f) {v : Int32} : ev_X scr d cd_X5_forget 0 [.ref 0, .int v, .float 0] [] h (CQ h n (s_forget f v) (.int (a_forget f v))) := by
  have h44 := g.2.2.2.2.2.2.2.1
  unfold a_forget s_forget
  refine ex_go 80 rfl ?_
  refine ex_zlt rfl (fun hc => ?_) (fun hc => ?_)
  · rw [isM_lo hc]
    refine ex_go 80 rfl ?_
    exact ex_iret rfl (cq_s hT hL)
  · refine ex_go 80 rfl ?_
    refine ex_getf rfl hC rfl rfl ?_
    refine ex_getf rfl hT.1 rfl rfl ?_
    refine ex_ile rfl (fun k1 => ?_) (fun k1 => ?_)
    · have hk : isM (f 44 + 1) v = true := isM_in (by omega) hc (fun q => by
        have a := Int32.le_iff_toInt_le.mp k1
        have b := Int32.le_iff_toInt_le.mp q
        rw [nI_toInt (by omega)] at a b
        omega)
      obtain ⟨j, hj, rfl⟩ := isM_of hk (by omega)
      rw [hk, ix_nI (by omega)]
      refine ex_go 80 rfl ?_
      refine ex_getf rfl hC rfl rfl ?_
      refine ex_getf rfl hT.1 rfl rfl ?_
      refine ex_go 80 rfl ?_
      refine ex_getf rfl hC rfl rfl ?_
      refine ex_go 80 rfl ?_
      refine ex_pf rfl hT.1 rfl rfl (fun h1 hO1 hB1 => ?_)
      have hT1 := hT.f_44 (v := j) hO1 hB1 rfl (by omega)
      refine ex_go 80 rfl ?_
      exact ex_iret rfl (cq_t hL hT1 (hB1.fr (by decide) (by decide)))
    · have hk : isM (f 44 + 1) v = false := isM_hi (by omega) (by
        rw [Int32.le_iff_toInt_le, nI_toInt (by omega)]
        have : ¬ v.toInt ≤ (nI (f 44)).toInt := fun q => k1 (Int32.le_iff_toInt_le.mpr q)
        rw [nI_toInt (by omega)] at this
        omega)
      rw [hk]
      refine ex_go 80 rfl ?_
      exact ex_iret rfl (cq_s hT hL)
theorem r_forget (hM : MO h n q) (hS : ST h f im) (hR : RS h) (g : GD n f) {v : Int32} (hd : 1 ≤ d) : ev_X scr d cd_X6_forget 0 [.ref 57, .int v] [] h (RQ h (s_forget f v) im (.int (a_forget f v))) := by
  have h44 := g.2.2.2.2.2.2.2.1
  unfold a_forget s_forget
  refine ex_go 80 rfl ?_
  try dsimp only
  try simp only [nI_inc, nI_1, nI_add, nI_mul2, tb_and, tb_or, tb_andn, nI_x5, nI_x2, nI_p0, nI_p2, nI_p3, nI_p4, nI_q45]
  refine ex_getf rfl hM rfl rfl ?_
  refine ex_go 80 rfl ?_
  refine ex_ia 44 rfl hS rfl (by first | exact trivial | assumption | (show _ < _; omega)) (by omega) (by omega) rfl ?_
  simp (disch := omega) only [rs_lt, rv_0, rv_1, rv_2, rv_3, rv_4, rv_40, rv_41, rv_42, rv_43, rv_44]
  refine ex_go 80 rfl ?_
  try dsimp only
  try simp only [nI_inc, nI_1, nI_add, nI_mul2, tb_and, tb_or, tb_andn, nI_x5, nI_x2, nI_p0, nI_p2, nI_p3, nI_p4, nI_q45]
  refine ex_cs rfl rfl rfl (d' := 0) (by omega) (c_in0 (f 44 + 1) (by rw [Int32.toInt_toInt64, nI_toInt (by omega)]; omega)) ?_
  cases hk : isM (f 44 + 1) v
  · refine ex_zeqT rfl (by decide) ?_
    refine ex_go 80 rfl ?_
    exact ex_iret rfl (rq_s hS hR)
  · obtain ⟨j, hj, rfl⟩ := isM_of hk (by omega)
    rw [ix_nI (by omega)]
    refine ex_zeqF rfl (by decide) ?_
    refine ex_go 80 rfl ?_
    refine ex_cvx rfl rfl rfl rfl hM rfl (d' := 0) (by omega) (c_becomes (k := 44) (v := j) hM hS (by omega) (by rw [rvx_n (by omega)])) ?_
    rintro v1 h1 ⟨rfl, hS1, hB1⟩
    refine ex_go 80 rfl ?_
    exact ex_iret rfl (rq_8 hS1 hR hB1)
theorem k_guard (hC : CO h x) (hT : TA h 1 n f) (hL : TL h) (g : GD n f) {w : Int32} (hd : 6 ≤ d) : ev_X scr d cd_X5_guard 0 [.ref 0, .int w, .float 0, .float 0] [] h (CQ h n f (.int (a_guard n f w))) := by
  have hn := g.1
  have h42 := g.2.2.2.2.1
  unfold a_guard
  refine ex_go 80 rfl ?_
  refine ex_cs rfl rfl rfl (d' := 0) (by omega) (c_isWithin (k := 1) (by decide)) ?_
  show ev_X scr d cd_X5_guard _ _ [.int (nI (tb_b (isM 2 w)))] _ _
  cases hw : isM 2 w
  · refine ex_zneF rfl (by decide) ?_
    refine ex_go 80 rfl ?_
    exact ex_iret rfl (cq_s hT hL)
  · rw [if_pos rfl]
    refine ex_zneT rfl (by decide) ?_
    refine ex_go 80 rfl ?_
    refine ev_loop n (fun i => ev_X scr d cd_X5_guard 10 [.ref 0, .int w, .int (nI (bs (fun m => decide (10 * f 42 < wn n f m)) i)), .int (nI i)] [] h _) (fun i hi K => ?_) ?_
    · have hwl := won_lt g i
      have hwn : wn n f i ≤ 900 := by unfold wn; split <;> omega
      refine ex_nop rfl ?_
      refine ex_go 80 rfl ?_
      refine ex_getf rfl hC rfl rfl ?_
      refine ex_getf rfl hT.1 rfl rfl ?_
      refine ex_igeF rfl (nI_ge hi (by first | omega | decide)) ?_
      refine ex_go 80 rfl ?_
      refine ex_getf rfl hC rfl rfl ?_
      refine ex_go 80 rfl ?_
      refine ex_cv rfl rfl rfl rfl hT.1 rfl (d' := 3) (by omega) (c_won hT g hi (Nat.le_refl _)) ?_
      show ev_X scr d cd_X5_guard _ _ [.int (nI (wn n f i)), _, _] _ _
      refine ex_go 80 rfl ?_
      refine ex_getf rfl hC rfl rfl ?_
      refine ex_getf rfl hT.1 rfl rfl ?_
      refine ex_go 80 rfl ?_
      try dsimp only
      try simp only [nI_inc, nI_1, nI_add, nI_mul2, tb_and, tb_or, tb_andn]
      rw [show (10 : Int32) = nI 10 from rfl, nI_mul2]
      refine ex_ileM 1 2 31 (v := nI (tb_b (decide (10 * f 42 < wn n f i)))) rfl rfl rfl (if01 (by rw [nI_leI (by omega) (by omega)]; omega)) ?_
      refine ex_cs rfl rfl rfl (d' := 0) (by omega) (c_withBit (decide (10 * f 42 < wn n f i)) (by omega)) ?_
      have ew := wb_bs (fun m => decide (10 * f 42 < wn n f m)) i
      unfold wb at ew
      rw [ew]
      refine ex_go 80 rfl ?_
      try dsimp only
      try simp only [nI_inc, nI_1, nI_add, nI_mul2, tb_and, tb_or, tb_andn]
      exact K
    · refine ex_nop rfl ?_
      refine ex_go 80 rfl ?_
      refine ex_getf rfl hC rfl rfl ?_
      refine ex_getf rfl hT.1 rfl rfl ?_
      refine ex_igeT rfl (nI_le (Nat.le_refl _) (by first | omega | decide)) ?_
      refine ex_go 80 rfl ?_
      refine ex_zne rfl (fun hc => ?_) (fun hc => ?_)
      · rw [if_neg hc]
        obtain ⟨n2, f2, hR⟩ := hL
        refine ex_go 80 rfl ?_
        refine ex_getf rfl hC rfl rfl ?_
        refine ex_go 80 rfl ?_
        refine ex_getf rfl hC rfl rfl ?_
        refine ex_cvx rfl rfl rfl rfl hR.1 rfl (d' := 1) (by omega) (c_copyFrom hR hT (by decide) rfl (Nat.le_refl _)) ?_
        rintro v1 h1 ⟨rfl, hR1, hF1⟩
        have hC1 := (hF1.2 0 (by decide)).trans hC
        refine ex_go 80 rfl ?_
        refine ex_getf rfl hC1 rfl rfl ?_
        refine ex_go 80 rfl ?_
        refine ex_pf rfl hR1.1 rfl rfl (fun h2 hO2 hB2 => ?_)
        have hR2 := hR1.f_40 (v := gs n f) hO2 hB2 rfl
        have hF2 := hF1.tr (hB2.fr (a := 10) (b := 10 + 8) (by decide) (by decide))
        have hC2 := (hF2.2 0 (by decide)).trans hC
        refine ex_go 80 rfl ?_
        refine ex_getf rfl hC2 rfl rfl ?_
        refine ex_cv rfl rfl rfl rfl hR2.1 rfl (d' := 5) (by omega) (c_harmOfAll hR2 g.gs (Nat.le_refl _)) ?_
        exact ex_iret rfl (cq_r hT hR2 hF2)
      · rw [if_pos hc]
        refine ex_go 80 rfl ?_
        exact ex_iret rfl (cq_s hT hL)
theorem r_guard (hM : MO h n q) (hS : ST h f im) (hR : RS h) (g : GD n f) {w : Int32} (hd : 4 ≤ d) : ev_X scr d cd_X6_guard 0 [.ref 57, .int w, .float 0, .float 0, .float 0, .float 0] [] h (RQ h f im (.int (a_guard n f w))) := by
  have hn := g.1
  have h8 : 2 ^ n ≤ 2 ^ 8 := Nat.pow_le_pow_right (by decide) hn
  unfold a_guard
  refine ex_go 80 rfl ?_
  refine ex_cs rfl rfl rfl (d' := 1) (by omega) (c_isPart (Nat.le_refl _)) ?_
  cases hw : isM 2 w
  · refine ex_zneF rfl (by decide) ?_
    refine ex_go 80 rfl ?_
    exact ex_iret rfl (rq_s hS hR)
  · rw [if_pos rfl]
    have e5 : a_rule n f 5 = nI (wan n f) := by unfold a_rule; rw [if_pos (by decide)]; rfl
    have hwl : wan n f < 256 := bs_256 _ hn
    refine ex_zneT rfl (by decide) ?_
    refine ex_go 80 rfl ?_
    refine ev_loop (2 ^ n) (fun X => ∀ h1, RS h1 → ST h1 f im → RY h h1 → ev_X scr d cd_X6_guard 11 [.ref 57, .int w, .int (nI (gst n f X).1), .int (nI (gst n f X).2), .int (nI X), .float 0] [] h1 (RQ h f im (.int (if w = 0 then nI (gs n f) else nI (ha n (up f 40 (gs n f))))))) (fun X hX K h1 hR1 hS1 hY1 => ?_) (fun h1 hR1 hS1 hY1 => ?_) h hR hS RY.rf
    · have hM1 : MO h1 n q := (hY1.2 57 (by decide) (by decide) (by decide) (by decide)).trans hM
      have hgl := gst_lt (n := n) (f := f) X
      rw [gst] at K
      refine ex_nop rfl ?_
      refine ex_go 80 rfl ?_
      refine ex_getf rfl hM1 rfl rfl ?_
      refine ex_go 80 rfl ?_
      try dsimp only
      try simp only [nI_inc, nI_1, nI_add, nI_mul2, tb_and, tb_or, tb_andn, nI_x5, nI_x2, nI_p0, nI_p2, nI_p3, nI_p4, nI_q45]
      rw [tb_sh1 n (by omega)]
      refine ex_igeF rfl (nI_ge hX (by omega)) ?_
      refine ex_go 80 rfl ?_
      refine ex_cvx rfl rfl rfl rfl hM1 rfl (d' := 1) (by omega) (r_rule hM1 hS1 hR1 g (w := 5) (Nat.le_refl _)) ?_
      rintro v2 h2 ⟨rfl, hS2, hR2, hY2⟩
      rw [e5]
      have hM2 : MO h2 n q := (hY2.2 57 (by decide) (by decide) (by decide) (by decide)).trans hM1
      refine ex_go 80 rfl ?_
      try dsimp only
      try simp only [nI_inc, nI_1, nI_add, nI_mul2, tb_and, tb_or, tb_andn, nI_x5, nI_x2, nI_p0, nI_p2, nI_p3, nI_p4, nI_q45]
      have hXw : X &&& wan n f < 2 ^ 32 := Nat.lt_of_le_of_lt Nat.and_le_left (by omega)
      by_cases cz : X &&& wan n f = 0
      · rw [cz]
        refine ex_zneF rfl (by decide) ?_
        refine ex_go 80 rfl ?_
        refine ex_cvx rfl rfl rfl rfl hM2 rfl (d' := 0) (by omega) (c_starts hM2 hS2 hR2.1) ?_
        rintro v3 h3 ⟨rfl, hA3, hB3⟩
        have hM3 := hB3.mo hM2 (by decide)
        refine ex_go 80 rfl ?_
        refine ex_getf rfl hM3 rfl rfl ?_
        refine ex_go 80 rfl ?_
        refine ex_is 40 rfl hA3 rfl (by omega) (by omega) (fun h4 hA4 hB4 => ?_)
        have hA5 : AT h4 (up f 40 X) := AT.st hA4 (fun _ => Or.inl trivial) (by rw [rvx_n (by omega)])
        have hM5 := hB4.mo hM3 (by decide)
        have gX := g.X hX cz
        have hal := ha_lt gX
        have hpl := pc8_le X
        refine ex_go 80 rfl ?_
        refine ex_cv rfl rfl rfl rfl hM5 rfl (d' := 3) (by omega) (c_harmAll hM5 hA5 gX (Nat.le_refl _)) ?_
        refine ex_go 80 rfl ?_
        dsimp only
        rw [show (10 : Int32) = nI 10 from rfl, nI_mul2]
        refine ex_cs rfl rfl rfl (d' := 0) (by omega) (c_bitsOf (by omega)) ?_
        refine ex_go 80 rfl ?_
        dsimp only
        rw [nI_add]
        have hBB := hB3.tr hB4
        have fin : ∀ z, RQ h1 f im z (some z) h4 := fun z => ⟨rfl, hS2.b9 hBB, hR2.b9 hBB hA5, hY2.tr hBB.ry9⟩
        show ev_X scr d cd_X6_guard _ [.ref 57, .int w, .int (nI (gst n f X).1), .int (nI (gst n f X).2), .int (nI X), .int (nI (gcost n f X))] [.int (nI (gst n f X).1), .int (nI (gcost n f X))] _ _
        have hcl : gcost n f X < 2 ^ 31 := by unfold gcost; omega
        by_cases k1 : gcost n f X < (gst n f X).1
        · rw [if_pos ⟨cz, k1⟩] at K
          refine ex_igeF rfl (nI_ge k1 (by omega)) ?_
          refine ex_go 80 rfl ?_
          refine ex_igeF rfl (nI_ge k1 (by omega)) ?_
          refine ex_go 80 rfl ?_
          try dsimp only
          try simp only [nI_inc, nI_1, nI_add, nI_mul2, tb_and, tb_or, tb_andn, nI_x5, nI_x2, nI_p0, nI_p2, nI_p3, nI_p4, nI_q45]
          exact ex_weak (K h4 (hR2.b9 hBB hA5) (hS2.b9 hBB) (hY1.tr (hY2.tr hBB.ry9))) (by repeat (first | exact W_n | refine W_e ?_ | refine W_i ?_ | refine W_r ?_))
        · rw [if_neg (fun k => k1 k.2)] at K
          refine ex_igeT rfl (nI_le (by omega) (by omega)) ?_
          refine ex_go 80 rfl ?_
          refine ex_igeT rfl (nI_le (by omega) (by omega)) ?_
          refine ex_go 80 rfl ?_
          try dsimp only
          try simp only [nI_inc, nI_1, nI_add, nI_mul2, tb_and, tb_or, tb_andn, nI_x5, nI_x2, nI_p0, nI_p2, nI_p3, nI_p4, nI_q45]
          exact ex_weak (K h4 (hR2.b9 hBB hA5) (hS2.b9 hBB) (hY1.tr (hY2.tr hBB.ry9))) (by repeat (first | exact W_n | refine W_e ?_ | refine W_i ?_ | refine W_r ?_))
      · rw [if_neg (fun k => cz k.1)] at K
        refine ex_zneT rfl (fun c => cz ((nI_z hXw).mp c)) ?_
        refine ex_go 80 rfl ?_
        try dsimp only
        try simp only [nI_inc, nI_1, nI_add, nI_mul2, tb_and, tb_or, tb_andn, nI_x5, nI_x2, nI_p0, nI_p2, nI_p3, nI_p4, nI_q45]
        exact K h2 hR2 hS2 (hY1.tr hY2)
    · have hM1 : MO h1 n q := (hY1.2 57 (by decide) (by decide) (by decide) (by decide)).trans hM
      rw [(gst_end g (2 ^ n) (Nat.le_refl _)).2 (bs_lt _ _)]
      have hal := ha_lt g.gs
      have hpl := pc8_le (gs n f)
      have hcl : gcost n f (gs n f) < 2 ^ 31 := by unfold gcost; omega
      refine ex_nop rfl ?_
      refine ex_go 80 rfl ?_
      refine ex_getf rfl hM1 rfl rfl ?_
      refine ex_go 80 rfl ?_
      try dsimp only
      try simp only [nI_inc, nI_1, nI_add, nI_mul2, tb_and, tb_or, tb_andn, nI_x5, nI_x2, nI_p0, nI_p2, nI_p3, nI_p4, nI_q45]
      rw [tb_sh1 n (by omega)]
      refine ex_igeT rfl (nI_le (Nat.le_refl _) (by omega)) ?_
      refine ex_go 80 rfl ?_
      refine ex_zne rfl (fun hc => ?_) (fun hc => ?_)
      · rw [if_neg hc]
        refine ex_go 80 rfl ?_
        refine ex_idiv (v := nI (ha n (up f 40 (gs n f)))) rfl (by decide) (by rw [show (10 : Int32) = nI 10 from rfl, pk_div hcl (by decide) (by decide)]; unfold gcost; congr 1; omega) ?_
        exact ex_iret rfl (⟨rfl, hS1, hR1, hY1⟩)
      · rw [if_pos hc]
        refine ex_go 80 rfl ?_
        exact ex_iret rfl (⟨rfl, hS1, hR1, hY1⟩)
end GUARD
