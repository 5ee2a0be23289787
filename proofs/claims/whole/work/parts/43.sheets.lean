/-! Images of the model, sheets, count. -/
def usv (sv : Nat → Bool) (k : Nat) : Nat → Bool := fun j => if j = k then true else sv j
def usc (sc : Nat → Nat → Int32) (k : Nat) (c : Nat → Int32) : Nat → Nat → Int32 := fun j => if j = k then c else sc j
def okS (k l m : Int32) : Bool := isM 4 k && (isM 3 l && decide (m ≤ 40))
def a_sheet (k l m : Int32) : Int32 := if okS k l m = true then (if m < 0 then -14 else 1) else -1
def doS (k l m : Int32) : Bool := okS k l m && !decide (m < 0)
def lw (l : Nat) (v : Int32) : Int32 := if l = 0 then v.toInt8.toInt32 else if l = 1 then v.toInt16.toInt32 else v
def a_lay (sv : Nat → Bool) (ss : Nat → Nat) (k i : Int32) : Int32 := if isM 4 k = true then (if sv (ix k) = true then (if isM (ss (ix k)) i = true then 1 else -12) else -11) else -1
def doL (sv : Nat → Bool) (ss : Nat → Nat) (k i : Int32) : Bool := isM 4 k && (sv (ix k) && isM (ss (ix k)) i)
def a_count (n : Nat) (f : Nat → Nat) (kp : Nat → Bool) (tl : Nat) (sv : Nat → Bool) (ss : Nat → Nat) (w : Int32) : Int32 := if isM 7 w = true then (match ix w with | 0 => nI (sm (sz n f) 4) | 1 => nI (sm (twg n f) 4) | 2 => nI (sm (gsg f (2 ^ n - 1)) n) | 3 => nI (f 44) | 4 => nI (tb_b (kp 0) + tb_b (kp 1)) | 5 => nI tl | _ => szI (sv 0) (ss 0)) else -1
theorem sz_sum {n : Nat} {f : Nat → Nat} (g : GD n f) : n = sm (sz n f) 4 + pc8 (wan n f) := by
  have hn := g.1
  unfold wan
  rw [sm4, pc8_bs _ hn]
  unfold sz
  rw [pc8_bs _ hn, pc8_bs _ hn, pc8_bs _ hn, pc8_bs _ hn, ← sm_add, ← sm_add, ← sm_add, ← sm_add]
  have : ∀ k, k ≤ n → sm (fun i => tb_b (decide (f (5 * i + 3) = 0)) + tb_b (decide (f (5 * i + 3) = 1)) + tb_b (decide (f (5 * i + 3) = 2)) + tb_b (decide (f (5 * i + 3) = 3)) + tb_b (decide (f (5 * i) = 3))) k = k := by
    intro k
    induction k with
    | zero => intro _; rfl
    | succ k ih =>
      intro hk
      rw [sm_s, ih (by omega)]
      obtain ⟨g1, g2, g3, g4, g5, g6⟩ := g.2.1 k (by omega)
      congr 1
      rcases (by omega : f (5 * k + 3) = 0 ∨ f (5 * k + 3) = 1 ∨ f (5 * k + 3) = 2 ∨ f (5 * k + 3) = 3 ∨ f (5 * k + 3) = 4) with c | c | c | c | c
      · have hk3 : ¬ f (5 * k) = 3 := fun z => by have := g5.mp z; omega
        simp [c, hk3, tb_b]
      · have hk3 : ¬ f (5 * k) = 3 := fun z => by have := g5.mp z; omega
        simp [c, hk3, tb_b]
      · have hk3 : ¬ f (5 * k) = 3 := fun z => by have := g5.mp z; omega
        simp [c, hk3, tb_b]
      · have hk3 : ¬ f (5 * k) = 3 := fun z => by have := g5.mp z; omega
        simp [c, hk3, tb_b]
      · have hk3 : f (5 * k) = 3 := g5.mpr c
        simp [c, hk3, tb_b]
  exact (this n (Nat.le_refl n)).symm
section SHEETS
variable {scr : List Int32} {d : Nat} {h : ev_H} {n : Nat} {f : Nat → Nat} {x q im : Nat → Int32} {kp : Nat → Bool} {fk : Nat → Nat → Nat} {tl : Nat} {tp : Nat → Nat} {sv : Nat → Bool} {sl ss : Nat → Nat} {sc : Nat → Nat → Int32}
theorem c_copies {G : Nat → Int32} {a b : Nat} (hM : MO h n q) (hG : IA h 58 171 (fun _ => True) G) (ha : a + 57 ≤ 171) (hb : b + 57 ≤ 171) (hab : a + 57 ≤ b ∨ b + 57 ≤ a) : ev_X scr d cd_X6_copies 0 [.ref 57, .int (nI a), .int (nI b), .float 0] [] h (fun v h' => v = none ∧ IA h' 58 171 (fun _ => True) (fun j => if a ≤ j ∧ j < a + 57 then G (b + (j - a)) else G j) ∧ SB 58 h h') := by
  refine ex_go 80 rfl ?_
  refine ev_loop 57 (fun i => ∀ h1, IA h1 58 171 (fun _ => True) (fun j => if a ≤ j ∧ j < a + i then G (b + (j - a)) else G j) → SB 58 h h1 → ev_X scr d cd_X6_copies 2 [.ref 57, .int (nI a), .int (nI b), .int (nI i)] [] h1 _) (fun i hi K h1 hA1 hB1 => ?_) (fun h1 hA1 hB1 => ?_) h (hG.congr (fun j _ hp => ⟨hp, by rw [if_neg (by omega)]⟩)) SB.rf
  · have hM1 := hB1.mo hM (by decide)
    refine ex_nop rfl ?_
    refine ex_go 80 rfl ?_
    refine ex_igeF rfl (nI_ge hi (by first | omega | decide)) ?_
    refine ex_go 80 rfl ?_
    refine ex_getf rfl hM1 rfl rfl ?_
    refine ex_go 80 rfl ?_
    refine ex_getf rfl hM1 rfl rfl ?_
    refine ex_go 80 rfl ?_
    try dsimp only
    rw [nI_add, nI_add]
    refine ex_ia (b + i) rfl hA1 rfl trivial (by omega) (by omega) (if_neg (by omega)) ?_
    refine ex_is (a + i) rfl hA1 rfl (by omega) (by omega) (fun h2 hA2 hB2 => ?_)
    refine ex_go 80 rfl ?_
    rw [nI_inc]
    refine K h2 (hA2.congr (fun j _ _ => ⟨Or.inl trivial, ?_⟩)) (hB1.tr hB2)
    by_cases c : j = a + i
    · rw [if_pos c, if_pos (by omega), c, Nat.add_sub_cancel_left]
    · rw [if_neg c]
      by_cases c2 : a ≤ j ∧ j < a + i
      · rw [if_pos c2, if_pos (by omega)]
      · rw [if_neg c2, if_neg (by omega)]
  · refine ex_nop rfl ?_
    refine ex_go 80 rfl ?_
    refine ex_igeT rfl (nI_le (Nat.le_refl _) (by first | omega | decide)) ?_
    exact ex_vret rfl (⟨rfl, hA1, hB1⟩)
theorem r_keep (hM : MO h n q) (hS : ST h f im) (hI : IMr h im kp fk) {k : Int32} (hd : 1 ≤ d) : ev_X scr d cd_X6_keep 0 [.ref 57, .int k, .float 0] [] h (fun v h' => v = some (.int (a_keep kp k)) ∧ (if isM 2 k = true then (∃ im', ST h' f im' ∧ IMr h' im' (ukp kp (ix k)) (ufk fk (ix k) f)) else ST h' f im ∧ IMr h' im kp fk) ∧ h'.length = h.length ∧ ∀ j, j ≠ 58 → j ≠ 60 → h'[j]? = h[j]?) := by
  unfold a_keep
  refine ex_go 80 rfl ?_
  try dsimp only
  try simp only [nI_inc, nI_1, nI_add, nI_mul2, tb_and, tb_or, tb_andn, nI_x5, nI_x2, nI_p0, nI_p2, nI_p3, nI_p4, nI_q45]
  refine ex_cs rfl rfl rfl (d' := 0) (by omega) (c_in0 2 (by decide)) ?_
  cases hw : isM 2 k
  · refine ex_zneF rfl (by decide) ?_
    refine ex_go 80 rfl ?_
    exact ex_iret rfl (⟨rfl, ⟨hS, hI⟩, rfl, fun _ _ _ => rfl⟩)
  · obtain ⟨i, hi, rfl⟩ := isM_of hw (by decide)
    rw [ix_nI (by omega), if_pos rfl]
    obtain ⟨i2, i3⟩ := hI
    refine ex_zneT rfl (by decide) ?_
    refine ex_go 80 rfl ?_
    refine ex_getf rfl hM rfl rfl ?_
    refine ex_go 80 rfl ?_
    refine ex_ba _ rfl i2 (by decide) rfl (by first | exact trivial | assumption | (show _ < _; omega)) (by omega) (by omega) rfl ?_
    refine ex_cs rfl rfl rfl (d' := 0) (by omega) (c_flag) ?_
    refine ex_go 80 rfl ?_
    refine ex_getf rfl hM rfl rfl ?_
    refine ex_go 80 rfl ?_
    refine ex_bs _ rfl i2 rfl (Or.inr ⟨rfl, show vp_nar .boolean 1 = nI 1 from rfl⟩) (by omega) (by omega) (fun h1 hA1 hB1 => ?_)
    have hM1 := hB1.mo hM (by decide)
    have hS1 := hS.sb hB1 (by decide)
    refine ex_go 80 rfl ?_
    dsimp only
    rw [nI_1, show (57 : Int32) = nI 57 from rfl, nI_mul2]
    refine ex_cvx rfl rfl rfl rfl hM1 rfl (d' := 0) (by omega) (c_copies (b := 0) hM1 hS1 (by omega) (by decide) (by omega)) ?_
    rintro v2 h2 ⟨rfl, hA2, hB2⟩
    refine ex_go 80 rfl (ex_iret rfl ⟨rfl, ?_, hB2.1.trans hB1.1, fun j a b => (hB2.2 j a).trans (hB1.2 j b)⟩)
    refine ⟨fun j => if 57 * (i + 1) ≤ j ∧ j < 57 * (i + 1) + 57 then rv f (j - 57 * (i + 1)) else im j, hA2.congr (fun j _ hp => ⟨hp, ?_⟩), (hA1.kept (hB2.2 60 (by decide))).congr (fun j hj _ => ⟨Or.inl trivial, by unfold ukp; by_cases c : j = i <;> simp [c, tb_b]⟩), fun l hl hk j hj => ?_⟩
    · by_cases c : 57 * (i + 1) ≤ j ∧ j < 57 * (i + 1) + 57
      · rw [if_pos c, Nat.zero_add, rs_lt (by omega), rs, if_neg (by omega), if_pos c]
      · rw [if_neg c, rs, rs]
        by_cases c2 : j < 57
        · rw [if_pos c2, if_pos c2]
        · rw [if_neg c2, if_neg c2, if_neg c]
    · unfold ukp at hk
      unfold ufk
      show (if 57 * (i + 1) ≤ 57 * (l + 1) + j ∧ 57 * (l + 1) + j < 57 * (i + 1) + 57 then rv f (57 * (l + 1) + j - 57 * (i + 1)) else im (57 * (l + 1) + j)) = _
      by_cases c : l = i
      · rw [if_pos c, if_pos (by omega), c, Nat.add_sub_cancel_left]
      · rw [if_neg c] at hk ⊢
        rw [if_neg (by omega)]
        exact i3 l hl hk j hj
theorem r_back (hM : MO h n q) (hS : ST h f im) (hI : IMr h im kp fk) {k : Int32} (hd : 1 ≤ d) : ev_X scr d cd_X6_back 0 [.ref 57, .int k] [] h (fun v h' => v = some (.int (a_back kp fk k)) ∧ ST h' (if (isM 2 k && kp (ix k)) = true then fk (ix k) else f) im ∧ SB 58 h h') := by
  unfold a_back
  refine ex_go 80 rfl ?_
  try dsimp only
  try simp only [nI_inc, nI_1, nI_add, nI_mul2, tb_and, tb_or, tb_andn, nI_x5, nI_x2, nI_p0, nI_p2, nI_p3, nI_p4, nI_q45]
  refine ex_cs rfl rfl rfl (d' := 0) (by omega) (c_in0 2 (by decide)) ?_
  cases hw : isM 2 k
  · refine ex_zneF rfl (by decide) ?_
    refine ex_go 80 rfl ?_
    exact ex_iret rfl (⟨rfl, hS, SB.rf⟩)
  · obtain ⟨i, hi, rfl⟩ := isM_of hw (by decide)
    rw [ix_nI (by omega), if_pos rfl, Bool.true_and]
    obtain ⟨i2, i3⟩ := hI
    refine ex_zneT rfl (by decide) ?_
    refine ex_go 80 rfl ?_
    refine ex_getf rfl hM rfl rfl ?_
    refine ex_go 80 rfl ?_
    refine ex_ba _ rfl i2 (by decide) rfl (by first | exact trivial | assumption | (show _ < _; omega)) (by omega) (by omega) rfl ?_
    cases hk : kp i
    · refine ex_zneF rfl (by decide) ?_
      refine ex_go 80 rfl ?_
      exact ex_iret rfl (⟨rfl, hS, SB.rf⟩)
    · refine ex_zneT rfl (by decide) ?_
      refine ex_go 80 rfl ?_
      dsimp only
      rw [nI_1, show (57 : Int32) = nI 57 from rfl, nI_mul2]
      refine ex_cvx rfl rfl rfl rfl hM rfl (d' := 0) (by omega) (c_copies (a := 0) hM hS (by omega) (by omega) (by omega)) ?_
      rintro v1 h1 ⟨rfl, hA1, hB1⟩
      have hM1 := hB1.mo hM (by decide)
      have hS1 : ST h1 (fk i) im := hA1.congr (fun j hj hp => ⟨hp, by
        by_cases c : j < 57
        · rw [if_pos (by omega), Nat.sub_zero, rs, if_neg (by omega), rs_lt c]
          exact i3 i hi hk j c
        · rw [if_neg (by omega), rs, if_neg c, rs, if_neg c]⟩)
      refine ex_go 80 rfl ?_
      refine ex_getf rfl hM1 rfl rfl ?_
      refine ex_go 80 rfl ?_
      refine ex_ia 43 rfl hS1 rfl (by first | exact trivial | assumption | (show _ < _; omega)) (by omega) (by omega) rfl ?_
      simp (disch := omega) only [rs_lt, rv_0, rv_1, rv_2, rv_3, rv_4, rv_40, rv_41, rv_42, rv_43, rv_44]
      exact ex_iret rfl (⟨rfl, hS1, hB1⟩)
theorem c_renew {k l l0 : Nat} {s s0 : Int32} {c : Nat → Int32} (hO : SHo h k l0 s0) (hA : IA h (49 + 2 * k + 1) 40 (fun _ => True) c) : ev_X scr d cd_X2_renew 0 [.ref (49 + 2 * k), .int (nI l), .int s, .float 0] [] h (fun v h' => v = none ∧ SHo h' k l s ∧ IA h' (49 + 2 * k + 1) 40 (fun _ => True) (fun _ => 0) ∧ FR (49 + 2 * k) (49 + 2 * k + 1) h h') := by
  refine ex_go 80 rfl ?_
  refine ex_pf rfl hO rfl rfl (fun h1 hO1 hB1 => ?_)
  refine ex_go 80 rfl ?_
  refine ex_pf rfl hO1 rfl rfl (fun h2 hO2 hB2 => ?_)
  have hBB := hB1.tr hB2
  have hA2 := hA.sb hBB (by omega)
  have hO2' : SHo h2 k l s := hO2
  refine ex_go 80 rfl ?_
  refine ev_loop 40 (fun i => ∀ h3, IA h3 (49 + 2 * k + 1) 40 (fun j => j < i ∧ True) (fun _ => 0) → SB (49 + 2 * k + 1) h2 h3 → ev_X scr d cd_X2_renew 8 [.ref (49 + 2 * k), .int (nI l), .int s, .int (nI i)] [] h3 _) (fun i hi K h3 hA3 hB3 => ?_) (fun h3 hA3 hB3 => ?_) h2 hA2.none SB.rf
  · have hO3 := (hB3.2 (49 + 2 * k) (by omega)).trans hO2'
    refine ex_nop rfl ?_
    refine ex_go 80 rfl ?_
    refine ex_igeF rfl (nI_ge hi (by first | omega | decide)) ?_
    refine ex_go 80 rfl ?_
    refine ex_getf rfl hO3 rfl rfl ?_
    refine ex_go 80 rfl ?_
    refine ex_is _ rfl hA3 rfl (by omega) (by omega) (fun h4 hA4 hB4 => ?_)
    refine ex_go 80 rfl ?_
    try dsimp only
    try simp only [nI_inc, nI_1, nI_add, nI_mul2, tb_and, tb_or, tb_andn]
    exact K h4 (hA4.grow (fun _ => rfl)) (hB3.tr hB4)
  · have hO3 := (hB3.2 (49 + 2 * k) (by omega)).trans hO2'
    refine ex_nop rfl ?_
    refine ex_go 80 rfl ?_
    refine ex_igeT rfl (nI_le (Nat.le_refl _) (by first | omega | decide)) ?_
    exact ex_vret rfl (⟨rfl, hO3, hA3.full, (hBB.fr (by omega) (by omega)).tr (hB3.fr (by omega) (by omega))⟩)
def S3 (b : Bool) (h' : ev_H) (P : Prop) (Q : Prop) : Prop := if b = true then P else Q
theorem k_sheet (hC : CO h x) (hS : SHc h sv sl ss sc) {k l m : Int32} (hd : 1 ≤ d) : ev_X scr d cd_X5_sheet 0 [.ref 0, .int k, .int l, .int m] [] h (fun v h' => v = some (.int (a_sheet k l m)) ∧ (if doS k l m = true then SHc h' (usv sv (ix k)) (up sl (ix k) (ix l)) (up ss (ix k) (ix m)) (usc sc (ix k) (fun _ => 0)) else SHc h' sv sl ss sc) ∧ h'.length = h.length ∧ ∀ j, (j < 49 ∨ 56 < j) → h'[j]? = h[j]?) := by
  unfold a_sheet doS okS
  refine ex_go 80 rfl ?_
  refine ex_cs rfl rfl rfl (d' := 0) (by omega) (c_isWithin (k := 3) (by decide)) ?_
  show ev_X scr d cd_X5_sheet _ _ [.int (nI (tb_b (isM 4 k)))] _ _
  cases hk : isM 4 k
  · refine ex_zeqT rfl (by decide) ?_
    refine ex_go 80 rfl ?_
    exact ex_iret rfl (⟨rfl, hS, rfl, fun _ _ => rfl⟩)
  · refine ex_zeqF rfl (by decide) ?_
    refine ex_go 80 rfl ?_
    refine ex_cs rfl rfl rfl (d' := 0) (by omega) (c_isWithin (k := 2) (by decide)) ?_
    show ev_X scr d cd_X5_sheet _ _ [.int (nI (tb_b (isM 3 l)))] _ _
    cases hl : isM 3 l
    · refine ex_zeqT rfl (by decide) ?_
      refine ex_go 80 rfl ?_
      exact ex_iret rfl (⟨rfl, hS, rfl, fun _ _ => rfl⟩)
    · refine ex_zeqF rfl (by decide) ?_
      refine ex_go 80 rfl ?_
      refine ex_ile rfl (fun hc => ?_) (fun hc => ?_)
      · rw [decide_eq_true hc]
        refine ex_go 80 rfl ?_
        refine ex_zge rfl (fun k1 => ?_) (fun k1 => ?_)
        · rw [Bool.true_and, Bool.true_and, if_pos rfl, if_neg (Int32.not_lt.mpr k1), decide_eq_false (Int32.not_lt.mpr k1)]
          obtain ⟨i, hi, rfl⟩ := isM_of hk (by decide)
          obtain ⟨j, hj, rfl⟩ := isM_of hl (by decide)
          obtain ⟨z, hz, rfl⟩ := nI_of (Int32.not_lt.mpr k1)
          rw [ix_nI (by omega), ix_nI (by omega), ix_nI hz]
          obtain ⟨s1, s2⟩ := hS
          have so := (s2 i hi).1
          refine ex_go 80 rfl ?_
          refine ex_getf rfl hC rfl rfl ?_
          refine ex_go 80 rfl ?_
          refine ex_aald _ rfl s1 rfl rfl (hi) (by omega) (shts_g hi) ?_
          refine ex_go 80 rfl ?_
          refine ex_cvx rfl rfl rfl rfl so rfl (d' := 0) (by omega) (c_renew (s2 i hi).1 (s2 i hi).2) ?_
          rintro v1 h1 ⟨rfl, hO1, hA1, hF1⟩
          refine ex_go 80 rfl (ex_iret rfl ⟨rfl, ?_, hF1.1, fun y hy => hF1.2 y (by omega)⟩)
          refine ⟨(hF1.2 21 (by omega)).trans s1, fun y hy => ?_⟩
          by_cases c : y = i
          · rw [c]
            unfold usv usc
            rw [up_eq, up_eq, if_pos rfl, if_pos rfl]
            exact ⟨hO1, hA1⟩
          · unfold usv usc
            rw [up_ne c, up_ne c, if_neg c, if_neg c]
            exact ⟨(hF1.2 _ (by omega)).trans (s2 y hy).1, (s2 y hy).2.fr hF1 (by omega)⟩
        · have k2 := Int32.not_le.mp k1
          rw [Bool.true_and, Bool.true_and, if_pos rfl, if_pos k2, decide_eq_true k2]
          refine ex_go 80 rfl ?_
          exact ex_iret rfl (⟨rfl, hS, rfl, fun _ _ => rfl⟩)
      · rw [decide_eq_false hc]
        refine ex_go 80 rfl ?_
        exact ex_iret rfl (⟨rfl, hS, rfl, fun _ _ => rfl⟩)
theorem c_isSheet {k l : Int32} (hd : 1 ≤ d) : ev_V scr d cd_X6_isSheet 0 [.int k, .int l] [] h (some (.int (nI (tb_b (isM 4 k && isM 3 l)))), h) := by
  refine ev_go 80 rfl ?_
  try dsimp only
  try simp only [nI_inc, nI_1, nI_add, nI_mul2, tb_and, tb_or, tb_andn, nI_x5, nI_x2, nI_p0, nI_p2, nI_p3, nI_p4, nI_q45]
  refine ev_cs rfl rfl rfl (d' := 0) (by omega) (c_in0 4 (by decide)) ?_
  cases hk : isM 4 k
  · refine ev_zeqT rfl (by decide) ?_
    refine ev_go 80 rfl ?_
    exact ev_tret rfl rfl
  · refine ev_zeqF rfl (by decide) ?_
    refine ev_go 80 rfl ?_
    try dsimp only
    try simp only [nI_inc, nI_1, nI_add, nI_mul2, tb_and, tb_or, tb_andn, nI_x5, nI_x2, nI_p0, nI_p2, nI_p3, nI_p4, nI_q45]
    refine ev_cs rfl rfl rfl (d' := 0) (by omega) (c_in0 3 (by decide)) ?_
    cases hl : isM 3 l
    · refine ev_zeqT rfl (by decide) ?_
      refine ev_go 80 rfl ?_
      exact ev_tret rfl rfl
    · refine ev_zeqF rfl (by decide) ?_
      refine ev_go 80 rfl ?_
      exact ev_tret rfl rfl
theorem r_sheet (hM : MO h n q) (hS : SHr h sv sl ss sc) {k l m : Int32} (hd : 2 ≤ d) : ev_X scr d cd_X6_sheet 0 [.ref 57, .int k, .int l, .int m, .float 0] [] h (fun v h' => v = some (.int (a_sheet k l m)) ∧ (if doS k l m = true then SHr h' (usv sv (ix k)) (up sl (ix k) (ix l)) (up ss (ix k) (ix m)) (usc sc (ix k) (fun _ => 0)) else SHr h' sv sl ss sc) ∧ h'.length = h.length ∧ ∀ j, (j < 67 ∨ 69 < j) → h'[j]? = h[j]?) := by
  unfold a_sheet doS okS
  refine ex_go 80 rfl ?_
  refine ex_cs rfl rfl rfl (d' := 1) (by omega) (c_isSheet (Nat.le_refl _)) ?_
  cases hk : isM 4 k
  · refine ex_zeqT rfl (rfl) ?_
    refine ex_go 80 rfl ?_
    exact ex_iret rfl (⟨rfl, hS, rfl, fun _ _ => rfl⟩)
  · cases hl : isM 3 l
    · refine ex_zeqT rfl (by decide) ?_
      refine ex_go 80 rfl ?_
      exact ex_iret rfl (⟨rfl, hS, rfl, fun _ _ => rfl⟩)
    · refine ex_zeqF rfl (by decide) ?_
      refine ex_go 80 rfl ?_
      refine ex_ile rfl (fun hc => ?_) (fun hc => ?_)
      · rw [decide_eq_true hc]
        refine ex_go 80 rfl ?_
        refine ex_zge rfl (fun k1 => ?_) (fun k1 => ?_)
        · rw [Bool.true_and, Bool.true_and, if_pos rfl, if_neg (Int32.not_lt.mpr k1), decide_eq_false (Int32.not_lt.mpr k1)]
          obtain ⟨i, hi, rfl⟩ := isM_of hk (by decide)
          obtain ⟨j, hj, rfl⟩ := isM_of hl (by decide)
          obtain ⟨z, hz, rfl⟩ := nI_of (Int32.not_lt.mpr k1)
          rw [ix_nI (by omega), ix_nI (by omega), ix_nI hz]
          obtain ⟨s1, s2, s3⟩ := hS
          refine ex_go 80 rfl ?_
          refine ex_getf rfl hM rfl rfl ?_
          refine ex_go 80 rfl ?_
          refine ex_is _ rfl s1 rfl (by omega) (by omega) (fun h1 hA1 hB1 => ?_)
          have hM1 := hB1.mo hM (by decide)
          have s21 := s2.sb hB1 (by decide)
          refine ex_go 80 rfl ?_
          refine ex_getf rfl hM1 rfl rfl ?_
          refine ex_go 80 rfl ?_
          refine ex_is _ rfl s21 rfl (by omega) (by omega) (fun h2 hA2 hB2 => ?_)
          have hM2 := hB2.mo hM1 (by decide)
          have s32 := (s3.sb hB1 (by decide)).sb hB2 (by decide)
          refine ex_go 80 rfl ?_
          refine ev_loop 40 (fun y => ∀ h3, IA h3 69 160 (fun _ => True) (fun p => if 40 * i ≤ p ∧ p < 40 * i + y then 0 else sc (p / 40) (p % 40)) → SB 69 h2 h3 → ev_X scr d cd_X6_sheet 25 [.ref 57, .int (nI i), .int (nI j), .int (nI z), .int (nI y)] [] h3 _) (fun y hy K h3 hA3 hB3 => ?_) (fun h3 hA3 hB3 => ?_) h2 (s32.congr (fun p _ hp => ⟨hp, by rw [if_neg (by omega)]⟩)) SB.rf
          · have hM3 := hB3.mo hM2 (by decide)
            refine ex_nop rfl ?_
            refine ex_go 80 rfl ?_
            refine ex_igeF rfl (nI_ge hy (by decide)) ?_
            refine ex_go 80 rfl ?_
            refine ex_getf rfl hM3 rfl rfl ?_
            refine ex_go 80 rfl ?_
            try dsimp only
            try simp only [nI_inc, nI_1, nI_add, nI_mul2, tb_and, tb_or, tb_andn, nI_x5, nI_x2, nI_p0, nI_p2, nI_p3, nI_p4, nI_q45]
            rw [show (40 : Int32) = nI 40 from rfl, nI_mul2, nI_add]
            refine ex_is _ rfl hA3 rfl (by omega) (by omega) (fun h4 hA4 hB4 => ?_)
            refine ex_go 80 rfl ?_
            try dsimp only
            try simp only [nI_inc, nI_1, nI_add, nI_mul2, tb_and, tb_or, tb_andn, nI_x5, nI_x2, nI_p0, nI_p2, nI_p3, nI_p4, nI_q45]
            refine K h4 (hA4.congr (fun p _ _ => ⟨Or.inl trivial, ?_⟩)) (hB3.tr hB4)
            by_cases c : p = 40 * i + y
            · rw [if_pos c, if_pos (by omega)]
            · rw [if_neg c]
              by_cases c2 : 40 * i ≤ p ∧ p < 40 * i + y
              · rw [if_pos c2, if_pos (by omega)]
              · rw [if_neg c2, if_neg (by omega)]
          · have hM3 := hB3.mo hM2 (by decide)
            refine ex_nop rfl ?_
            refine ex_go 80 rfl ?_
            refine ex_igeT rfl (nI_le (Nat.le_refl 40) (by decide)) ?_
            refine ex_go 80 rfl ?_
            refine ex_iret rfl ⟨rfl, ⟨((hA1.sb hB2 (by decide)).sb hB3 (by decide)).congr (fun y hy _ => ⟨Or.inl trivial, ?_⟩), (hA2.sb hB3 (by decide)).congr (fun y hy _ => ⟨Or.inl trivial, ?_⟩), hA3.congr (fun p hp _ => ⟨trivial, ?_⟩)⟩, hB3.1.trans (hB2.1.trans hB1.1), fun y hy => ((hB3.2 y (by omega)).trans (hB2.2 y (by omega))).trans (hB1.2 y (by omega))⟩
            · unfold usv
              by_cases c : y = i
              · rw [if_pos c, c, if_pos rfl, up_eq]; rfl
              · rw [if_neg c, if_neg c, up_ne c]
            · by_cases c : y = i
              · rw [if_pos c, c, up_eq]
              · rw [if_neg c, up_ne c]
            · unfold usc
              by_cases c : p / 40 = i
              · rw [if_pos (by omega), if_pos c]
              · rw [if_neg (by omega), if_neg c]
        · have k2 := Int32.not_le.mp k1
          rw [Bool.true_and, Bool.true_and, if_pos rfl, if_pos k2, decide_eq_true k2]
          refine ex_go 80 rfl ?_
          exact ex_iret rfl (⟨rfl, hS, rfl, fun _ _ => rfl⟩)
      · rw [decide_eq_false hc]
        refine ex_go 80 rfl ?_
        exact ex_iret rfl (⟨rfl, hS, rfl, fun _ _ => rfl⟩)
theorem isM_sz {s : Nat} (hs : s ≤ 40) {i : Int32} (h0 : ¬ i < 0) : i < nI s ↔ isM s i = true := by
  obtain ⟨j, hj, rfl⟩ := nI_of h0
  rw [nI_ltI hj (by omega)]
  constructor
  · intro c; exact isM_nI c (by omega)
  · intro c
    obtain ⟨z, hz, e⟩ := isM_of c (by omega)
    rw [nI_eq hj (by omega)] at e
    omega
/-- the fault of a cell -/
def flt (v : Bool) (s l : Nat) (a i : Int32) : Int32 := if v = true then (if a = nI l then (if isM s i = true then 0 else 2) else 3) else 1
theorem c_faultAt {k l s : Nat} {v : Bool} (hO : SHo h k l (szI v s)) (hs : s ≤ 40) {a i : Int32} : ev_X scr d cd_X2_faultAt 0 [.ref (49 + 2 * k), .int a, .int i] [] h (fun r h' => r = some (.int (flt v s l a i)) ∧ h' = h) := by
  unfold flt
  cases v
  · refine ex_go 80 rfl ?_
    refine ex_getf rfl hO rfl rfl ?_
    show ev_X scr d cd_X2_faultAt _ _ [.int (-4)] _ _
    refine ex_zgeF rfl (by decide) ?_
    refine ex_go 80 rfl ?_
    exact ex_iret rfl (⟨rfl, rfl⟩)
  · have e : szI true s = nI s := rfl
    rw [e] at hO
    refine ex_go 80 rfl ?_
    refine ex_getf rfl hO rfl rfl ?_
    refine ex_zgeT rfl (nI_pos' (by omega)) ?_
    refine ex_go 80 rfl ?_
    refine ex_getf rfl hO rfl rfl ?_
    refine ex_ieq rfl (fun hc => ?_) (fun hc => ?_)
    · rw [if_pos rfl, if_pos hc]
      refine ex_go 80 rfl ?_
      refine ex_zlt rfl (fun k1 => ?_) (fun k1 => ?_)
      · rw [isM_lo k1]
        refine ex_go 80 rfl ?_
        exact ex_iret rfl (⟨rfl, rfl⟩)
      · have e2 := isM_sz hs k1
        refine ex_go 80 rfl ?_
        refine ex_getf rfl hO rfl rfl ?_
        refine ex_ilt rfl (fun k2 => ?_) (fun k2 => ?_)
        · rw [e2.mp k2]
          refine ex_go 80 rfl ?_
          exact ex_iret rfl (⟨rfl, rfl⟩)
        · have e3 : isM s i = false := by
            cases c : isM s i
            · rfl
            · exact absurd (e2.mpr c) k2
          rw [e3]
          refine ex_go 80 rfl ?_
          exact ex_iret rfl (⟨rfl, rfl⟩)
    · rw [if_pos rfl, if_neg hc]
      refine ex_go 80 rfl ?_
      exact ex_iret rfl (⟨rfl, rfl⟩)
theorem c_write {k l i : Nat} {s v : Int32} {c : Nat → Int32} (hO : SHo h k l s) (hA : IA h (49 + 2 * k + 1) 40 (fun _ => True) c) (hl : l ≤ 2) (hi : i < 40) : ev_X scr d cd_X2_write 0 [.ref (49 + 2 * k), .int (nI i), .int v] [] h (fun r h' => r = none ∧ IA h' (49 + 2 * k + 1) 40 (fun _ => True) (fun j => if j = i then lw l v else c j) ∧ SB (49 + 2 * k + 1) h h') := by
  refine ex_go 80 rfl ?_
  refine ex_getf rfl hO rfl rfl ?_
  rcases (by omega : l = 0 ∨ l = 1 ∨ l = 2) with rfl | rfl | rfl
  · refine ex_lsw (t := 3) rfl (by decide) ?_
    refine ex_go 80 rfl ?_
    refine ex_getf rfl hO rfl rfl ?_
    refine ex_go 80 rfl ?_
    try dsimp only
    try simp only [nI_inc, nI_1, nI_add, nI_mul2, tb_and, tb_or, tb_andn]
    refine ex_is _ rfl hA rfl (by omega) (by omega) (fun h1 hA1 hB1 => ?_)
    refine ex_go 80 rfl ?_
    exact ex_vret rfl (⟨rfl, hA1.congr (fun j _ _ => ⟨Or.inl trivial, rfl⟩), hB1⟩)
  · refine ex_lsw (t := 10) rfl (by decide) ?_
    refine ex_go 80 rfl ?_
    refine ex_getf rfl hO rfl rfl ?_
    refine ex_go 80 rfl ?_
    try dsimp only
    try simp only [nI_inc, nI_1, nI_add, nI_mul2, tb_and, tb_or, tb_andn]
    refine ex_is _ rfl hA rfl (by omega) (by omega) (fun h1 hA1 hB1 => ?_)
    refine ex_go 80 rfl ?_
    exact ex_vret rfl (⟨rfl, hA1.congr (fun j _ _ => ⟨Or.inl trivial, rfl⟩), hB1⟩)
  · refine ex_lsw (t := 17) rfl (by decide) ?_
    refine ex_go 80 rfl ?_
    refine ex_getf rfl hO rfl rfl ?_
    refine ex_go 80 rfl ?_
    refine ex_is _ rfl hA rfl (by omega) (by omega) (fun h1 hA1 hB1 => ?_)
    exact ex_vret rfl (⟨rfl, hA1.congr (fun j _ _ => ⟨Or.inl trivial, rfl⟩), hB1⟩)
def ulc (c : Nat → Int32) (i : Nat) (v : Int32) : Nat → Int32 := fun j => if j = i then v else c j
theorem k_lay (hC : CO h x) (hS : SHc h sv sl ss sc) (hb : ∀ k, k < 4 → sl k ≤ 2 ∧ ss k ≤ 40) {k i v : Int32} (hd : 1 ≤ d) : ev_X scr d cd_X5_lay 0 [.ref 0, .int k, .int i, .int v, .float 0, .float 0] [] h (fun r h' => r = some (.int (a_lay sv ss k i)) ∧ (if doL sv ss k i = true then SHc h' sv sl ss (usc sc (ix k) (ulc (sc (ix k)) (ix i) (lw (sl (ix k)) v))) else SHc h' sv sl ss sc) ∧ h'.length = h.length ∧ ∀ j, (j < 49 ∨ 56 < j) → h'[j]? = h[j]?) := by
  unfold a_lay doL
  refine ex_go 80 rfl ?_
  refine ex_cs rfl rfl rfl (d' := 0) (by omega) (c_isWithin (k := 3) (by decide)) ?_
  show ev_X scr d cd_X5_lay _ _ [.int (nI (tb_b (isM 4 k)))] _ _
  cases hk : isM 4 k
  · refine ex_zneF rfl (by decide) ?_
    refine ex_go 80 rfl ?_
    exact ex_iret rfl (⟨rfl, hS, rfl, fun _ _ => rfl⟩)
  · obtain ⟨y, hy, rfl⟩ := isM_of hk (by decide)
    rw [ix_nI (by omega), if_pos rfl]
    obtain ⟨hb1, hb2⟩ := hb y hy
    obtain ⟨s1, s2⟩ := id hS
    have so := (s2 y hy).1
    have sa' := (s2 y hy).2
    refine ex_zneT rfl (by decide) ?_
    refine ex_go 80 rfl ?_
    refine ex_getf rfl hC rfl rfl ?_
    refine ex_go 80 rfl ?_
    refine ex_aald _ rfl s1 rfl rfl (hy) (by omega) (shts_g hy) ?_
    refine ex_go 80 rfl ?_
    refine ex_getf rfl so rfl rfl ?_
    refine ex_go 80 rfl ?_
    refine ex_cvx rfl rfl rfl rfl so rfl (d' := 0) (by omega) (c_faultAt so hb2) ?_
    rintro v1 h1 ⟨rfl, rfl⟩
    unfold flt
    cases hv : sv y
    · rw [if_neg (show ¬ false = true by decide), if_neg (show ¬ false = true by decide)]
      refine ex_go 80 rfl ?_
      refine ex_zeqF rfl (by decide) ?_
      refine ex_go 80 rfl ?_
      dsimp only
      rw [show (-10 : Int32) - 1 = -11 from by decide]
      exact ex_iret rfl (⟨rfl, hS, rfl, fun _ _ => rfl⟩)
    · rw [if_pos rfl, if_pos rfl, if_pos rfl]
      cases hi : isM (ss y) i
      · rw [if_neg (show ¬ false = true by decide), if_neg (show ¬ false = true by decide)]
        refine ex_go 80 rfl ?_
        refine ex_zeqF rfl (by decide) ?_
        refine ex_go 80 rfl ?_
        dsimp only
        rw [show (-10 : Int32) - 2 = -12 from by decide]
        exact ex_iret rfl (⟨rfl, hS, rfl, fun _ _ => rfl⟩)
      · obtain ⟨z, hz, rfl⟩ := isM_of hi (by omega)
        rw [ix_nI (by omega)]
        refine ex_go 80 rfl ?_
        refine ex_zeqT rfl (rfl) ?_
        refine ex_go 80 rfl ?_
        refine ex_cvx rfl rfl rfl rfl so rfl (d' := 0) (by omega) (c_write so sa' hb1 (by omega)) ?_
        rintro v2 h2 ⟨rfl, hA2, hB2⟩
        refine ex_go 80 rfl (ex_iret rfl ⟨rfl, ?_, hB2.1, fun j hj => hB2.2 j (by omega)⟩)
        refine ⟨(hB2.2 21 (by omega)).trans s1, fun j hj => ⟨(hB2.2 _ (by omega)).trans (s2 j hj).1, ?_⟩⟩
        unfold usc
        by_cases c : j = y
        · rw [c, if_pos rfl]
          exact hA2
        · rw [if_neg c]
          exact (s2 j hj).2.sb hB2 (by omega)
theorem szI_m4 {v : Bool} {s : Nat} (hs : s ≤ 40) : szI v s = -4 ↔ v = false := by
  cases v
  · exact ⟨fun _ => rfl, fun _ => rfl⟩
  · have : ∀ s, s < 41 → ¬ nI s = -4 := by decide
    exact ⟨fun c => absurd c (this s (by omega)), fun c => absurd c (by decide)⟩
theorem r_lay (hM : MO h n q) (hS : SHr h sv sl ss sc) (hb : ∀ k, k < 4 → sl k ≤ 2 ∧ ss k ≤ 40) {k i v : Int32} (hd : 2 ≤ d) : ev_X scr d cd_X6_lay 0 [.ref 57, .int k, .int i, .int v] [] h (fun r h' => r = some (.int (a_lay sv ss k i)) ∧ (if doL sv ss k i = true then SHr h' sv sl ss (usc sc (ix k) (ulc (sc (ix k)) (ix i) (lw (sl (ix k)) v))) else SHr h' sv sl ss sc) ∧ h'.length = h.length ∧ ∀ j, (j < 67 ∨ 69 < j) → h'[j]? = h[j]?) := by
  unfold a_lay doL
  refine ex_go 80 rfl ?_
  refine ex_cs rfl rfl rfl (d' := 1) (by omega) (c_isSheet (Nat.le_refl _)) ?_
  rw [show isM 3 0 = true from by decide, Bool.and_true]
  cases hk : isM 4 k
  · refine ex_zneF rfl (by decide) ?_
    refine ex_go 80 rfl ?_
    exact ex_iret rfl (⟨rfl, hS, rfl, fun _ _ => rfl⟩)
  · obtain ⟨y, hy, rfl⟩ := isM_of hk (by decide)
    rw [ix_nI (by omega), if_pos rfl]
    obtain ⟨hb1, hb2⟩ := hb y hy
    obtain ⟨s1, s2, s3⟩ := id hS
    refine ex_zneT rfl (by decide) ?_
    refine ex_go 80 rfl ?_
    refine ex_getf rfl hM rfl rfl ?_
    refine ex_go 80 rfl ?_
    refine ex_ia _ rfl s1 rfl (by first | exact trivial | assumption | (show _ < _; omega)) (by omega) (by omega) rfl ?_
    refine ex_go 80 rfl ?_
    cases hv : sv y
    · refine ex_ineF rfl (rfl) ?_
      refine ex_go 80 rfl ?_
      exact ex_iret rfl (⟨rfl, hS, rfl, fun _ _ => rfl⟩)
    · have el : szI true (sl y) = nI (sl y) := rfl
      rw [el, if_pos rfl]
      refine ex_ineT rfl (fun c => absurd ((szI_m4 (v := true) (s := sl y) (by omega)).mp c) (by decide)) ?_
      refine ex_go 80 rfl ?_
      try dsimp only
      try simp only [nI_inc, nI_1, nI_add, nI_mul2, tb_and, tb_or, tb_andn, nI_x5, nI_x2, nI_p0, nI_p2, nI_p3, nI_p4, nI_q45]
      refine ex_getf rfl hM rfl rfl ?_
      refine ex_go 80 rfl ?_
      refine ex_ia _ rfl s2 rfl (by first | exact trivial | assumption | (show _ < _; omega)) (by omega) (by omega) rfl ?_
      refine ex_go 80 rfl ?_
      try dsimp only
      try simp only [nI_inc, nI_1, nI_add, nI_mul2, tb_and, tb_or, tb_andn, nI_x5, nI_x2, nI_p0, nI_p2, nI_p3, nI_p4, nI_q45]
      refine ex_cs rfl rfl rfl (d' := 0) (by omega) (c_in0 (ss y) (by rw [Int32.toInt_toInt64, show (1 : Int32) = nI 1 from rfl, pk_sub_toInt (by omega) (by decide)]; rfl)) ?_
      cases hi : isM (ss y) i
      · refine ex_zneF rfl (by decide) ?_
        refine ex_go 80 rfl ?_
        exact ex_iret rfl (⟨rfl, hS, rfl, fun _ _ => rfl⟩)
      · obtain ⟨z, hz, rfl⟩ := isM_of hi (by omega)
        rw [ix_nI (by omega)]
        have tail : ∀ w : Int32, w = lw (sl y) v → ev_X scr d cd_X6_lay 53 [.ref 57, .int (nI y), .int (nI z), .int v] [.int w, .int (nI (40 * y + z)), .ref 69] h (fun r h' => r = some (.int 1) ∧ (if (true && (true && true)) = true then SHr h' sv sl ss (usc sc y (ulc (sc y) z (lw (sl y) v))) else SHr h' sv sl ss sc) ∧ h'.length = h.length ∧ ∀ j, (j < 67 ∨ 69 < j) → h'[j]? = h[j]?) := by
          intro w hw
          refine ex_is (40 * y + z) rfl s3 rfl (by omega) (by omega) (fun h1 hA1 hB1 => ?_)
          refine ex_go 80 rfl (ex_iret rfl ⟨rfl, ?_, hB1.1, fun j hj => hB1.2 j (by omega)⟩)
          refine ⟨s1.sb hB1 (by decide), s2.sb hB1 (by decide), hA1.congr (fun p hp _ => ⟨Or.inl trivial, ?_⟩)⟩
          unfold usc ulc
          by_cases c : p / 40 = y
          · rw [if_pos c]
            by_cases c2 : p = 40 * y + z
            · rw [if_pos c2, if_pos (by omega), hw]
            · rw [if_neg c2, if_neg (by omega), c]
          · rw [if_neg c, if_neg (by omega)]
        refine ex_zneT rfl (by decide) ?_
        refine ex_go 80 rfl ?_
        refine ex_getf rfl hM rfl rfl ?_
        refine ex_go 80 rfl ?_
        try dsimp only
        try simp only [nI_inc, nI_1, nI_add, nI_mul2, tb_and, tb_or, tb_andn, nI_x5, nI_x2, nI_p0, nI_p2, nI_p3, nI_p4, nI_q45]
        refine ex_getf rfl hM rfl rfl ?_
        refine ex_go 80 rfl ?_
        refine ex_ia _ rfl s1 rfl (by first | exact trivial | assumption | (show _ < _; omega)) (by omega) (by omega) rfl ?_
        rw [hv, el, show (40 : Int32) = nI 40 from rfl, nI_mul2, nI_add]
        refine ex_zne rfl (fun k1 => ?_) (fun k1 => ?_)
        · refine ex_go 80 rfl ?_
          refine ex_getf rfl hM rfl rfl ?_
          refine ex_go 80 rfl ?_
          refine ex_ia _ rfl s1 rfl (by first | exact trivial | assumption | (show _ < _; omega)) (by omega) (by omega) rfl ?_
          refine ex_go 80 rfl ?_
          rw [hv, el]
          refine ex_ine rfl (fun k2 => ?_) (fun k2 => ?_)
          · refine ex_go 1 rfl ?_
            exact tail v (by
              unfold lw
              rw [if_neg (fun c => k1 (by rw [c]; rfl)), if_neg (fun c => k2 (by rw [c]; rfl))])
          · refine ex_go 3 rfl ?_
            exact tail _ (by
              unfold lw
              have h1 : sl y = 1 := (nI_eq (b := 1) (by omega) (by decide)).mp k2
              rw [h1]
              rfl)
        · refine ex_go 3 rfl ?_
          exact tail _ (by
            unfold lw
            rw [if_pos ((nI_eq (b := 0) (by omega) (by decide)).mp k1)])
theorem k_count (hC : CO h x) (hx : x 0 = nI tl) (hT : TA h 1 n f) (hI : IMc h n kp fk) (hS : SHc h sv sl ss sc) (g : GD n f) {w : Int32} (hd : 2 ≤ d) : ev_X scr d cd_X5_count 0 [.ref 0, .int w] [] h (fun v h' => v = some (.int (a_count n f kp tl sv ss w)) ∧ h' = h) := by
  have hn := g.1
  have h8 : 2 ^ n ≤ 2 ^ 8 := Nat.pow_le_pow_right (by decide) hn
  unfold a_count
  cases hw : isM 7 w
  · refine ex_go 80 rfl ?_
    refine ex_tsw (t := 54) rfl (tsw_d (k := 6) hw rfl rfl) ?_
    refine ex_go 80 rfl ?_
    exact ex_iret rfl (⟨rfl, rfl⟩)
  · obtain ⟨j, hj, rfl⟩ := isM_of hw (by decide)
    rw [ix_nI (by omega), if_pos rfl]
    obtain ⟨i1, i2, i3⟩ := hI
    obtain ⟨s1, s2⟩ := id hS
    have so := (s2 0 (by decide)).1
    have hz := sz_sum g
    rcases (by omega : j = 0 ∨ j = 1 ∨ j = 2 ∨ j = 3 ∨ j = 4 ∨ j = 5 ∨ j = 6) with rfl | rfl | rfl | rfl | rfl | rfl | rfl
    · refine ex_go 80 rfl ?_
      refine ex_tsw (t := 2) rfl (by decide) ?_
      refine ex_go 80 rfl ?_
      refine ex_getf rfl hC rfl rfl ?_
      refine ex_getf rfl hT.1 rfl rfl ?_
      refine ex_go 80 rfl ?_
      refine ex_getf rfl hC rfl rfl ?_
      refine ex_go 80 rfl ?_
      refine ex_cv rfl rfl rfl rfl hT.1 rfl (d' := 0) (by omega) (c_menOfKind (k := 3) hT hn (by decide) (fun j hj => (g.2.1 j hj).1)) ?_
      refine ex_cs rfl rfl rfl (d' := 0) (by omega) (c_bitCount (bs_256 _ hn)) ?_
      have e : nI n - nI (pc8 (wan n f)) = nI (sm (sz n f) 4) := by
        rw [pk_sub (by omega)]
        congr 1
        omega
      refine ex_go 80 rfl ?_
      dsimp only
      rw [show bs (fun m => decide (f (5 * m) = 3)) n = wan n f from rfl, e]
      exact ex_iret rfl (⟨rfl, rfl⟩)
    · refine ex_go 80 rfl ?_
      refine ex_tsw (t := 12) rfl (by decide) ?_
      refine ex_go 80 rfl ?_
      refine ex_getf rfl hC rfl rfl ?_
      refine ex_cv rfl rfl rfl rfl hT.1 rfl (d' := 1) (by omega) (c_tensWithMen hT hn (Nat.le_refl _)) ?_
      exact ex_iret rfl (⟨rfl, rfl⟩)
    · refine ex_go 80 rfl ?_
      refine ex_tsw (t := 16) rfl (by decide) ?_
      refine ex_go 80 rfl ?_
      refine ex_getf rfl hC rfl rfl ?_
      refine ex_go 80 rfl ?_
      refine ex_getf rfl hC rfl rfl ?_
      refine ex_cv rfl rfl rfl rfl hT.1 rfl (d' := 0) (by omega) (c_allMen hT hn) ?_
      refine ex_cv rfl rfl rfl rfl hT.1 rfl (d' := 1) (by omega) (c_stockOf hT hn (by omega) (Nat.le_refl _)) ?_
      exact ex_iret rfl (⟨rfl, rfl⟩)
    · refine ex_go 80 rfl ?_
      refine ex_tsw (t := 23) rfl (by decide) ?_
      refine ex_go 80 rfl ?_
      refine ex_getf rfl hC rfl rfl ?_
      refine ex_getf rfl hT.1 rfl rfl ?_
      exact ex_iret rfl (⟨rfl, rfl⟩)
    · refine ex_go 80 rfl ?_
      refine ex_tsw (t := 27) rfl (by decide) ?_
      refine ex_go 80 rfl ?_
      refine ex_getf rfl hC rfl rfl ?_
      refine ex_go 80 rfl ?_
      refine ex_ba 0 rfl i2 (by decide) rfl (by first | exact trivial | assumption | (show _ < _; omega)) (by omega) (by omega) rfl ?_
      refine ex_zeqM 1 2 35 (v := nI (tb_b (kp 0))) rfl rfl rfl (by cases kp 0 <;> rfl) ?_
      refine ex_go 80 rfl ?_
      refine ex_getf rfl hC rfl rfl ?_
      refine ex_go 80 rfl ?_
      refine ex_ba 1 rfl i2 (by decide) rfl (by first | exact trivial | assumption | (show _ < _; omega)) (by omega) (by omega) rfl ?_
      refine ex_zeqM 1 2 43 (v := nI (tb_b (kp 1))) rfl rfl rfl (by cases kp 1 <;> rfl) ?_
      refine ex_go 80 rfl ?_
      try dsimp only
      try simp only [nI_inc, nI_1, nI_add, nI_mul2, tb_and, tb_or, tb_andn]
      exact ex_iret rfl (⟨rfl, rfl⟩)
    · refine ex_go 80 rfl ?_
      refine ex_tsw (t := 45) rfl (by decide) ?_
      refine ex_go 80 rfl ?_
      refine ex_getf rfl hC rfl rfl ?_
      rw [hx]
      exact ex_iret rfl (⟨rfl, rfl⟩)
    · refine ex_go 80 rfl ?_
      refine ex_tsw (t := 48) rfl (by decide) ?_
      refine ex_go 80 rfl ?_
      refine ex_getf rfl hC rfl rfl ?_
      refine ex_go 80 rfl ?_
      refine ex_aald 0 rfl s1 rfl rfl ((by decide)) (by omega) (shts_g (k := 0) (by decide)) ?_
      refine ex_getf rfl so rfl rfl ?_
      exact ex_iret rfl (⟨rfl, rfl⟩)
theorem r_count (hM : MO h n q) (hq : q 4 = nI tl) (hS : ST h f im) (hR : RS h) (hI : IMr h im kp fk) (hH : SHr h sv sl ss sc) (hb : ∀ k, k < 4 → sl k ≤ 2 ∧ ss k ≤ 40) (g : GD n f) {w : Int32} (hd : 2 ≤ d) : ev_X scr d cd_X6_count 0 [.ref 57, .int w, .float 0, .float 0, .float 0] [] h (RQ h f im (.int (a_count n f kp tl sv ss w))) := by
  have hn := g.1
  have h8 : 2 ^ n ≤ 2 ^ 8 := Nat.pow_le_pow_right (by decide) hn
  refine ex_go 80 rfl ?_
  refine ex_cvx rfl rfl rfl rfl hM rfl (d' := 0) (by omega) (c_starts hM hS hR.1) ?_
  rintro v1 h1 ⟨rfl, hA1, hB1⟩
  have hM1 := hB1.mo hM (by decide)
  have hS1 := hS.b9 hB1
  refine ex_go 80 rfl ?_
  refine ev_loop 4 (fun t => ev_X scr d cd_X6_count 8 [.ref 57, .int w, .int (nI (sm (sz n f) t)), .int (nI (sm (twg n f) t)), .int (nI t)] [] h1 _) (fun t ht K => ?_) ?_
  · have hbx := bs_256 (fun m => decide (f (5 * m + 3) = t)) hn
    rw [sm_s, sm_s] at K
    refine ex_nop rfl ?_
    refine ex_go 80 rfl ?_
    refine ex_igeF rfl (nI_ge ht (by decide)) ?_
    refine ex_go 80 rfl ?_
    refine ex_cv rfl rfl rfl rfl hM1 rfl (d' := 1) (by omega) (c_menOf hM1 hA1 hn ht (Nat.le_refl _)) ?_
    refine ex_cs rfl rfl rfl (d' := 0) (by omega) (c_bitsOf (by omega)) ?_
    refine ex_go 80 rfl ?_
    try dsimp only
    try simp only [nI_inc, nI_1, nI_add, nI_mul2, tb_and, tb_or, tb_andn, nI_x5, nI_x2, nI_p0, nI_p2, nI_p3, nI_p4, nI_q45]
    refine ex_cv rfl rfl rfl rfl hM1 rfl (d' := 1) (by omega) (c_menOf hM1 hA1 hn ht (Nat.le_refl _)) ?_
    have e : (if nI (bs (fun m => decide (f (5 * m + 3) = t)) n) = 0 then (0 : Int32) else 1) = nI (tb_b (decide (¬ bs (fun m => decide (f (5 * m + 3) = t)) n = 0))) := if01 (by rw [nI_z (by omega)]; exact ⟨fun a b => b a, Classical.not_not.mp⟩)
    refine ex_zeqM 1 2 27 (v := nI (tb_b (decide (¬ bs (fun m => decide (f (5 * m + 3) = t)) n = 0)))) rfl rfl rfl (e) ?_
    refine ex_cs rfl rfl rfl (d' := 0) (by omega) (c_flag) ?_
    refine ex_go 80 rfl ?_
    try dsimp only
    try simp only [nI_inc, nI_1, nI_add, nI_mul2, tb_and, tb_or, tb_andn, nI_x5, nI_x2, nI_p0, nI_p2, nI_p3, nI_p4, nI_q45]
    have e2 : tb_b (decide (¬ bs (fun m => decide (f (5 * m + 3) = t)) n = 0)) = twg n f t := by
      unfold twg tb_b
      by_cases c : bs (fun m => decide (f (5 * m + 3) = t)) n = 0 <;> simp [c]
    rw [e2]
    exact K
  · have fin : ∀ a, RQ h f im a (some a) h1 := fun a => rq_9 hS hR hB1 hA1
    unfold a_count
    refine ex_nop rfl ?_
    refine ex_go 80 rfl ?_
    refine ex_igeT rfl (nI_le (Nat.le_refl 4) (by decide)) ?_
    cases hw : isM 7 w
    · refine ex_go 80 rfl ?_
      refine ex_tsw (t := 80) rfl (tsw_d (k := 6) hw rfl rfl) ?_
      refine ex_go 80 rfl ?_
      exact ex_iret rfl (fin _)
    · obtain ⟨j, hj, rfl⟩ := isM_of hw (by decide)
      rw [ix_nI (by omega), if_pos rfl]
      have i2 := hI.1.kept (hB1.2 60 (by decide))
      have s1 := hH.1.sb hB1 (by decide)
      have s2 := hH.2.1.sb hB1 (by decide)
      have hb0 := hb 0 (by decide)
      rcases (by omega : j = 0 ∨ j = 1 ∨ j = 2 ∨ j = 3 ∨ j = 4 ∨ j = 5 ∨ j = 6) with rfl | rfl | rfl | rfl | rfl | rfl | rfl
      · refine ex_go 80 rfl ?_
        refine ex_tsw (t := 34) rfl (by decide) ?_
        refine ex_go 80 rfl ?_
        exact ex_iret rfl (fin _)
      · refine ex_go 80 rfl ?_
        refine ex_tsw (t := 36) rfl (by decide) ?_
        refine ex_go 80 rfl ?_
        exact ex_iret rfl (fin _)
      · refine ex_go 80 rfl ?_
        refine ex_tsw (t := 38) rfl (by decide) ?_
        refine ex_go 80 rfl ?_
        refine ex_getf rfl hM1 rfl rfl ?_
        refine ex_go 80 rfl ?_
        try dsimp only
        try simp only [nI_inc, nI_1, nI_add, nI_mul2, tb_and, tb_or, tb_andn, nI_x5, nI_x2, nI_p0, nI_p2, nI_p3, nI_p4, nI_q45]
        rw [tb_sh1 n (by omega), show (1 : Int32) = nI 1 from rfl, pk_sub Nat.one_le_two_pow]
        refine ex_cv rfl rfl rfl rfl hM1 rfl (d' := 1) (by omega) (c_allGoods hM1 hA1 hn (by omega) (Nat.le_refl _)) ?_
        exact ex_iret rfl (fin _)
      · refine ex_go 80 rfl ?_
        refine ex_tsw (t := 47) rfl (by decide) ?_
        refine ex_go 80 rfl ?_
        refine ex_getf rfl hM1 rfl rfl ?_
        refine ex_go 80 rfl ?_
        refine ex_ia 44 rfl hS1 rfl (by first | exact trivial | assumption | (show _ < _; omega)) (by omega) (by omega) rfl ?_
        simp (disch := omega) only [rs_lt, rv_0, rv_1, rv_2, rv_3, rv_4, rv_40, rv_41, rv_42, rv_43, rv_44]
        exact ex_iret rfl (fin _)
      · refine ex_go 80 rfl ?_
        refine ex_tsw (t := 52) rfl (by decide) ?_
        refine ex_go 80 rfl ?_
        refine ex_getf rfl hM1 rfl rfl ?_
        refine ex_go 80 rfl ?_
        refine ex_ba 0 rfl i2 (by decide) rfl (by first | exact trivial | assumption | (show _ < _; omega)) (by omega) (by omega) rfl ?_
        refine ex_cs rfl rfl rfl (d' := 0) (by omega) (c_flag) ?_
        refine ex_go 80 rfl ?_
        refine ex_getf rfl hM1 rfl rfl ?_
        refine ex_go 80 rfl ?_
        refine ex_ba 1 rfl i2 (by decide) rfl (by first | exact trivial | assumption | (show _ < _; omega)) (by omega) (by omega) rfl ?_
        refine ex_cs rfl rfl rfl (d' := 0) (by omega) (c_flag) ?_
        refine ex_go 80 rfl ?_
        try dsimp only
        try simp only [nI_inc, nI_1, nI_add, nI_mul2, tb_and, tb_or, tb_andn, nI_x5, nI_x2, nI_p0, nI_p2, nI_p3, nI_p4, nI_q45]
        exact ex_iret rfl (fin _)
      · refine ex_go 80 rfl ?_
        refine ex_tsw (t := 64) rfl (by decide) ?_
        refine ex_go 80 rfl ?_
        refine ex_getf rfl hM1 rfl rfl ?_
        rw [hq]
        exact ex_iret rfl (fin _)
      · refine ex_go 80 rfl ?_
        refine ex_tsw (t := 67) rfl (by decide) ?_
        refine ex_go 80 rfl ?_
        refine ex_getf rfl hM1 rfl rfl ?_
        refine ex_go 80 rfl ?_
        refine ex_ia 0 rfl s1 rfl (by first | exact trivial | assumption | (show _ < _; omega)) (by omega) (by omega) rfl ?_
        refine ex_go 80 rfl ?_
        cases hv : sv 0
        · refine ex_ineF rfl (rfl) ?_
          refine ex_go 80 rfl ?_
          exact ex_iret rfl (fin _)
        · refine ex_ineT rfl (fun c => absurd ((szI_m4 (v := true) (s := sl 0) (by omega)).mp c) (by decide)) ?_
          refine ex_go 80 rfl ?_
          refine ex_getf rfl hM1 rfl rfl ?_
          refine ex_go 80 rfl ?_
          refine ex_ia 0 rfl s2 rfl (by first | exact trivial | assumption | (show _ < _; omega)) (by omega) (by omega) rfl ?_
          exact ex_iret rfl (fin _)
end SHEETS
