/-! What is paid. -/
def wg (f g : Nat → Nat) : Nat → Nat := fun j => if j % 5 = 2 ∧ j < 40 then g (j / 5) else f j
theorem wg_ne {f g : Nat → Nat} {j : Nat} (h : ¬ (j % 5 = 2 ∧ j < 40)) : wg f g j = f j := if_neg h
theorem wg_gd {f g : Nat → Nat} {m : Nat} (hm : m < 8) : wg f g (5 * m + 2) = g m := by
  rw [wg, if_pos (by omega)]
  congr 1
  omega
theorem wg_self (f : Nat → Nat) : wg f (fun m => f (5 * m + 2)) = f := funext (fun j => by
  unfold wg
  by_cases c : j % 5 = 2 ∧ j < 40
  · rw [if_pos c]
    show f (5 * (j / 5) + 2) = f j
    congr 1
    omega
  · rw [if_neg c])
theorem wg_wg (f g g' : Nat → Nat) : wg (wg f g) g' = wg f g' := funext (fun j => by
  unfold wg
  by_cases c : j % 5 = 2 ∧ j < 40
  · rw [if_pos c, if_pos c]
  · rw [if_neg c, if_neg c, if_neg c])
theorem wg_up {f g : Nat → Nat} {m v : Nat} (hm : m < 8) : up (wg f g) (5 * m + 2) v = wg f (up g m v) := funext (fun j => by
  unfold wg up
  dsimp only
  by_cases c : j % 5 = 2 ∧ j < 40
  · rw [if_pos c, if_pos c]
    by_cases e : j = 5 * m + 2
    · rw [if_pos e, if_pos (by omega)]
    · rw [if_neg e, if_neg (by omega)]
  · rw [if_neg c, if_neg c, if_neg (by omega)])
theorem TA.g_stock {h h1 : ev_H} {a n : Nat} {f g : Nat → Nat} (hT : TA h a n f) (hA : IA h1 (a + 3) 8 (fun m => m < n) (fun m => nI (g m))) (hB : SB (a + 3) h h1) : TA h1 a n (wg f g) := by
  obtain ⟨hO, t1, t2, t3, t4, t5, t6, t7, t8⟩ := hT
  have e : ∀ j, 40 ≤ j → wg f g j = f j := fun j hj => wg_ne (by omega)
  unfold TA
  rw [e 40 (by decide), e 41 (by decide), e 42 (by decide), e 43 (by decide), e 44 (by decide)]
  exact ⟨(hB.2 a (by omega)).trans hO, (t1.sb hB (by omega)).congr (fun i hi hp => ⟨hp, by rw [wg_ne (by omega)]⟩), (t2.sb hB (by omega)).congr (fun i hi hp => ⟨hp, by rw [wg_ne (by omega)]⟩), hA.congr (fun i hi hp => ⟨hp, by rw [wg_gd hi]⟩), (t4.sb hB (by omega)).congr (fun i hi hp => ⟨hp, by rw [wg_ne (by omega)]⟩), (t5.sb hB (by omega)).congr (fun i hi hp => ⟨hp, by rw [wg_ne (by omega)]⟩), (t6.sb hB (by omega)).congr (fun i hi hp => ⟨hp, by rw [wg_ne (by omega)]⟩), (t7.sb hB (by omega)).congr (fun i hi hp => ⟨hp, by rw [wg_ne (by omega)]⟩), (t8.sb hB (by omega)).congr (fun i hi hp => ⟨hp, by rw [wg_ne (by omega)]⟩)⟩
/-- v is taken of the goods of m, as far as they go -/
def tk (g : Nat → Nat) (m v : Nat) : Nat → Nat := up g m (g m - min v (g m))
theorem tk_le (g : Nat → Nat) (m v j : Nat) : tk g m v j ≤ g j := by
  unfold tk up
  by_cases c : j = m
  · rw [if_pos c, c]; omega
  · rw [if_neg c]; exact Nat.le_refl _
theorem tk_0 (g : Nat → Nat) (m : Nat) : tk g m 0 = g := funext (fun j => by
  unfold tk up
  by_cases c : j = m
  · rw [if_pos c, c]; omega
  · rw [if_neg c])
theorem nI_minI {x y : Nat} (hx : x < 2 ^ 31) (hy : y < 2 ^ 31) : (if nI y < nI x then nI y else nI x) = nI (min x y) := by
  by_cases c : y < x
  · rw [if_pos ((nI_ltI hy hx).mpr c), Nat.min_eq_right (by omega)]
  · rw [if_neg (fun q => c ((nI_ltI hy hx).mp q)), Nat.min_eq_left (by omega)]
theorem un_le {a b : Nat} (ha : a < 2 ^ 30) (hb : b < 2 ^ 30) : nI a - nI b ≤ 0 ↔ ¬ b < a := by
  rw [Int32.le_iff_toInt_le, pk_sub_toInt ha hb]
  have : (0 : Int32).toInt = 0 := by decide
  rw [this]
  omega
theorem un_dec (a b : Nat) : ev_inc (-1) (nI a - nI b) = nI a - nI (b + 1) := by
  show nI a - nI b + (-1) = _
  rw [nI_succ, Int32.sub_eq_add_neg, Int32.sub_eq_add_neg, Int32.neg_add, Int32.add_assoc, Int32.sub_eq_add_neg (-nI b)]
/-- a share -/
def pfd (q r c : Nat) : Nat := q + (if c < r then 1 else 0)
/-- those of x pay shares: goods, sum, how many have paid -/
def pf (q r x : Nat) (g : Nat → Nat) : Nat → (Nat → Nat) × Nat × Nat
  | 0 => (g, 0, 0)
  | i + 1 => if x.testBit i = true then (tk (pf q r x g i).1 i (pfd q r (pf q r x g i).2.2), (pf q r x g i).2.1 + min (pfd q r (pf q r x g i).2.2) ((pf q r x g i).1 i), (pf q r x g i).2.2 + 1) else pf q r x g i
theorem pf_t {q r x : Nat} {g : Nat → Nat} {i : Nat} (h : x.testBit i = true) : pf q r x g (i + 1) = (tk (pf q r x g i).1 i (pfd q r (pf q r x g i).2.2), (pf q r x g i).2.1 + min (pfd q r (pf q r x g i).2.2) ((pf q r x g i).1 i), (pf q r x g i).2.2 + 1) := by rw [pf, if_pos h]
theorem pf_f {q r x : Nat} {g : Nat → Nat} {i : Nat} (h : x.testBit i = false) : pf q r x g (i + 1) = pf q r x g i := by rw [pf, if_neg (by rw [h]; decide)]
theorem pf_le (q r x : Nat) (g : Nat → Nat) : ∀ i j, (pf q r x g i).1 j ≤ g j
  | 0, j => Nat.le_refl _
  | i + 1, j => by
    cases c : x.testBit i
    · rw [pf_f c]; exact pf_le q r x g i j
    · rw [pf_t c]; exact Nat.le_trans (tk_le _ _ _ _) (pf_le q r x g i j)
theorem pf_c (q r x : Nat) (g : Nat → Nat) : ∀ i, (pf q r x g i).2.2 ≤ i
  | 0 => Nat.le_refl _
  | i + 1 => by
    have := pf_c q r x g i
    cases c : x.testBit i
    · rw [pf_f c]; omega
    · rw [pf_t c]; dsimp only; omega
/-- who pays for m -/
def pyr (n : Nat) (f : Nat → Nat) (m : Nat) : Nat := tb_wo (tb_wo (bs (fun j => decide (f (5 * j + 3) = f (5 * m + 3))) n) (f (5 * m + 4))) (2 ^ m)
/-- m does wrong -/
def pfm (n : Nat) (f g : Nat → Nat) (m : Nat) : (Nat → Nat) × Nat := if pc8 (pyr n f m) = 0 then (g, 0) else ((pf (f 41 / pc8 (pyr n f m)) (f 41 % pc8 (pyr n f m)) (pyr n f m) g n).1, (pf (f 41 / pc8 (pyr n f m)) (f 41 % pc8 (pyr n f m)) (pyr n f m) g n).2.1)
/-- those of w do wrong -/
def fi (n : Nat) (f : Nat → Nat) (w : Nat) (g : Nat → Nat) : Nat → (Nat → Nat) × Nat
  | 0 => (g, 0)
  | i + 1 => if w.testBit i = true ∧ f (5 * i + 3) < 4 then ((pfm n f (fi n f w g i).1 i).1, (fi n f w g i).2 + (pfm n f (fi n f w g i).1 i).2) else fi n f w g i
theorem pfm_le (n : Nat) (f g : Nat → Nat) (m j : Nat) : (pfm n f g m).1 j ≤ g j := by
  unfold pfm
  split
  · exact Nat.le_refl _
  · exact pf_le _ _ _ _ _ _
theorem fi_le (n : Nat) (f : Nat → Nat) (w : Nat) (g : Nat → Nat) : ∀ i j, (fi n f w g i).1 j ≤ g j
  | 0, j => Nat.le_refl _
  | i + 1, j => by
    rw [fi]
    split
    · exact Nat.le_trans (pfm_le _ _ _ _ _) (fi_le n f w g i j)
    · exact fi_le n f w g i j
/-- those of x pay what is left: goods, left, sum -/
def cs (x l : Nat) (g : Nat → Nat) : Nat → (Nat → Nat) × Nat × Nat
  | 0 => (g, l, 0)
  | i + 1 => if x.testBit i = true then (tk (cs x l g i).1 i (cs x l g i).2.1, (cs x l g i).2.1 - min (cs x l g i).2.1 ((cs x l g i).1 i), (cs x l g i).2.2 + min (cs x l g i).2.1 ((cs x l g i).1 i)) else cs x l g i
theorem cs_t {x l : Nat} {g : Nat → Nat} {i : Nat} (h : x.testBit i = true) : cs x l g (i + 1) = (tk (cs x l g i).1 i (cs x l g i).2.1, (cs x l g i).2.1 - min (cs x l g i).2.1 ((cs x l g i).1 i), (cs x l g i).2.2 + min (cs x l g i).2.1 ((cs x l g i).1 i)) := by rw [cs, if_pos h]
theorem cs_f {x l : Nat} {g : Nat → Nat} {i : Nat} (h : x.testBit i = false) : cs x l g (i + 1) = cs x l g i := by rw [cs, if_neg (by rw [h]; decide)]
theorem cs_le (x l : Nat) (g : Nat → Nat) : ∀ i j, (cs x l g i).1 j ≤ g j
  | 0, j => Nat.le_refl _
  | i + 1, j => by
    cases c : x.testBit i
    · rw [cs_f c]; exact cs_le x l g i j
    · rw [cs_t c]; exact Nat.le_trans (tk_le _ _ _ _) (cs_le x l g i j)
theorem cs_l (x l : Nat) (g : Nat → Nat) : ∀ i, (cs x l g i).2.1 ≤ l
  | 0 => Nat.le_refl _
  | i + 1 => by
    have := cs_l x l g i
    cases c : x.testBit i
    · rw [cs_f c]; omega
    · rw [cs_t c]; dsimp only; omega
/-- nothing is left: nothing changes -/
theorem cs_0 (x l : Nat) (g : Nat → Nat) {i : Nat} (h : (cs x l g i).2.1 = 0) : ∀ k, cs x l g (i + k) = cs x l g i
  | 0 => rfl
  | k + 1 => by
    have ih := cs_0 x l g h k
    rw [← Nat.add_assoc]
    cases c : x.testBit (i + k)
    · rw [cs_f c, ih]
    · rw [cs_t c, ih, h, tk_0]
      ext1
      · rfl
      · ext1
        · dsimp only; rw [h]; omega
        · dsimp only; omega
/-- the watch of a ten is paid -/
def cot (n : Nat) (f : Nat → Nat) (g : Nat → Nat) (t : Nat) : (Nat → Nat) × Nat × Nat := cs (bs (fun m => decide (f (5 * m + 3) = t)) n) (f 42 * wct n f t) g n
def co (n : Nat) (f g : Nat → Nat) : Nat → (Nat → Nat) × Nat
  | 0 => (g, 0)
  | t + 1 => ((cot n f (co n f g t).1 t).1, (co n f g t).2 + (cot n f (co n f g t).1 t).2.2)
theorem co_le (n : Nat) (f g : Nat → Nat) : ∀ t j, (co n f g t).1 j ≤ g j
  | 0, j => Nat.le_refl _
  | t + 1, j => Nat.le_trans (cs_le _ _ _ _ _) (co_le n f g t j)
/-- a year: goods, and what was paid -/
def yr (n : Nat) (f g : Nat → Nat) (w : Nat) : (Nat → Nat) × Nat := ((co n f (fi n f w g n).1 4).1, (fi n f w g n).2 + (co n f (fi n f w g n).1 4).2)
theorem yr_le (n : Nat) (f g : Nat → Nat) (w j : Nat) : (yr n f g w).1 j ≤ g j := Nat.le_trans (co_le n f (fi n f w g n).1 4 j) (fi_le _ _ _ _ _ _)
theorem tb_wo_le (x y : Nat) : tb_wo x y ≤ x := by
  apply Nat.le_of_testBit
  intro i hi
  rw [tb_wo_bit] at hi
  cases c : x.testBit i
  · simp [c] at hi
  · rfl
theorem pc8_le (x : Nat) : pc8 x ≤ 8 := by
  have := sm_le (g := fun i => tb_b (x.testBit i)) (c := 1) (n := 8) (fun i _ => tb_le _)
  unfold pc8
  omega
section PAY
variable {scr : List Int32} {d : Nat} {h : ev_H} {a n : Nat} {f g : Nat → Nat}
theorem c_takeFrom (hT : TA h a n (wg f g)) (hn : n ≤ 8) {m v : Nat} (hm : m < n) (hv : v < 2 ^ 31) (hg : g m < 2 ^ 31) (hd : 1 ≤ d) : ev_X scr d cd_X4_takeFrom 0 [.ref a, .int (nI m), .int (nI v), .float 0] [] h (fun r h' => r = some (.int (nI (min v (g m)))) ∧ TA h' a n (wg f (tk g m v)) ∧ FR a (a + 8) h h') := by
  have e := wg_gd (f := f) (g := g) (m := m) (by omega)
  refine ex_go 80 rfl ?_
  refine ex_getf rfl hT.1 rfl rfl ?_
  refine ex_go 80 rfl ?_
  refine ex_ia _ rfl hT.2.2.2.1 rfl (by first | exact trivial | assumption | (show _ < _; omega)) (by omega) (by omega) rfl ?_
  refine ex_cs rfl rfl rfl (d' := 0) (by omega) (c_min) ?_
  rw [e, nI_minI hv hg]
  refine ex_go 80 rfl ?_
  refine ex_getf rfl hT.1 rfl rfl ?_
  refine ex_go 80 rfl ?_
  refine ex_ia _ rfl hT.2.2.2.1 rfl (by first | exact trivial | assumption | (show _ < _; omega)) (by omega) (by omega) rfl ?_
  refine ex_go 80 rfl ?_
  try dsimp only
  try simp only [nI_inc, nI_1, nI_add, nI_mul2, tb_and, tb_or, tb_andn]
  refine ex_is _ rfl hT.2.2.2.1 rfl (by omega) (by omega) (fun h1 hA1 hB1 => ?_)
  have hT1 := hT.u_stock (v := g m - min v (g m)) hA1 hB1 (by omega) (by rw [e, pk_sub (Nat.min_le_right _ _)])
  rw [wg_up (by omega)] at hT1
  refine ex_go 80 rfl ?_
  exact ex_iret rfl (⟨rfl, hT1, hB1.fr (by omega) (by omega)⟩)
theorem c_payFor {Q : Option Value → ev_H → Prop} (hT : TA h a n (wg f g)) (hn : n ≤ 8) {m : Nat} (hm : m < n) (ht : f (5 * m + 3) < 4) (hg : ∀ j, j < n → g j < 2 ^ 31) (hf : f 41 ≤ 99) (hQ : Q = fun v h' => v = some (.int (nI (pfm n f g m).2)) ∧ TA h' a n (wg f (pfm n f g m).1) ∧ FR a (a + 8) h h') (hd : 2 ≤ d) : ev_X scr d cd_X4_payFor 0 [.ref a, .int (nI m), .float 0, .float 0, .float 0, .float 0, .float 0] [] h Q := by
  have e3 : ∀ j, wg f g (5 * j + 3) = f (5 * j + 3) := fun j => wg_ne (by omega)
  have e4 : wg f g (5 * m + 4) = f (5 * m + 4) := wg_ne (by omega)
  have e41 : wg f g 41 = f 41 := wg_ne (by decide)
  refine ex_go 80 rfl ?_
  refine ex_getf rfl hT.1 rfl rfl ?_
  refine ex_go 80 rfl ?_
  refine ex_ia _ rfl hT.2.2.2.2.1 rfl (by first | exact trivial | assumption | (show _ < _; omega)) (by omega) (by omega) rfl ?_
  rw [e3 m, tv_lt ht]
  refine ex_cv rfl rfl rfl rfl hT.1 rfl (d' := 0) (by omega) (c_menOfTen hT hn ht) ?_
  simp only [e3]
  refine ex_go 80 rfl ?_
  refine ex_getf rfl hT.1 rfl rfl ?_
  refine ex_go 80 rfl ?_
  refine ex_ia _ rfl hT.2.2.2.2.2.1 rfl (by first | exact trivial | assumption | (show _ < _; omega)) (by omega) (by omega) rfl ?_
  refine ex_go 80 rfl ?_
  try dsimp only
  try simp only [nI_inc, nI_1, nI_add, nI_mul2, tb_and, tb_or, tb_andn]
  rw [e4]
  refine ex_cs rfl rfl rfl (d' := 0) (by omega) (c_withBit false (by omega)) ?_
  have hx : pyr n f m < 256 := by
    unfold pyr
    refine Nat.lt_of_le_of_lt ?_ (bs_256 (fun j => decide (f (5 * j + 3) = f (5 * m + 3))) hn)
    refine Nat.le_trans (m := tb_wo (bs (fun j => decide (f (5 * j + 3) = f (5 * m + 3))) n) (f (5 * m + 4))) ?_ ?_ <;> exact tb_wo_le _ _
  show ev_X scr d _ _ _ [.int (nI (pyr n f m))] _ _
  refine ex_go 80 rfl ?_
  refine ex_cs rfl rfl rfl (d' := 0) (by omega) (c_bitCount hx) ?_
  have hp8 := pc8_le (pyr n f m)
  unfold pfm at hQ
  refine ex_go 80 rfl ?_
  refine ex_zne rfl (fun hc => ?_) (fun hc => ?_)
  · have h0 : ¬ pc8 (pyr n f m) = 0 := fun q => hc (by rw [q]; rfl)
    have h0I := hc
    rw [if_neg h0] at hQ
    refine ex_go 80 rfl ?_
    refine ex_getf rfl hT.1 rfl rfl ?_
    refine ex_go 80 rfl ?_
    rw [e41]
    refine ex_irem (v := nI (f 41 % pc8 (pyr n f m))) rfl (hc) (pk_rem (by omega) (by omega) (by omega)) ?_
    refine ex_go 80 rfl ?_
    have hr : f 41 % pc8 (pyr n f m) < 2 ^ 30 := Nat.lt_of_le_of_lt (Nat.mod_le _ _) (by omega)
    have hq : f 41 / pc8 (pyr n f m) ≤ 99 := Nat.le_trans (Nat.div_le_self _ _) hf
    have hdv : nI (f 41) / nI (pc8 (pyr n f m)) = nI (f 41 / pc8 (pyr n f m)) := pk_div (by omega) (by omega) (by omega)
    generalize f 41 / pc8 (pyr n f m) = q at *
    generalize f 41 % pc8 (pyr n f m) = r at *
    rw [show nI r = nI r - nI 0 by rw [pk_sub (Nat.zero_le _)]; rfl]
    refine ev_loop n (fun i => ∀ h1, TA h1 a n (wg f (pf q r (pyr n f m) g i).1) → FR a (a + 8) h h1 → ev_X scr d cd_X4_payFor 33 [.ref a, .int (nI m), .int (nI (pyr n f m)), .int (nI (pc8 (pyr n f m))), .int (nI r - nI (pf q r (pyr n f m) g i).2.2), .int (nI (pf q r (pyr n f m) g i).2.1), .int (nI i)] [] h1 Q) (fun i hi K h1 hT1 hF1 => ?_) (fun h1 hT1 hF1 => ?_) h hT FR.rf
    · skip
      refine ex_nop rfl ?_
      refine ex_go 80 rfl ?_
      refine ex_getf rfl hT1.1 rfl rfl ?_
      refine ex_igeF rfl (nI_ge hi (by first | omega | decide)) ?_
      refine ex_go 80 rfl ?_
      refine ex_cs rfl rfl rfl (d' := 0) (by omega) (c_bitOf (by omega) (by omega)) ?_
      have e41' : wg f (pf q r (pyr n f m) g i).1 41 = f 41 := wg_ne (by decide)
      have hci := pf_c q r (pyr n f m) g i
      have hgi : (pf q r (pyr n f m) g i).1 i < 2 ^ 31 := Nat.lt_of_le_of_lt (pf_le _ _ _ _ _ _) (hg i hi)
      refine ex_zeq rfl (fun hc => ?_) (fun hc => ?_)
      · rw [tb_b0] at hc
        rw [pf_f hc] at K
        refine ex_go 80 rfl ?_
        try dsimp only
        try simp only [nI_inc, nI_1, nI_add, nI_mul2, tb_and, tb_or, tb_andn]
        exact K h1 hT1 hF1
      · have hb : (pyr n f m).testBit i = true := by simpa [tb_b0] using hc
        rw [pf_t hb] at K
        have tail : ∀ x : Int32, x = nI (pfd q r (pf q r (pyr n f m) g i).2.2) → ev_X scr d cd_X4_payFor 55 [.ref a, .int (nI m), .int (nI (pyr n f m)), .int (nI (pc8 (pyr n f m))), .int (nI r - nI (pf q r (pyr n f m) g i).2.2), .int (nI (pf q r (pyr n f m) g i).2.1), .int (nI i)] [.int x, .int (nI i), .ref a, .int (nI (pf q r (pyr n f m) g i).2.1)] h1 Q := by
          intro x hx
          subst hx
          have hpd : pfd q r (pf q r (pyr n f m) g i).2.2 < 2 ^ 31 := by unfold pfd; split <;> omega
          refine ex_cvx rfl rfl rfl rfl hT1.1 rfl (d' := 1) (by omega) (c_takeFrom hT1 hn hi hpd hgi (Nat.le_refl _)) ?_
          rintro v2 h2 ⟨rfl, hT2, hF2⟩
          refine ex_go 80 rfl ?_
          dsimp only
          rw [nI_add, nI_inc, un_dec]
          exact K h2 hT2 (hF1.tr hF2)
        refine ex_go 80 rfl ?_
        refine ex_getf rfl hT1.1 rfl rfl ?_
        refine ex_go 80 rfl ?_
        rw [e41']
        refine ex_idiv (v := nI q) rfl (h0I) (hdv) ?_
        refine ex_go 80 rfl ?_
        refine ex_zle rfl (fun hc => ?_) (fun hc => ?_)
        · rw [un_le hr (by omega)] at hc
          refine ex_go 80 rfl ?_
          try dsimp only
          try simp only [nI_inc, nI_1, nI_add, nI_mul2, tb_and, tb_or, tb_andn]
          exact tail _ (by rw [pfd, if_neg hc]; exact nI_add q 0)
        · rw [un_le hr (by omega)] at hc
          refine ex_go 80 rfl ?_
          try dsimp only
          try simp only [nI_inc, nI_1, nI_add, nI_mul2, tb_and, tb_or, tb_andn]
          exact tail _ (by rw [pfd, if_pos (Classical.not_not.mp hc)])
    · skip
      refine ex_nop rfl ?_
      refine ex_go 80 rfl ?_
      refine ex_getf rfl hT1.1 rfl rfl ?_
      refine ex_igeT rfl (nI_le (Nat.le_refl _) (by first | omega | decide)) ?_
      refine ex_go 80 rfl ?_
      exact ex_iret rfl (by rw [hQ]; exact ⟨rfl, hT1, hF1⟩)
  · have h0 : pc8 (pyr n f m) = 0 := (nI_eq (b := 0) (by omega) (by decide)).mp hc
    rw [if_pos h0] at hQ
    refine ex_go 80 rfl ?_
    exact ex_iret rfl (by rw [hQ]; exact ⟨rfl, hT, FR.rf⟩)
end PAY
