/-! text: the model's words and states. -/
def ozB (c : Nat) (b : Bool) : Bool := if c = 0 then true else b
def isB (tp : Nat → Nat) (tl s e nn a b c x : Nat) : Bool := decide (e - s = nn) && (decide (bA tp tl s = nI a) && (decide (bA tp tl (s + 1) = nI b) && (decide (bA tp tl (s + 2) = nI c) && ozB x (decide (bA tp tl (s + 3) = nI x)))))
def enB (tp : Nat → Nat) (tl s a b c : Nat) : Bool := decide (bA tp tl (s + 4) = nI a) && (ozB b (decide (bA tp tl (s + 5) = nI b)) && ozB c (decide (bA tp tl (s + 6) = nI c)))
def lIw (x : Nat) : Int32 := if x = 8 then -4 else nI x
section MWORD
variable {scr : List Int32} {d : Nat} {h : ev_H} {n : Nat} {q : Nat → Int32} {tp : Nat → Nat} {tl p : Nat}
theorem bA_d {j c : Nat} (hb : ∀ i, i < tl → tp i < 128) (hj : j < tl) (hc : c < 1000) : decide (bA tp tl j = nI c) = decide (tp j = c) := by
  have := hb j hj
  unfold bA
  rw [if_pos hj]
  exact decide_eq_decide.mpr (nI_eq (by omega) (by omega))
theorem wh_4 {s e w a b c x : Nat} (hb : ∀ i, i < tl → tp i < 128) (hse : s ≤ e) (he : e ≤ tl) (hw : wl w = [a, b, c, x]) (ha : a < 1000 ∧ b < 1000 ∧ c < 1000 ∧ x < 1000 ∧ x ≠ 0) : whA tp s e w = isB tp tl s e 4 a b c x := by
  unfold whA isB
  rw [hw]
  by_cases c4 : e - s = 4
  · rw [decide_eq_true (show [a, b, c, x].length = e - s from c4.symm), decide_eq_true c4, bA_d hb (by omega) ha.1, bA_d hb (by omega) ha.2.1, bA_d hb (by omega) ha.2.2.1, bA_d hb (by omega) ha.2.2.2.1, show ozB x (decide (tp (s + 3) = x)) = decide (tp (s + 3) = x) from if_neg ha.2.2.2.2]
    show (true && (decide (tp s = a) && (decide (tp (s + 1) = b) && (decide (tp (s + 2) = c) && (decide (tp (s + 3) = x) && true))))) = _
    rw [Bool.and_true]
  · rw [decide_eq_false (show ¬ [a, b, c, x].length = e - s from fun z => c4 z.symm), decide_eq_false c4, Bool.false_and, Bool.false_and]
theorem wh_3 {s e w a b c : Nat} (hb : ∀ i, i < tl → tp i < 128) (hse : s ≤ e) (he : e ≤ tl) (hw : wl w = [a, b, c]) (ha : a < 1000 ∧ b < 1000 ∧ c < 1000) : whA tp s e w = isB tp tl s e 3 a b c 0 := by
  unfold whA isB
  rw [hw]
  by_cases c4 : e - s = 3
  · rw [decide_eq_true (show [a, b, c].length = e - s from c4.symm), decide_eq_true c4, bA_d hb (by omega) ha.1, bA_d hb (by omega) ha.2.1, bA_d hb (by omega) ha.2.2]
    show (true && (decide (tp s = a) && (decide (tp (s + 1) = b) && (decide (tp (s + 2) = c) && true)))) = _
    rfl
  · rw [decide_eq_false (show ¬ [a, b, c].length = e - s from fun z => c4 z.symm), decide_eq_false c4, Bool.false_and, Bool.false_and]
theorem wh_5 {s e w a b c x k : Nat} (hb : ∀ i, i < tl → tp i < 128) (hse : s ≤ e) (he : e ≤ tl) (hw : wl w = [a, b, c, x, k]) (ha : a < 1000 ∧ b < 1000 ∧ c < 1000 ∧ x < 1000 ∧ x ≠ 0) (hk : k < 1000) : whA tp s e w = (isB tp tl s e 5 a b c x && enB tp tl s k 0 0) := by
  unfold whA isB enB
  rw [hw]
  by_cases c4 : e - s = 5
  · rw [decide_eq_true (show [a, b, c, x, k].length = e - s from c4.symm), decide_eq_true c4, bA_d hb (by omega) ha.1, bA_d hb (by omega) ha.2.1, bA_d hb (by omega) ha.2.2.1, bA_d hb (by omega) ha.2.2.2.1, bA_d hb (by omega) hk, show ozB x (decide (tp (s + 3) = x)) = decide (tp (s + 3) = x) from if_neg ha.2.2.2.2]
    show (true && (decide (tp s = a) && (decide (tp (s + 1) = b) && (decide (tp (s + 2) = c) && (decide (tp (s + 3) = x) && (decide (tp (s + 4) = k) && true)))))) = ((true && (decide (tp s = a) && (decide (tp (s + 1) = b) && (decide (tp (s + 2) = c) && decide (tp (s + 3) = x))))) && (decide (tp (s + 4) = k) && (true && true)))
    simp only [Bool.and_true, Bool.true_and, Bool.and_assoc]
  · rw [decide_eq_false (show ¬ [a, b, c, x, k].length = e - s from fun z => c4 z.symm), decide_eq_false c4, Bool.false_and, Bool.false_and, Bool.false_and]
theorem wh_6 {s e w a b c x k l : Nat} (hb : ∀ i, i < tl → tp i < 128) (hse : s ≤ e) (he : e ≤ tl) (hw : wl w = [a, b, c, x, k, l]) (ha : a < 1000 ∧ b < 1000 ∧ c < 1000 ∧ x < 1000 ∧ x ≠ 0) (hk : k < 1000 ∧ l < 1000 ∧ l ≠ 0) : whA tp s e w = (isB tp tl s e 6 a b c x && enB tp tl s k l 0) := by
  unfold whA isB enB
  rw [hw]
  by_cases c4 : e - s = 6
  · rw [decide_eq_true (show [a, b, c, x, k, l].length = e - s from c4.symm), decide_eq_true c4, bA_d hb (by omega) ha.1, bA_d hb (by omega) ha.2.1, bA_d hb (by omega) ha.2.2.1, bA_d hb (by omega) ha.2.2.2.1, bA_d hb (by omega) hk.1, bA_d hb (by omega) hk.2.1, show ozB x (decide (tp (s + 3) = x)) = decide (tp (s + 3) = x) from if_neg ha.2.2.2.2, show ozB l (decide (tp (s + 5) = l)) = decide (tp (s + 5) = l) from if_neg hk.2.2]
    show (true && (decide (tp s = a) && (decide (tp (s + 1) = b) && (decide (tp (s + 2) = c) && (decide (tp (s + 3) = x) && (decide (tp (s + 4) = k) && (decide (tp (s + 5) = l) && true))))))) = ((true && (decide (tp s = a) && (decide (tp (s + 1) = b) && (decide (tp (s + 2) = c) && decide (tp (s + 3) = x))))) && (decide (tp (s + 4) = k) && (decide (tp (s + 5) = l) && true)))
    simp only [Bool.and_true, Bool.true_and, Bool.and_assoc]
  · rw [decide_eq_false (show ¬ [a, b, c, x, k, l].length = e - s from fun z => c4 z.symm), decide_eq_false c4, Bool.false_and, Bool.false_and, Bool.false_and]
theorem wh_7 {s e w a b c x k l m : Nat} (hb : ∀ i, i < tl → tp i < 128) (hse : s ≤ e) (he : e ≤ tl) (hw : wl w = [a, b, c, x, k, l, m]) (ha : a < 1000 ∧ b < 1000 ∧ c < 1000 ∧ x < 1000 ∧ x ≠ 0) (hk : k < 1000 ∧ l < 1000 ∧ l ≠ 0 ∧ m < 1000 ∧ m ≠ 0) : whA tp s e w = (isB tp tl s e 7 a b c x && enB tp tl s k l m) := by
  unfold whA isB enB
  rw [hw]
  by_cases c4 : e - s = 7
  · rw [decide_eq_true (show [a, b, c, x, k, l, m].length = e - s from c4.symm), decide_eq_true c4, bA_d hb (by omega) ha.1, bA_d hb (by omega) ha.2.1, bA_d hb (by omega) ha.2.2.1, bA_d hb (by omega) ha.2.2.2.1, bA_d hb (by omega) hk.1, bA_d hb (by omega) hk.2.1, bA_d hb (by omega) hk.2.2.2.1, show ozB x (decide (tp (s + 3) = x)) = decide (tp (s + 3) = x) from if_neg ha.2.2.2.2, show ozB l (decide (tp (s + 5) = l)) = decide (tp (s + 5) = l) from if_neg hk.2.2.1, show ozB m (decide (tp (s + 6) = m)) = decide (tp (s + 6) = m) from if_neg hk.2.2.2.2]
    show (true && (decide (tp s = a) && (decide (tp (s + 1) = b) && (decide (tp (s + 2) = c) && (decide (tp (s + 3) = x) && (decide (tp (s + 4) = k) && (decide (tp (s + 5) = l) && (decide (tp (s + 6) = m) && true)))))))) = ((true && (decide (tp s = a) && (decide (tp (s + 1) = b) && (decide (tp (s + 2) = c) && decide (tp (s + 3) = x))))) && (decide (tp (s + 4) = k) && (decide (tp (s + 5) = l) && decide (tp (s + 6) = m))))
    simp only [Bool.and_true, Bool.true_and, Bool.and_assoc]
  · rw [decide_eq_false (show ¬ [a, b, c, x, k, l, m].length = e - s from fun z => c4 z.symm), decide_eq_false c4, Bool.false_and, Bool.false_and, Bool.false_and]
theorem c_is {s e nn a b c x : Nat} (hM : MO h n q) (hTp : IA h 64 160 (fun i => i < tl) (fun i => nI (tp i))) (hq : q 4 = nI tl) (ht : tl ≤ 160) (h5 : q 5 = nI e) (h6 : q 6 = nI s) (hse : s ≤ e) (he : e ≤ tl) (hnn : nn < 1000) (hx : x < 1000) (hd : 1 ≤ d) : ev_V scr d cd_X6_is 0 [.ref 57, .int (nI nn), .int (nI a), .int (nI b), .int (nI c), .int (nI x)] [] h (some (.int (nI (tb_b (isB tp tl s e nn a b c x)))), h) := by
  unfold isB
  refine ev_go 80 rfl ?_
  refine ev_getf rfl hM rfl rfl ?_
  refine ev_go 80 rfl ?_
  refine ev_getf rfl hM rfl rfl ?_
  refine ev_go 80 rfl ?_
  try dsimp only
  try simp only [nI_inc, nI_1, nI_add, nI_mul2, tb_and, tb_or, tb_andn, nI_x5, nI_x2, nI_p0, nI_p2, nI_p3, nI_p4, nI_q45]
  rw [h5, h6, pk_sub hse]
  by_cases c0 : e - s = nn
  · rw [decide_eq_true c0, Bool.true_and]
    refine ev_ineF rfl (by rw [c0]) ?_
    refine ev_go 80 rfl ?_
    refine ev_getf rfl hM rfl rfl ?_
    rw [h6]
    refine ev_cv rfl rfl rfl rfl hM rfl (d' := 0) (by omega) (c_byteAt hM hTp hq ht (by omega)) ?_
    by_cases c1 : bA tp tl s = nI a
    · rw [decide_eq_true c1, Bool.true_and]
      refine ev_go 80 rfl ?_
      refine ev_ineF rfl (c1) ?_
      refine ev_go 80 rfl ?_
      refine ev_getf rfl hM rfl rfl ?_
      refine ev_go 80 rfl ?_
      try dsimp only
      try simp only [nI_inc, nI_1, nI_add, nI_mul2, tb_and, tb_or, tb_andn, nI_x5, nI_x2, nI_p0, nI_p2, nI_p3, nI_p4, nI_q45]
      rw [h6, nI_1]
      refine ev_cv rfl rfl rfl rfl hM rfl (d' := 0) (by omega) (c_byteAt hM hTp hq ht (by omega)) ?_
      by_cases c2 : bA tp tl (s + 1) = nI b
      · rw [decide_eq_true c2, Bool.true_and]
        refine ev_go 80 rfl ?_
        refine ev_ineF rfl (c2) ?_
        refine ev_go 80 rfl ?_
        refine ev_getf rfl hM rfl rfl ?_
        refine ev_go 80 rfl ?_
        try dsimp only
        try simp only [nI_inc, nI_1, nI_add, nI_mul2, tb_and, tb_or, tb_andn, nI_x5, nI_x2, nI_p0, nI_p2, nI_p3, nI_p4, nI_q45]
        rw [h6, nI_p2]
        refine ev_cv rfl rfl rfl rfl hM rfl (d' := 0) (by omega) (c_byteAt hM hTp hq ht (by omega)) ?_
        by_cases c3 : bA tp tl (s + 2) = nI c
        · rw [decide_eq_true c3, Bool.true_and]
          refine ev_go 80 rfl ?_
          refine ev_ineF rfl (c3) ?_
          unfold ozB
          by_cases cx : x = 0
          · rw [if_pos cx]
            refine ev_go 80 rfl ?_
            refine ev_zeqT rfl (by rw [cx]; rfl) ?_
            refine ev_go 80 rfl ?_
            exact ev_tret rfl rfl
          · rw [if_neg cx]
            refine ev_go 80 rfl ?_
            refine ev_zeqF rfl (fun z => cx ((nI_z (by omega)).mp z)) ?_
            refine ev_go 80 rfl ?_
            refine ev_getf rfl hM rfl rfl ?_
            refine ev_go 80 rfl ?_
            try dsimp only
            try simp only [nI_inc, nI_1, nI_add, nI_mul2, tb_and, tb_or, tb_andn, nI_x5, nI_x2, nI_p0, nI_p2, nI_p3, nI_p4, nI_q45]
            rw [h6, nI_p3]
            refine ev_cv rfl rfl rfl rfl hM rfl (d' := 0) (by omega) (c_byteAt hM hTp hq ht (by omega)) ?_
            by_cases c4 : bA tp tl (s + 3) = nI x
            · rw [decide_eq_true c4]
              refine ev_go 80 rfl ?_
              refine ev_ineF rfl (c4) ?_
              refine ev_go 80 rfl ?_
              exact ev_tret rfl rfl
            · rw [decide_eq_false c4]
              refine ev_go 80 rfl ?_
              refine ev_ineT rfl (c4) ?_
              refine ev_go 80 rfl ?_
              exact ev_tret rfl rfl
        · rw [decide_eq_false c3, Bool.false_and]
          refine ev_go 80 rfl ?_
          refine ev_ineT rfl (c3) ?_
          refine ev_go 80 rfl ?_
          exact ev_tret rfl rfl
      · rw [decide_eq_false c2, Bool.false_and]
        refine ev_go 80 rfl ?_
        refine ev_ineT rfl (c2) ?_
        refine ev_go 80 rfl ?_
        exact ev_tret rfl rfl
    · rw [decide_eq_false c1, Bool.false_and]
      refine ev_go 80 rfl ?_
      refine ev_ineT rfl (c1) ?_
      refine ev_go 80 rfl ?_
      exact ev_tret rfl rfl
  · rw [decide_eq_false c0, Bool.false_and]
    refine ev_ineT rfl (fun z => c0 ((nI_eq (by omega) (by omega)).mp z)) ?_
    refine ev_go 80 rfl ?_
    exact ev_tret rfl rfl
theorem c_ends {s a b c : Nat} (hM : MO h n q) (hTp : IA h 64 160 (fun i => i < tl) (fun i => nI (tp i))) (hq : q 4 = nI tl) (ht : tl ≤ 160) (h6 : q 6 = nI s) (hs : s ≤ tl) (hx : b < 1000 ∧ c < 1000) (hd : 1 ≤ d) : ev_V scr d cd_X6_ends 0 [.ref 57, .int (nI a), .int (nI b), .int (nI c)] [] h (some (.int (nI (tb_b (enB tp tl s a b c)))), h) := by
  unfold enB ozB
  refine ev_go 80 rfl ?_
  refine ev_getf rfl hM rfl rfl ?_
  refine ev_go 80 rfl ?_
  try dsimp only
  try simp only [nI_inc, nI_1, nI_add, nI_mul2, tb_and, tb_or, tb_andn, nI_x5, nI_x2, nI_p0, nI_p2, nI_p3, nI_p4, nI_q45]
  rw [h6, nI_p4]
  refine ev_cv rfl rfl rfl rfl hM rfl (d' := 0) (by omega) (c_byteAt hM hTp hq ht (by omega)) ?_
  by_cases c0 : bA tp tl (s + 4) = nI a
  · rw [decide_eq_true c0, Bool.true_and]
    have M : ev_V scr d cd_X6_ends 18 [.ref 57, .int (nI a), .int (nI b), .int (nI c)] [] h (some (.int (nI (tb_b (if c = 0 then true else decide (bA tp tl (s + 6) = nI c))))), h) := by
      by_cases cx : c = 0
      · rw [if_pos cx]
        refine ev_go 80 rfl ?_
        refine ev_zeqT rfl (by rw [cx]; rfl) ?_
        refine ev_go 80 rfl ?_
        exact ev_tret rfl rfl
      · rw [if_neg cx]
        refine ev_go 80 rfl ?_
        refine ev_zeqF rfl (fun z => cx ((nI_z (by omega)).mp z)) ?_
        refine ev_go 80 rfl ?_
        refine ev_getf rfl hM rfl rfl ?_
        refine ev_go 80 rfl ?_
        try dsimp only
        try simp only [nI_inc, nI_1, nI_add, nI_mul2, tb_and, tb_or, tb_andn, nI_x5, nI_x2, nI_p0, nI_p2, nI_p3, nI_p4, nI_q45]
        rw [h6, show nI s + 6 = nI (s + 6) from nI_add s 6]
        refine ev_cv rfl rfl rfl rfl hM rfl (d' := 0) (by omega) (c_byteAt hM hTp hq ht (by omega)) ?_
        by_cases c4 : bA tp tl (s + 6) = nI c
        · rw [decide_eq_true c4]
          refine ev_go 80 rfl ?_
          refine ev_ineF rfl (c4) ?_
          refine ev_go 80 rfl ?_
          exact ev_tret rfl rfl
        · rw [decide_eq_false c4]
          refine ev_go 80 rfl ?_
          refine ev_ineT rfl (c4) ?_
          refine ev_go 80 rfl ?_
          exact ev_tret rfl rfl
    refine ev_go 80 rfl ?_
    refine ev_ineF rfl (c0) ?_
    by_cases cx : b = 0
    · rw [if_pos cx, Bool.true_and]
      refine ev_go 80 rfl ?_
      refine ev_zeqT rfl (by rw [cx]; rfl) ?_
      exact M
    · rw [if_neg cx]
      refine ev_go 80 rfl ?_
      refine ev_zeqF rfl (fun z => cx ((nI_z (by omega)).mp z)) ?_
      refine ev_go 80 rfl ?_
      refine ev_getf rfl hM rfl rfl ?_
      refine ev_go 80 rfl ?_
      try dsimp only
      try simp only [nI_inc, nI_1, nI_add, nI_mul2, tb_and, tb_or, tb_andn, nI_x5, nI_x2, nI_p0, nI_p2, nI_p3, nI_p4, nI_q45]
      rw [h6, show nI s + 5 = nI (s + 5) from nI_add s 5]
      refine ev_cv rfl rfl rfl rfl hM rfl (d' := 0) (by omega) (c_byteAt hM hTp hq ht (by omega)) ?_
      by_cases c4 : bA tp tl (s + 5) = nI b
      · rw [decide_eq_true c4, Bool.true_and]
        refine ev_go 80 rfl ?_
        refine ev_ineF rfl (c4) ?_
        exact M
      · rw [decide_eq_false c4, Bool.false_and]
        refine ev_go 80 rfl ?_
        refine ev_ineT rfl (c4) ?_
        refine ev_go 80 rfl ?_
        exact ev_tret rfl rfl
  · rw [decide_eq_false c0, Bool.false_and]
    refine ev_go 80 rfl ?_
    refine ev_ineT rfl (c0) ?_
    refine ev_go 80 rfl ?_
    exact ev_tret rfl rfl
theorem c_lineNow {s e : Nat} (hM : MO h n q) (hTp : IA h 64 160 (fun i => i < tl) (fun i => nI (tp i))) (hq : q 4 = nI tl) (ht : tl ≤ 160) (hb : ∀ i, i < tl → tp i < 128) (h5 : q 5 = nI e) (h6 : q 6 = nI s) (hse : s ≤ e) (he : e ≤ tl) (hd : 2 ≤ d) : ev_V scr d cd_X6_lineNow 0 [.ref 57] [] h (some (.int (lIw (wdA tp s e))), h) := by
  have e0 := wh_4 (tp := tp) (tl := tl) (s := s) (e := e) (w := 0) hb hse he rfl (by decide)
  have e1 := wh_7 (tp := tp) (tl := tl) (s := s) (e := e) (w := 1) hb hse he rfl (by decide) (by decide)
  have e2 := wh_5 (tp := tp) (tl := tl) (s := s) (e := e) (w := 2) hb hse he rfl (by decide) (by decide)
  have e3 := wh_6 (tp := tp) (tl := tl) (s := s) (e := e) (w := 3) hb hse he rfl (by decide) (by decide)
  have e4 := wh_4 (tp := tp) (tl := tl) (s := s) (e := e) (w := 4) hb hse he rfl (by decide)
  have e5 := wh_5 (tp := tp) (tl := tl) (s := s) (e := e) (w := 5) hb hse he rfl (by decide) (by decide)
  have e6 := wh_4 (tp := tp) (tl := tl) (s := s) (e := e) (w := 6) hb hse he rfl (by decide)
  have e7 := wh_3 (tp := tp) (tl := tl) (s := s) (e := e) (w := 7) hb hse he rfl (by decide)
  have ew : wdA tp s e = if whA tp s e 0 = true then 0 else if whA tp s e 1 = true then 1 else if whA tp s e 2 = true then 2 else if whA tp s e 3 = true then 3 else if whA tp s e 4 = true then 4 else if whA tp s e 5 = true then 5 else if whA tp s e 6 = true then 6 else if whA tp s e 7 = true then 7 else 8 := rfl
  rw [ew]
  have M84 : ev_V scr d cd_X6_lineNow 84 [.ref 57] [] h (some (.int (lIw (if whA tp s e 6 = true then 6 else if whA tp s e 7 = true then 7 else 8))), h) := by
    refine ev_go 80 rfl ?_
    refine ev_cv rfl rfl rfl rfl hM rfl (d' := 1) (by omega) (c_is (e := e) (s := s) (nn := 4) (a := 109) (b := 111) (c := 115) (x := 116) hM hTp hq ht h5 h6 hse he (by decide) (by decide) (Nat.le_refl _)) ?_
    rw [← e6]
    cases whA tp s e 6
    · rw [if_neg (by decide)]
      refine ev_zeqT rfl (by decide) ?_
      refine ev_go 80 rfl ?_
      refine ev_cv rfl rfl rfl rfl hM rfl (d' := 1) (by omega) (c_is (e := e) (s := s) (nn := 3) (a := 107) (b := 105) (c := 110) (x := 0) hM hTp hq ht h5 h6 hse he (by decide) (by decide) (Nat.le_refl _)) ?_
      rw [← e7]
      cases whA tp s e 7
      · rw [if_neg (by decide)]
        refine ev_zeqT rfl (by decide) ?_
        refine ev_go 80 rfl ?_
        exact ev_iret rfl
      · rw [if_pos rfl]
        refine ev_zeqF rfl (by decide) ?_
        refine ev_go 80 rfl ?_
        exact ev_iret rfl
    · rw [if_pos rfl]
      refine ev_zeqF rfl (by decide) ?_
      refine ev_go 80 rfl ?_
      exact ev_iret rfl
  have M68 : ev_V scr d cd_X6_lineNow 68 [.ref 57] [] h (some (.int (lIw (if whA tp s e 5 = true then 5 else if whA tp s e 6 = true then 6 else if whA tp s e 7 = true then 7 else 8))), h) := by
    refine ev_go 80 rfl ?_
    refine ev_cv rfl rfl rfl rfl hM rfl (d' := 1) (by omega) (c_is (e := e) (s := s) (nn := 5) (a := 119) (b := 97) (c := 116) (x := 99) hM hTp hq ht h5 h6 hse he (by decide) (by decide) (Nat.le_refl _)) ?_
    rw [e5]
    cases isB tp tl s e 5 119 97 116 99
    · rw [Bool.false_and, if_neg (by decide)]
      refine ev_zeqT rfl (by decide) ?_
      exact M84
    · rw [Bool.true_and]
      refine ev_zeqF rfl (by decide) ?_
      refine ev_go 80 rfl ?_
      refine ev_cv rfl rfl rfl rfl hM rfl (d' := 1) (by omega) (c_ends (s := s) (a := 104) (b := 0) (c := 0) hM hTp hq ht h6 (by omega) (by decide) (Nat.le_refl _)) ?_
      cases enB tp tl s 104 0 0
      · rw [if_neg (by decide)]
        refine ev_zeqT rfl (by decide) ?_
        exact M84
      · rw [if_pos rfl]
        refine ev_zeqF rfl (by decide) ?_
        refine ev_go 80 rfl ?_
        exact ev_iret rfl
  have M58 : ev_V scr d cd_X6_lineNow 58 [.ref 57] [] h (some (.int (lIw (if whA tp s e 4 = true then 4 else if whA tp s e 5 = true then 5 else if whA tp s e 6 = true then 6 else if whA tp s e 7 = true then 7 else 8))), h) := by
    refine ev_go 80 rfl ?_
    refine ev_cv rfl rfl rfl rfl hM rfl (d' := 1) (by omega) (c_is (e := e) (s := s) (nn := 4) (a := 102) (b := 105) (c := 110) (x := 101) hM hTp hq ht h5 h6 hse he (by decide) (by decide) (Nat.le_refl _)) ?_
    rw [← e4]
    cases whA tp s e 4
    · rw [if_neg (by decide)]
      refine ev_zeqT rfl (by decide) ?_
      exact M68
    · rw [if_pos rfl]
      refine ev_zeqF rfl (by decide) ?_
      refine ev_go 80 rfl ?_
      exact ev_iret rfl
  have M42 : ev_V scr d cd_X6_lineNow 42 [.ref 57] [] h (some (.int (lIw (if whA tp s e 3 = true then 3 else if whA tp s e 4 = true then 4 else if whA tp s e 5 = true then 5 else if whA tp s e 6 = true then 6 else if whA tp s e 7 = true then 7 else 8))), h) := by
    refine ev_go 80 rfl ?_
    refine ev_cv rfl rfl rfl rfl hM rfl (d' := 1) (by omega) (c_is (e := e) (s := s) (nn := 6) (a := 119) (b := 97) (c := 110) (x := 100) hM hTp hq ht h5 h6 hse he (by decide) (by decide) (Nat.le_refl _)) ?_
    rw [e3]
    cases isB tp tl s e 6 119 97 110 100
    · rw [Bool.false_and, if_neg (by decide)]
      refine ev_zeqT rfl (by decide) ?_
      exact M58
    · rw [Bool.true_and]
      refine ev_zeqF rfl (by decide) ?_
      refine ev_go 80 rfl ?_
      refine ev_cv rfl rfl rfl rfl hM rfl (d' := 1) (by omega) (c_ends (s := s) (a := 101) (b := 114) (c := 0) hM hTp hq ht h6 (by omega) (by decide) (Nat.le_refl _)) ?_
      cases enB tp tl s 101 114 0
      · rw [if_neg (by decide)]
        refine ev_zeqT rfl (by decide) ?_
        exact M58
      · rw [if_pos rfl]
        refine ev_zeqF rfl (by decide) ?_
        refine ev_go 80 rfl ?_
        exact ev_iret rfl
  have M26 : ev_V scr d cd_X6_lineNow 26 [.ref 57] [] h (some (.int (lIw (if whA tp s e 2 = true then 2 else if whA tp s e 3 = true then 3 else if whA tp s e 4 = true then 4 else if whA tp s e 5 = true then 5 else if whA tp s e 6 = true then 6 else if whA tp s e 7 = true then 7 else 8))), h) := by
    refine ev_go 80 rfl ?_
    refine ev_cv rfl rfl rfl rfl hM rfl (d' := 1) (by omega) (c_is (e := e) (s := s) (nn := 5) (a := 115) (b := 97) (c := 105) (x := 110) hM hTp hq ht h5 h6 hse he (by decide) (by decide) (Nat.le_refl _)) ?_
    rw [e2]
    cases isB tp tl s e 5 115 97 105 110
    · rw [Bool.false_and, if_neg (by decide)]
      refine ev_zeqT rfl (by decide) ?_
      exact M42
    · rw [Bool.true_and]
      refine ev_zeqF rfl (by decide) ?_
      refine ev_go 80 rfl ?_
      refine ev_cv rfl rfl rfl rfl hM rfl (d' := 1) (by omega) (c_ends (s := s) (a := 116) (b := 0) (c := 0) hM hTp hq ht h6 (by omega) (by decide) (Nat.le_refl _)) ?_
      cases enB tp tl s 116 0 0
      · rw [if_neg (by decide)]
        refine ev_zeqT rfl (by decide) ?_
        exact M42
      · rw [if_pos rfl]
        refine ev_zeqF rfl (by decide) ?_
        refine ev_go 80 rfl ?_
        exact ev_iret rfl
  have M10 : ev_V scr d cd_X6_lineNow 10 [.ref 57] [] h (some (.int (lIw (if whA tp s e 1 = true then 1 else if whA tp s e 2 = true then 2 else if whA tp s e 3 = true then 3 else if whA tp s e 4 = true then 4 else if whA tp s e 5 = true then 5 else if whA tp s e 6 = true then 6 else if whA tp s e 7 = true then 7 else 8))), h) := by
    refine ev_go 80 rfl ?_
    refine ev_cv rfl rfl rfl rfl hM rfl (d' := 1) (by omega) (c_is (e := e) (s := s) (nn := 7) (a := 113) (b := 117) (c := 97) (x := 114) hM hTp hq ht h5 h6 hse he (by decide) (by decide) (Nat.le_refl _)) ?_
    rw [e1]
    cases isB tp tl s e 7 113 117 97 114
    · rw [Bool.false_and, if_neg (by decide)]
      refine ev_zeqT rfl (by decide) ?_
      exact M26
    · rw [Bool.true_and]
      refine ev_zeqF rfl (by decide) ?_
      refine ev_go 80 rfl ?_
      refine ev_cv rfl rfl rfl rfl hM rfl (d' := 1) (by omega) (c_ends (s := s) (a := 114) (b := 101) (c := 108) hM hTp hq ht h6 (by omega) (by decide) (Nat.le_refl _)) ?_
      cases enB tp tl s 114 101 108
      · rw [if_neg (by decide)]
        refine ev_zeqT rfl (by decide) ?_
        exact M26
      · rw [if_pos rfl]
        refine ev_zeqF rfl (by decide) ?_
        refine ev_go 80 rfl ?_
        exact ev_iret rfl
  refine ev_go 80 rfl ?_
  refine ev_cv rfl rfl rfl rfl hM rfl (d' := 1) (by omega) (c_is (e := e) (s := s) (nn := 4) (a := 99) (b := 97) (c := 108) (x := 109) hM hTp hq ht h5 h6 hse he (by decide) (by decide) (Nat.le_refl _)) ?_
  rw [← e0]
  cases whA tp s e 0
  · rw [if_neg (by decide)]
    refine ev_zeqT rfl (by decide) ?_
    exact M10
  · rw [if_pos rfl]
    refine ev_zeqF rfl (by decide) ?_
    refine ev_go 80 rfl ?_
    exact ev_iret rfl
end MWORD
