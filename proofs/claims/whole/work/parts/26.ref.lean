/-! The model: its picture, and what it reads. -/
def rv (f : Nat → Nat) (k : Nat) : Int32 := if k % 5 = 3 ∧ k < 40 then tv (f k) else nI (f k)
theorem rv_0 (f : Nat → Nat) (m : Nat) : rv f (5 * m) = nI (f (5 * m)) := if_neg (by omega)
theorem rv_1 (f : Nat → Nat) (m : Nat) : rv f (5 * m + 1) = nI (f (5 * m + 1)) := if_neg (by omega)
theorem rv_2 (f : Nat → Nat) (m : Nat) : rv f (5 * m + 2) = nI (f (5 * m + 2)) := if_neg (by omega)
theorem rv_3 (f : Nat → Nat) {m : Nat} (hm : m < 8) : rv f (5 * m + 3) = tv (f (5 * m + 3)) := if_pos (by omega)
theorem rv_4 (f : Nat → Nat) (m : Nat) : rv f (5 * m + 4) = nI (f (5 * m + 4)) := if_neg (by omega)
theorem rv_40 (f : Nat → Nat) : rv f 40 = nI (f 40) := rfl
theorem rv_41 (f : Nat → Nat) : rv f 41 = nI (f 41) := rfl
theorem rv_42 (f : Nat → Nat) : rv f 42 = nI (f 42) := rfl
theorem rv_43 (f : Nat → Nat) : rv f 43 = nI (f 43) := rfl
theorem rv_44 (f : Nat → Nat) : rv f 44 = nI (f 44) := rfl
theorem rv_hi (f : Nat → Nat) {k : Nat} (hk : 40 ≤ k) : rv f k = nI (f k) := if_neg (by omega)
def rs (f : Nat → Nat) (im : Nat → Int32) (k : Nat) : Int32 := if k < 57 then rv f k else im k
theorem rs_lt {f : Nat → Nat} {im : Nat → Int32} {k : Nat} (hk : k < 57) : rs f im k = rv f k := if_pos hk
def mo (n : Nat) (q : Nat → Int32) : List Value := [.ref 58, .ref 59, .ref 60, .int (nI n), .ref 61, .ref 62, .int (q 0), .ref 63, .int (q 1), .int (q 2), .int (q 3), .ref 64, .int (q 4), .int (q 5), .int (q 6), .int (q 7), .int (q 8), .int (q 9), .int (q 10), .ref 65, .ref 66, .ref 67, .ref 68, .ref 69, .int (q 11), .ref 70]
abbrev MO (h : ev_H) (n : Nat) (q : Nat → Int32) : Prop := h[57]? = some (.inr (6, mo n q))
abbrev AT (h : ev_H) (f : Nat → Nat) : Prop := IA h 59 57 (fun _ => True) (rv f)
abbrev ST (h : ev_H) (f : Nat → Nat) (im : Nat → Int32) : Prop := IA h 58 171 (fun _ => True) (rs f im)
theorem nI_x5 (m : Nat) : 5 * nI m = nI (5 * m) := nI_mul2 5 m
theorem nI_x2 (m : Nat) : 2 * nI m = nI (2 * m) := nI_mul2 2 m
theorem nI_p0 (m : Nat) : nI m + 0 = nI m := nI_add m 0
theorem nI_p2 (m : Nat) : nI m + 2 = nI (m + 2) := nI_add m 2
theorem nI_p3 (m : Nat) : nI m + 3 = nI (m + 3) := nI_add m 3
theorem nI_p4 (m : Nat) : nI m + 4 = nI (m + 4) := nI_add m 4
theorem nI_q45 (m : Nat) : 45 + nI m = nI (45 + m) := nI_add 45 m
theorem if10 {P Q : Prop} [Decidable P] [Decidable Q] (e : P ↔ Q) : (if P then (1 : Int32) else 0) = nI (tb_b (decide Q)) := by
  by_cases c : P
  · rw [if_pos c, decide_eq_true (e.mp c)]; rfl
  · rw [if_neg c, decide_eq_false (fun q => c (e.mpr q))]; rfl
theorem ifb {P : Prop} [Decidable P] {b : Bool} (e : P ↔ b = true) : (if P then (1 : Int32) else 0) = nI (tb_b b) := by
  by_cases c : P
  · rw [if_pos c, e.mp c]; rfl
  · have : b = false := by
      cases b
      · rfl
      · exact absurd (e.mpr rfl) c
    rw [if_neg c, this]; rfl
theorem tb_b1' {a i : Nat} (ha : a < 2 ^ 31) (hi : i < 31) : (nI a >>> (nI i &&& 31)) &&& 1 = 1 ↔ a.testBit i = true := by
  rw [tb_bit ha i hi, tb_b1]
theorem bs_fl (p : Nat → Bool) {i : Nat} (hi : i < 31) : nI (bs p i) ||| (nI (tb_b (p i)) <<< (nI i &&& 31)) = nI (bs p (i + 1)) := by
  cases c : p i
  · rw [bs_stay p c, tb_shl i hi, tb_or]
    simp [tb_b]
  · rw [← bs_step p hi c]
    rfl
theorem in_isM {v : Int32} {hi : Int64} {k : Nat} (hh : hi.toInt = (k : Int) - 1) : decide ((0 : Int64) ≤ v.toInt64 ∧ v.toInt64 ≤ hi) = isM k v := by
  unfold isM
  rw [← Bool.decide_and]
  exact decide_eq_decide.mpr (by
    rw [Int64.le_iff_toInt_le, Int64.le_iff_toInt_le, Int32.toInt_toInt64, hh, show (0 : Int64).toInt = 0 by decide]
    omega)
/-- a sum of others, as the model counts them -/
def otk (f : Nat → Nat) (m j : Nat) : Nat := tb_b (decide (j ≠ m) && (decide (f (5 * j + 3) = f (5 * m + 3)) && decide (f (5 * j) = 1)) && decide (f (5 * m) = 1))
theorem otk_sm (n : Nat) (f : Nat → Nat) (m : Nat) : sm (otk f m) n = if f (5 * m) = 1 then oth n f m else 0 := by
  by_cases c : f (5 * m) = 1
  · rw [if_pos c]
    exact sm_cong (fun i _ => by unfold otk; rw [decide_eq_true c, Bool.and_true])
  · rw [if_neg c]
    have := sm_le (g := otk f m) (c := 0) (n := n) (fun i _ => by unfold otk; rw [decide_eq_false c, Bool.and_false]; exact Nat.le_refl _)
    omega
def hrg (n : Nat) (f : Nat → Nat) (t m : Nat) : Nat := if f (5 * m + 3) = t then od n f m * f 41 + tb_b ((f 40).testBit m) * 10 * f 42 else 0
theorem hrg_sm (n : Nat) (f : Nat → Nat) (t : Nat) : ∀ i, sm (hrg n f t) i = sm (hmg n f t) i * f 41 + 10 * f 42 * sm (fun m => tb_b (decide (f (5 * m + 3) = t) && (f 40).testBit m)) i
  | 0 => by simp [sm]
  | i + 1 => by
    rw [sm_s, sm_s, sm_s, hrg_sm n f t i]
    unfold hrg hmg
    by_cases c : f (5 * i + 3) = t
    · rw [if_pos c, if_pos c, decide_eq_true c, Bool.true_and, Nat.add_mul, Nat.mul_add]
      rw [Nat.mul_comm (10 * f 42) (tb_b _), Nat.mul_assoc (tb_b _) 10]
      omega
    · rw [if_neg c, if_neg c, decide_eq_false c, Bool.false_and]
      simp [tb_b]
section REF
variable {scr : List Int32} {d : Nat} {h : ev_H} {n : Nat} {f : Nat → Nat} {q : Nat → Int32} {im : Nat → Int32}
theorem c_in {v lo hi : Int64} : ev_V scr d cd_X6_in 0 [.long v, .double 0, .long lo, .double 0, .long hi, .double 0] [] h (some (.int (nI (tb_b (decide (lo ≤ v ∧ v ≤ hi))))), h) := by
  refine ev_go 80 rfl ?_
  try dsimp only
  try simp only [nI_inc, nI_1, nI_add, nI_mul2, tb_and, tb_or, tb_andn, nI_x5, nI_x2, nI_p0, nI_p2, nI_p3, nI_p4, nI_q45]
  refine ev_zlt rfl (fun hc => ?_) (fun hc => ?_)
  · rw [lg_cmp_lt] at hc
    rw [decide_eq_false (fun q => absurd q.1 (Int64.not_le.mpr hc))]
    refine ev_go 80 rfl ?_
    exact ev_tret rfl rfl
  · rw [lg_cmp_lt] at hc
    have h1 := Int64.not_lt.mp hc
    refine ev_go 80 rfl ?_
    try dsimp only
    try simp only [nI_inc, nI_1, nI_add, nI_mul2, tb_and, tb_or, tb_andn, nI_x5, nI_x2, nI_p0, nI_p2, nI_p3, nI_p4, nI_q45]
    refine ev_zgt rfl (fun hc => ?_) (fun hc => ?_)
    · rw [lg_cmp_gt] at hc
      rw [decide_eq_false (fun q => absurd q.2 (Int64.not_le.mpr hc))]
      refine ev_go 80 rfl ?_
      exact ev_tret rfl rfl
    · rw [lg_cmp_gt] at hc
      rw [decide_eq_true (And.intro h1 (Int64.not_lt.mp hc))]
      refine ev_go 80 rfl ?_
      exact ev_tret rfl rfl
theorem c_in0 {v : Int32} {hi : Int64} (k : Nat) (hh : hi.toInt = (k : Int) - 1) : ev_V scr d cd_X6_in 0 [.long v.toInt64, .double 0, .long 0, .double 0, .long hi, .double 0] [] h (some (.int (nI (tb_b (isM k v)))), h) := by
  rw [← in_isM hh]
  exact c_in
theorem c_flag {b : Bool} : ev_V scr d cd_X6_flag 0 [.int (nI (tb_b b))] [] h (some (.int (nI (tb_b b))), h) := by
  refine ev_go 80 rfl ?_
  refine ev_zeqM 1 2 5 (v := nI (tb_b b)) rfl rfl rfl (by cases b <;> rfl) ?_
  exact ev_iret rfl
theorem c_isMan (hM : MO h n q) (hn : n ≤ 8) {m : Int32} (hd : 1 ≤ d) : ev_V scr d cd_X6_isMan 0 [.ref 57, .int m] [] h (some (.int (nI (tb_b (isM n m)))), h) := by
  refine ev_go 80 rfl ?_
  try dsimp only
  try simp only [nI_inc, nI_1, nI_add, nI_mul2, tb_and, tb_or, tb_andn, nI_x5, nI_x2, nI_p0, nI_p2, nI_p3, nI_p4, nI_q45]
  refine ev_getf rfl hM rfl rfl ?_
  refine ev_go 80 rfl ?_
  try dsimp only
  try simp only [nI_inc, nI_1, nI_add, nI_mul2, tb_and, tb_or, tb_andn, nI_x5, nI_x2, nI_p0, nI_p2, nI_p3, nI_p4, nI_q45]
  refine ev_cs rfl rfl rfl (d' := 0) (by omega) (c_in0 n (by rw [Int32.toInt_toInt64, show (1 : Int32) = nI 1 from rfl, pk_sub_toInt (by omega) (by decide)]; rfl)) ?_
  refine ev_tret rfl ?_
  cases isM n m <;> rfl
theorem c_isTenR {t : Int32} (hd : 1 ≤ d) : ev_V scr d cd_X6_isTen 0 [.int t] [] h (some (.int (nI (tb_b (isM 4 t)))), h) := by
  refine ev_go 80 rfl ?_
  try dsimp only
  try simp only [nI_inc, nI_1, nI_add, nI_mul2, tb_and, tb_or, tb_andn, nI_x5, nI_x2, nI_p0, nI_p2, nI_p3, nI_p4, nI_q45]
  refine ev_cs rfl rfl rfl (d' := 0) (by omega) (c_in0 4 (by decide)) ?_
  refine ev_tret rfl ?_
  cases isM 4 t <;> rfl
theorem c_isPart {t : Int32} (hd : 1 ≤ d) : ev_V scr d cd_X6_isPart 0 [.int t] [] h (some (.int (nI (tb_b (isM 2 t)))), h) := by
  refine ev_go 80 rfl ?_
  try dsimp only
  try simp only [nI_inc, nI_1, nI_add, nI_mul2, tb_and, tb_or, tb_andn, nI_x5, nI_x2, nI_p0, nI_p2, nI_p3, nI_p4, nI_q45]
  refine ev_cs rfl rfl rfl (d' := 0) (by omega) (c_in0 2 (by decide)) ?_
  refine ev_tret rfl ?_
  cases isM 2 t <;> rfl
theorem c_bitsOf {x : Nat} (hx : x < 2 ^ 31) : ev_V scr d cd_X6_bitsOf 0 [.int (nI x), .float 0, .float 0] [] h (some (.int (nI (pc8 x))), h) := by
  refine ev_go 80 rfl ?_
  refine ev_loop 8 (fun i => ev_V scr d cd_X6_bitsOf 4 [.int (nI x), .int (nI (sm (fun i => tb_b (x.testBit i)) i)), .int (nI i)] [] h _) (fun i hi K => ?_) ?_
  · refine ev_nop rfl ?_
    refine ev_go 80 rfl ?_
    refine ev_igeF rfl (nI_ge hi (by first | omega | decide)) ?_
    refine ev_go 80 rfl ?_
    dsimp only
    rw [tb_bit hx i (by omega), nI_add, nI_inc]
    exact K
  · refine ev_nop rfl ?_
    refine ev_go 80 rfl ?_
    refine ev_igeT rfl (nI_le (Nat.le_refl _) (by first | omega | decide)) ?_
    refine ev_go 80 rfl ?_
    exact ev_iret rfl
theorem c_starts {P : Nat → Prop} {g : Nat → Int32} (hM : MO h n q) (hS : ST h f im) (hI : IA h 59 57 P g) : ev_X scr d cd_X6_starts 0 [.ref 57, .float 0] [] h (fun v h' => v = none ∧ AT h' f ∧ SB 59 h h') := by
  refine ex_go 80 rfl ?_
  refine ev_loop 57 (fun i => ∀ h1, IA h1 59 57 (fun k => k < i ∧ True) (rv f) → SB 59 h h1 → ev_X scr d cd_X6_starts 2 [.ref 57, .int (nI i)] [] h1 _) (fun i hi K h1 hA1 hB1 => ?_) (fun h1 hA1 hB1 => ?_) h hI.none SB.rf
  · have hM1 := (hB1.2 57 (by decide)).trans hM
    have hS1 := hS.sb hB1 (by decide)
    refine ex_nop rfl ?_
    refine ex_go 80 rfl ?_
    refine ex_igeF rfl (nI_ge hi (by first | omega | decide)) ?_
    refine ex_go 80 rfl ?_
    refine ex_getf rfl hM1 rfl rfl ?_
    refine ex_go 80 rfl ?_
    refine ex_getf rfl hM1 rfl rfl ?_
    refine ex_go 80 rfl ?_
    refine ex_ia _ rfl hS1 rfl trivial (by omega) (by omega) rfl ?_
    rw [rs_lt hi]
    refine ex_is _ rfl hA1 rfl (by omega) (by omega) (fun h2 hA2 hB2 => ?_)
    refine ex_go 80 rfl ?_
    try dsimp only
    try simp only [nI_inc, nI_1, nI_add, nI_mul2, tb_and, tb_or, tb_andn, nI_x5, nI_x2, nI_p0, nI_p2, nI_p3, nI_p4, nI_q45]
    exact K h2 (hA2.grow (fun _ => rfl)) (hB1.tr hB2)
  · refine ex_nop rfl ?_
    refine ex_go 80 rfl ?_
    refine ex_igeT rfl (nI_le (Nat.le_refl _) (by first | omega | decide)) ?_
    exact ex_vret rfl (⟨rfl, hA1.full, hB1⟩)
theorem c_settles {f0 : Nat → Nat} (hM : MO h n q) (hS : ST h f0 im) (hA : AT h f) : ev_X scr d cd_X6_settles 0 [.ref 57, .float 0] [] h (fun v h' => v = none ∧ ST h' f im ∧ SB 58 h h') := by
  refine ex_go 80 rfl ?_
  refine ev_loop 57 (fun i => ∀ h1, IA h1 58 171 (fun _ => True) (fun k => if k < i then rv f k else rs f0 im k) → SB 58 h h1 → ev_X scr d cd_X6_settles 2 [.ref 57, .int (nI i)] [] h1 _) (fun i hi K h1 hA1 hB1 => ?_) (fun h1 hA1 hB1 => ?_) h (hS.congr (fun k _ hp => ⟨hp, by rw [if_neg (by omega)]⟩)) SB.rf
  · have hM1 := (hB1.2 57 (by decide)).trans hM
    have hS1 := hA.sb hB1 (by decide)
    refine ex_nop rfl ?_
    refine ex_go 80 rfl ?_
    refine ex_igeF rfl (nI_ge hi (by first | omega | decide)) ?_
    refine ex_go 80 rfl ?_
    refine ex_getf rfl hM1 rfl rfl ?_
    refine ex_go 80 rfl ?_
    refine ex_getf rfl hM1 rfl rfl ?_
    refine ex_go 80 rfl ?_
    refine ex_ia _ rfl hS1 rfl trivial (by omega) (by omega) rfl ?_
    refine ex_is _ rfl hA1 rfl (by omega) (by omega) (fun h2 hA2 hB2 => ?_)
    refine ex_go 80 rfl ?_
    try dsimp only
    try simp only [nI_inc, nI_1, nI_add, nI_mul2, tb_and, tb_or, tb_andn, nI_x5, nI_x2, nI_p0, nI_p2, nI_p3, nI_p4, nI_q45]
    refine K h2 (hA2.congr (fun k _ _ => ⟨Or.inl trivial, ?_⟩)) (hB1.tr hB2)
    by_cases c : k = i
    · rw [if_pos c, if_pos (by omega), c]
    · rw [if_neg c]
      by_cases c2 : k < i
      · rw [if_pos c2, if_pos (by omega)]
      · rw [if_neg c2, if_neg (by omega)]
  · refine ex_nop rfl ?_
    refine ex_go 80 rfl ?_
    refine ex_igeT rfl (nI_le (Nat.le_refl _) (by first | omega | decide)) ?_
    exact ex_vret rfl (⟨rfl, hA1.congr (fun k _ hp => ⟨hp, by unfold rs; by_cases c : k < 57 <;> simp [c]⟩), hB1⟩)
theorem c_ofw (hM : MO h n q) (hA : AT h f) {m w : Nat} {x : Int32} (hm : m < 8) (hw : w < 5) (hx : rv f (5 * m + w) = x) : ev_V scr d cd_X6_of 0 [.ref 57, .int (nI m), .int (nI w)] [] h (some (.int x), h) := by
  refine ev_go 80 rfl ?_
  refine ev_getf rfl hM rfl rfl ?_
  refine ev_go 80 rfl ?_
  dsimp only
  rw [nI_x5, nI_add]
  refine ev_ia (5 * m + w) rfl hA rfl trivial (by omega) (by omega) hx ?_
  exact ev_iret rfl
theorem c_of0 (hM : MO h n q) (hA : AT h f) {m : Nat} (hm : m < 8) : ev_V scr d cd_X6_of 0 [.ref 57, .int (nI m), .int 0] [] h (some (.int (nI (f (5 * m)))), h) := c_ofw hM hA hm (w := 0) (by decide) (rv_0 f m)
theorem c_of1 (hM : MO h n q) (hA : AT h f) {m : Nat} (hm : m < 8) : ev_V scr d cd_X6_of 0 [.ref 57, .int (nI m), .int 1] [] h (some (.int (nI (f (5 * m + 1)))), h) := c_ofw hM hA hm (w := 1) (by decide) (rv_1 f m)
theorem c_of2 (hM : MO h n q) (hA : AT h f) {m : Nat} (hm : m < 8) : ev_V scr d cd_X6_of 0 [.ref 57, .int (nI m), .int 2] [] h (some (.int (nI (f (5 * m + 2)))), h) := c_ofw hM hA hm (w := 2) (by decide) (rv_2 f m)
theorem c_of3 (hM : MO h n q) (hA : AT h f) {m : Nat} (hm : m < 8) : ev_V scr d cd_X6_of 0 [.ref 57, .int (nI m), .int 3] [] h (some (.int (tv (f (5 * m + 3)))), h) := c_ofw hM hA hm (w := 3) (by decide) (rv_3 f hm)
theorem c_of4 (hM : MO h n q) (hA : AT h f) {m : Nat} (hm : m < 8) : ev_V scr d cd_X6_of 0 [.ref 57, .int (nI m), .int 4] [] h (some (.int (nI (f (5 * m + 4)))), h) := c_ofw hM hA hm (w := 4) (by decide) (rv_4 f m)
theorem c_menOf (hM : MO h n q) (hA : AT h f) (hn : n ≤ 8) {t : Nat} (ht : t < 4) (hd : 1 ≤ d) : ev_V scr d cd_X6_menOf 0 [.ref 57, .int (nI t), .float 0, .float 0] [] h (some (.int (nI (bs (fun m => decide (f (5 * m + 3) = t)) n))), h) := by
  refine ev_go 80 rfl ?_
  refine ev_loop n (fun i => ev_V scr d cd_X6_menOf 4 [.ref 57, .int (nI t), .int (nI (bs (fun m => decide (f (5 * m + 3) = t)) i)), .int (nI i)] [] h _) (fun i hi K => ?_) ?_
  · refine ev_nop rfl ?_
    refine ev_go 80 rfl ?_
    refine ev_getf rfl hM rfl rfl ?_
    refine ev_igeF rfl (nI_ge hi (by first | omega | decide)) ?_
    refine ev_go 80 rfl ?_
    refine ev_cv rfl rfl rfl rfl hM rfl (d' := 0) (by omega) (c_of3 hM hA (by omega)) ?_
    refine ev_go 80 rfl ?_
    refine ev_ineM 1 2 19 (v := nI (tb_b (decide (f (5 * i + 3) = t)))) rfl rfl rfl (if10 (tv_eq ht)) ?_
    refine ev_cs rfl rfl rfl (d' := 0) (by omega) (c_flag) ?_
    refine ev_go 80 rfl ?_
    dsimp only
    rw [nI_inc, bs_fl (fun m => decide (f (5 * m + 3) = t)) (by omega)]
    exact K
  · refine ev_nop rfl ?_
    refine ev_go 80 rfl ?_
    refine ev_getf rfl hM rfl rfl ?_
    refine ev_igeT rfl (nI_le (Nat.le_refl _) (by first | omega | decide)) ?_
    refine ev_go 80 rfl ?_
    exact ev_iret rfl
theorem c_isWatched (hM : MO h n q) (hA : AT h f) {m : Nat} (hm : m < 8) (hw : f 40 < 2 ^ 31) : ev_V scr d cd_X6_isWatched 0 [.ref 57, .int (nI m)] [] h (some (.int (nI (tb_b ((f 40).testBit m)))), h) := by
  refine ev_go 80 rfl ?_
  refine ev_getf rfl hM rfl rfl ?_
  refine ev_go 80 rfl ?_
  refine ev_ia 40 rfl hA rfl (by first | exact trivial | assumption | (show _ < _; omega)) (by omega) (by omega) rfl ?_
  simp (disch := omega) only [rv_0, rv_1, rv_2, rv_3, rv_4, rv_40, rv_41, rv_42, rv_43, rv_44]
  refine ev_go 80 rfl ?_
  try dsimp only
  try simp only [nI_inc, nI_1, nI_add, nI_mul2, tb_and, tb_or, tb_andn, nI_x5, nI_x2, nI_p0, nI_p2, nI_p3, nI_p4, nI_q45]
  refine ev_ineM 1 2 13 (v := nI (tb_b ((f 40).testBit m))) rfl rfl rfl (ifb (tb_b1' hw (by omega))) ?_
  refine ev_tret rfl ?_
  cases (f 40).testBit m <;> rfl
theorem od_wan {n : Nat} {f : Nat → Nat} (g : GD n f) {m : Nat} (hm : m < n) (ht : f (5 * m + 3) = 4) : od n f m = f (5 * m + 1) := by
  obtain ⟨g1, g2, g3, g4, g5, g6⟩ := g.2.1 m hm
  have hk : f (5 * m) = 3 := g5.mpr ht
  have hb : (f 40).testBit m = false := by
    cases c : (f 40).testBit m
    · rfl
    · have := g6 c; omega
  unfold od odw oda
  rw [hb, if_neg (by omega), if_neg (by omega)]
  show min 9 (f (5 * m + 1)) = _
  omega
theorem c_oddsOf (hM : MO h n q) (hA : AT h f) (g : GD n f) {m : Nat} (hm : m < n) (hd : 1 ≤ d) : ev_V scr d cd_X6_oddsOf 0 [.ref 57, .int (nI m), .float 0, .float 0, .float 0] [] h (some (.int (nI (od n f m))), h) := by
  have hn := g.1
  have hw := g.w
  obtain ⟨g1, g2, g3, g4, g5, g6⟩ := g.2.1 m hm
  refine ev_go 80 rfl ?_
  refine ev_cv rfl rfl rfl rfl hM rfl (d' := 0) (by omega) (c_of1 hM hA (by omega)) ?_
  refine ev_go 80 rfl ?_
  refine ev_cv rfl rfl rfl rfl hM rfl (d' := 0) (by omega) (c_of0 hM hA (by omega)) ?_
  refine ev_go 80 rfl ?_
  refine ev_ine rfl (fun hc => ?_) (fun hc => ?_)
  · have h2 : ¬ f (5 * m) = 2 := fun q => hc (by rw [q]; rfl)
    refine ev_go 80 rfl ?_
    refine ev_cv rfl rfl rfl rfl hM rfl (d' := 0) (by omega) (c_of3 hM hA (by omega)) ?_
    refine ev_go 80 rfl ?_
    refine ev_ine rfl (fun hc => ?_) (fun hc => ?_)
    · rw [tv_m4 g4] at hc
      refine ev_go 80 rfl ?_
      refine ev_loop n (fun i => ev_V scr d cd_X6_oddsOf 23 [.ref 57, .int (nI m), .int (nI (f (5 * m + 1) + sm (otk f m) i)), .int (nI i), .float 0] [] h _) (fun i hi K => ?_) ?_
      · obtain ⟨k1, -, -, k4, -⟩ := g.2.1 i hi
        have tail : ∀ b : Bool, (b && decide (f (5 * m) = 1)) = (decide (i ≠ m) && (decide (f (5 * i + 3) = f (5 * m + 3)) && decide (f (5 * i) = 1)) && decide (f (5 * m) = 1)) → ev_V scr d cd_X6_oddsOf 49 [.ref 57, .int (nI m), .int (nI (f (5 * m + 1) + sm (otk f m) i)), .int (nI i), .float 0] [.int (nI (tb_b b))] h (some (.int (nI (od n f m))), h) := by
          intro b hb
          have e : otk f m i = tb_b (b && decide (f (5 * m) = 1)) := by unfold otk; rw [hb]
          rw [sm_s, e, ← Nat.add_assoc] at K
          refine ev_go 80 rfl ?_
          refine ev_zeq rfl (fun hz => ?_) (fun hz => ?_)
          · rw [tb_b0] at hz
            rw [hz, Bool.false_and] at K
            refine ev_go 80 rfl ?_
            refine ev_cs rfl rfl rfl (d' := 0) (by omega) (c_flag (b := false)) ?_
            refine ev_go 80 rfl ?_
            try dsimp only
            try simp only [nI_inc, nI_1, nI_add, nI_mul2, tb_and, tb_or, tb_andn, nI_x5, nI_x2, nI_p0, nI_p2, nI_p3, nI_p4, nI_q45]
            rw [hz]
            exact ev_weak (K) (by repeat (first | exact W_n | refine W_e ?_ | refine W_i ?_ | refine W_r ?_))
          · have hb1 : b = true := by simpa [tb_b0] using hz
            rw [hb1, Bool.true_and] at K
            refine ev_go 80 rfl ?_
            refine ev_cv rfl rfl rfl rfl hM rfl (d' := 0) (by omega) (c_of0 hM hA (by omega)) ?_
            refine ev_go 80 rfl ?_
            refine ev_ineM 1 2 62 (v := nI (tb_b (decide (f (5 * m) = 1)))) rfl rfl rfl (if10 (nI_eq (b := 1) (by omega) (by decide))) ?_
            refine ev_cs rfl rfl rfl (d' := 0) (by omega) (c_flag) ?_
            refine ev_go 80 rfl ?_
            try dsimp only
            try simp only [nI_inc, nI_1, nI_add, nI_mul2, tb_and, tb_or, tb_andn, nI_x5, nI_x2, nI_p0, nI_p2, nI_p3, nI_p4, nI_q45]
            exact ev_weak (K) (by repeat (first | exact W_n | refine W_e ?_ | refine W_i ?_ | refine W_r ?_))
        refine ev_nop rfl ?_
        refine ev_go 80 rfl ?_
        refine ev_getf rfl hM rfl rfl ?_
        refine ev_igeF rfl (nI_ge hi (by first | omega | decide)) ?_
        refine ev_go 80 rfl ?_
        refine ev_ieq rfl (fun hz => ?_) (fun hz => ?_)
        · rw [nI_eq (by omega) (by omega)] at hz
          refine ev_go 1 rfl ?_
          exact tail false (by simp [hz])
        · rw [nI_eq (by omega) (by omega)] at hz
          refine ev_go 80 rfl ?_
          refine ev_cv rfl rfl rfl rfl hM rfl (d' := 0) (by omega) (c_of3 hM hA (by omega)) ?_
          refine ev_go 80 rfl ?_
          refine ev_cv rfl rfl rfl rfl hM rfl (d' := 0) (by omega) (c_of3 hM hA (by omega)) ?_
          refine ev_ine rfl (fun hy => ?_) (fun hy => ?_)
          · rw [tv_inj k4 g4] at hy
            refine ev_go 1 rfl ?_
            exact tail false (by simp [hy])
          · rw [tv_inj k4 g4] at hy
            refine ev_go 80 rfl ?_
            refine ev_cv rfl rfl rfl rfl hM rfl (d' := 0) (by omega) (c_of0 hM hA (by omega)) ?_
            refine ev_go 80 rfl ?_
            refine ev_ine rfl (fun hx => ?_) (fun hx => ?_)
            · refine ev_go 1 rfl ?_
              exact tail false (by
                have hx1 : ¬ f (5 * i) = 1 := fun q => hx (by rw [q]; rfl)
                simp [hx1])
            · refine ev_go 2 rfl ?_
              exact tail true (by
                have hx1 : f (5 * i) = 1 := (nI_eq (b := 1) (by omega) (by decide)).mp hx
                simp [hz, hy, hx1])
      · refine ev_nop rfl ?_
        refine ev_go 80 rfl ?_
        refine ev_getf rfl hM rfl rfl ?_
        refine ev_igeT rfl (nI_le (Nat.le_refl _) (by first | omega | decide)) ?_
        refine ev_go 80 rfl ?_
        refine ev_cv rfl rfl rfl rfl hM rfl (d' := 0) (by omega) (c_isWatched hM hA (by omega) (by omega)) ?_
        have ho := oth_le n f m
        rw [otk_sm]
        have e : ∀ b, oda f m (oth n f m) b = min 9 (hv b (f (5 * m + 1) + (if f (5 * m) = 1 then oth n f m else 0))) := fun b => if_neg h2
        have hx : f (5 * m + 1) + (if f (5 * m) = 1 then oth n f m else 0) < 1000 := by split <;> omega
        unfold od odw
        generalize f (5 * m + 1) + (if f (5 * m) = 1 then oth n f m else 0) = x at *
        have fin : ∀ y : Nat, y < 1000 → (if (9 : Int32) ≤ nI y then (9 : Int32) else nI y) = nI (min 9 y) := by
          intro y hy
          rw [show (9 : Int32) = nI 9 from rfl]
          by_cases c : 9 ≤ y
          · rw [if_pos (nI_le (a := 9) c (by omega)), Nat.min_eq_left c]
          · rw [if_neg (nI_ge (b := 9) (by omega) (by decide)), Nat.min_eq_right (by omega)]
        refine ev_zeq rfl (fun hz => ?_) (fun hz => ?_)
        · rw [tb_b0] at hz
          rw [hz, e]
          show ev_V _ _ _ _ _ _ _ (some (.int (nI (min 9 x))), h)
          refine ev_go 80 rfl ?_
          refine ev_igeM 1 2 83 (v := nI (min 9 x)) rfl rfl rfl (fin x hx) ?_
          exact ev_iret rfl
        · have hb1 : (f 40).testBit m = true := by simpa [tb_b0] using hz
          rw [hb1, e]
          show ev_V _ _ _ _ _ _ _ (some (.int (nI (min 9 (x / 2)))), h)
          refine ev_go 80 rfl ?_
          refine ev_idiv (v := nI (x / 2)) rfl (by decide) (pk_div (d := 2) (by omega) (by decide) (by decide)) ?_
          refine ev_go 80 rfl ?_
          refine ev_igeM 1 2 83 (v := nI (min 9 (x / 2))) rfl rfl rfl (fin (x / 2) (by omega)) ?_
          exact ev_iret rfl
    · rw [tv_m4 g4] at hc
      rw [od_wan g hm hc]
      refine ev_go 80 rfl ?_
      exact ev_iret rfl
  · have h2 : f (5 * m) = 2 := (nI_eq (b := 2) (by omega) (by decide)).mp hc
    have e : od n f m = 0 := by unfold od odw oda; rw [if_pos h2]
    rw [e]
    refine ev_go 80 rfl ?_
    exact ev_iret rfl
theorem c_harmOf (hM : MO h n q) (hA : AT h f) (g : GD n f) {t : Nat} (ht : t < 4) (hd : 2 ≤ d) : ev_V scr d cd_X6_harmOf 0 [.ref 57, .int (nI t), .float 0, .float 0] [] h (some (.int (nI (hm n f t))), h) := by
  have hn := g.1
  have hw := g.w
  refine ev_go 80 rfl ?_
  refine ev_loop n (fun i => ev_V scr d cd_X6_harmOf 4 [.ref 57, .int (nI t), .int (nI (sm (hrg n f t) i)), .int (nI i)] [] h _) (fun i hi K => ?_) ?_
  · rw [sm_s] at K
    refine ev_nop rfl ?_
    refine ev_go 80 rfl ?_
    refine ev_getf rfl hM rfl rfl ?_
    refine ev_igeF rfl (nI_ge hi (by first | omega | decide)) ?_
    refine ev_go 80 rfl ?_
    refine ev_cv rfl rfl rfl rfl hM rfl (d' := 0) (by omega) (c_of3 hM hA (by omega)) ?_
    refine ev_go 80 rfl ?_
    refine ev_ine rfl (fun hc => ?_) (fun hc => ?_)
    · rw [tv_eq ht] at hc
      rw [hrg, if_neg hc] at K
      refine ev_go 80 rfl ?_
      dsimp only
      rw [show (0 : Int32) = nI 0 from rfl, nI_add, nI_inc]
      exact K
    · rw [tv_eq ht] at hc
      rw [hrg, if_pos hc] at K
      refine ev_go 80 rfl ?_
      refine ev_cv rfl rfl rfl rfl hM rfl (d' := 1) (by omega) (c_oddsOf hM hA g hi (Nat.le_refl _)) ?_
      refine ev_go 80 rfl ?_
      refine ev_getf rfl hM rfl rfl ?_
      refine ev_go 80 rfl ?_
      refine ev_ia 41 rfl hA rfl (by first | exact trivial | assumption | (show _ < _; omega)) (by omega) (by omega) rfl ?_
      simp (disch := omega) only [rv_0, rv_1, rv_2, rv_3, rv_4, rv_40, rv_41, rv_42, rv_43, rv_44]
      refine ev_go 80 rfl ?_
      try dsimp only
      try simp only [nI_inc, nI_1, nI_add, nI_mul2, tb_and, tb_or, tb_andn, nI_x5, nI_x2, nI_p0, nI_p2, nI_p3, nI_p4, nI_q45]
      refine ev_cv rfl rfl rfl rfl hM rfl (d' := 0) (by omega) (c_isWatched hM hA (by omega) (by omega)) ?_
      refine ev_cs rfl rfl rfl (d' := 0) (by omega) (c_flag) ?_
      refine ev_go 80 rfl ?_
      try dsimp only
      try simp only [nI_inc, nI_1, nI_add, nI_mul2, tb_and, tb_or, tb_andn, nI_x5, nI_x2, nI_p0, nI_p2, nI_p3, nI_p4, nI_q45]
      refine ev_getf rfl hM rfl rfl ?_
      refine ev_go 80 rfl ?_
      refine ev_ia 42 rfl hA rfl (by first | exact trivial | assumption | (show _ < _; omega)) (by omega) (by omega) rfl ?_
      simp (disch := omega) only [rv_0, rv_1, rv_2, rv_3, rv_4, rv_40, rv_41, rv_42, rv_43, rv_44]
      refine ev_go 80 rfl ?_
      try dsimp only
      try simp only [nI_inc, nI_1, nI_add, nI_mul2, tb_and, tb_or, tb_andn, nI_x5, nI_x2, nI_p0, nI_p2, nI_p3, nI_p4, nI_q45]
      rw [li10, nI_mul2, nI_mul2, nI_add, nI_add]
      exact K
  · rw [hrg_sm]
    refine ev_nop rfl ?_
    refine ev_go 80 rfl ?_
    refine ev_getf rfl hM rfl rfl ?_
    refine ev_igeT rfl (nI_le (Nat.le_refl _) (by first | omega | decide)) ?_
    refine ev_go 80 rfl ?_
    exact ev_iret rfl
theorem c_harmAll (hM : MO h n q) (hA : AT h f) (g : GD n f) (hd : 3 ≤ d) : ev_V scr d cd_X6_harmAll 0 [.ref 57, .float 0, .float 0] [] h (some (.int (nI (ha n f))), h) := by
  have hn := g.1
  refine ev_go 80 rfl ?_
  refine ev_loop 4 (fun i => ev_V scr d cd_X6_harmAll 4 [.ref 57, .int (nI (sm (hm n f) i)), .int (nI i)] [] h _) (fun i hi K => ?_) ?_
  · refine ev_nop rfl ?_
    refine ev_go 80 rfl ?_
    refine ev_igeF rfl (nI_ge hi (by first | omega | decide)) ?_
    refine ev_go 80 rfl ?_
    refine ev_cv rfl rfl rfl rfl hM rfl (d' := 2) (by omega) (c_harmOf hM hA g hi (Nat.le_refl _)) ?_
    refine ev_go 80 rfl ?_
    try dsimp only
    try simp only [nI_inc, nI_1, nI_add, nI_mul2, tb_and, tb_or, tb_andn, nI_x5, nI_x2, nI_p0, nI_p2, nI_p3, nI_p4, nI_q45]
    exact K
  · refine ev_nop rfl ?_
    refine ev_go 80 rfl ?_
    refine ev_igeT rfl (nI_le (Nat.le_refl _) (by first | omega | decide)) ?_
    refine ev_go 80 rfl ?_
    refine ev_loop n (fun i => ev_V scr d cd_X6_harmAll 18 [.ref 57, .int (nI (sm (hm n f) 4 + sm (hwg f) i)), .int (nI i)] [] h _) (fun i hi K => ?_) ?_
    · rw [sm_s (hwg f)] at K
      obtain ⟨g1, g2, g3, g4, g5, g6⟩ := g.2.1 i hi
      refine ev_nop rfl ?_
      refine ev_go 80 rfl ?_
      refine ev_getf rfl hM rfl rfl ?_
      refine ev_igeF rfl (nI_ge hi (by first | omega | decide)) ?_
      refine ev_go 80 rfl ?_
      refine ev_cv rfl rfl rfl rfl hM rfl (d' := 0) (by omega) (c_of3 hM hA (by omega)) ?_
      refine ev_go 80 rfl ?_
      refine ev_ine rfl (fun hc => ?_) (fun hc => ?_)
      · rw [tv_m4 g4] at hc
        rw [hwg, if_neg (fun c => hc (g5.mp c))] at K
        refine ev_go 80 rfl ?_
        dsimp only
        rw [show (0 : Int32) = nI 0 from rfl, nI_add, nI_inc, Nat.add_assoc]
        exact K
      · rw [tv_m4 g4] at hc
        rw [hwg, if_pos (g5.mpr hc), ← Nat.add_assoc] at K
        refine ev_go 80 rfl ?_
        refine ev_cv rfl rfl rfl rfl hM rfl (d' := 0) (by omega) (c_of1 hM hA (by omega)) ?_
        refine ev_go 80 rfl ?_
        refine ev_getf rfl hM rfl rfl ?_
        refine ev_go 80 rfl ?_
        refine ev_ia 41 rfl hA rfl (by first | exact trivial | assumption | (show _ < _; omega)) (by omega) (by omega) rfl ?_
        simp (disch := omega) only [rv_0, rv_1, rv_2, rv_3, rv_4, rv_40, rv_41, rv_42, rv_43, rv_44]
        refine ev_go 80 rfl ?_
        try dsimp only
        try simp only [nI_inc, nI_1, nI_add, nI_mul2, tb_and, tb_or, tb_andn, nI_x5, nI_x2, nI_p0, nI_p2, nI_p3, nI_p4, nI_q45]
        exact K
    · refine ev_nop rfl ?_
      refine ev_go 80 rfl ?_
      refine ev_getf rfl hM rfl rfl ?_
      refine ev_igeT rfl (nI_le (Nat.le_refl _) (by first | omega | decide)) ?_
      refine ev_go 80 rfl ?_
      exact ev_iret rfl
theorem c_allGoods (hM : MO h n q) (hA : AT h f) (hn : n ≤ 8) {x : Nat} (hx : x < 2 ^ 31) (hd : 1 ≤ d) : ev_V scr d cd_X6_allGoods 0 [.ref 57, .int (nI x), .float 0, .float 0] [] h (some (.int (nI (sm (gsg f x) n))), h) := by
  refine ev_go 80 rfl ?_
  refine ev_loop n (fun i => ev_V scr d cd_X6_allGoods 4 [.ref 57, .int (nI x), .int (nI (sm (gsg f x) i)), .int (nI i)] [] h _) (fun i hi K => ?_) ?_
  · rw [sm_s] at K
    refine ev_nop rfl ?_
    refine ev_go 80 rfl ?_
    refine ev_getf rfl hM rfl rfl ?_
    refine ev_igeF rfl (nI_ge hi (by first | omega | decide)) ?_
    refine ev_go 80 rfl ?_
    try dsimp only
    try simp only [nI_inc, nI_1, nI_add, nI_mul2, tb_and, tb_or, tb_andn, nI_x5, nI_x2, nI_p0, nI_p2, nI_p3, nI_p4, nI_q45]
    refine ev_ine rfl (fun hc => ?_) (fun hc => ?_)
    · rw [tb_b1' hx (by omega)] at hc
      rw [gsg, if_neg hc] at K
      refine ev_go 80 rfl ?_
      dsimp only
      rw [show (0 : Int32) = nI 0 from rfl, nI_add, nI_inc]
      exact K
    · rw [tb_b1' hx (by omega)] at hc
      rw [gsg, if_pos hc] at K
      refine ev_go 80 rfl ?_
      refine ev_cv rfl rfl rfl rfl hM rfl (d' := 0) (by omega) (c_of2 hM hA (by omega)) ?_
      refine ev_go 80 rfl ?_
      try dsimp only
      try simp only [nI_inc, nI_1, nI_add, nI_mul2, tb_and, tb_or, tb_andn, nI_x5, nI_x2, nI_p0, nI_p2, nI_p3, nI_p4, nI_q45]
      exact K
  · refine ev_nop rfl ?_
    refine ev_go 80 rfl ?_
    refine ev_getf rfl hM rfl rfl ?_
    refine ev_igeT rfl (nI_le (Nat.le_refl _) (by first | omega | decide)) ?_
    refine ev_go 80 rfl ?_
    exact ev_iret rfl
end REF
