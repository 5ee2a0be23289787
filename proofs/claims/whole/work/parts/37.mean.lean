/-! mean: what those elsewhere do may be left out. -/
theorem sm_app (g : Nat → Nat) (a : Nat) : ∀ b, sm g (a + b) = sm g a + sm (fun i => g (a + i)) b
  | 0 => rfl
  | b + 1 => by rw [← Nat.add_assoc, sm, sm, sm_app g a b, Nat.add_assoc]
theorem hib {k w : Nat} (hw : w < 2 ^ k) (j : Nat) : (2 ^ k + w).testBit j = if j = k then true else w.testBit j := by
  have e : 2 ^ k + w = 2 ^ k ||| w := by
    have := Nat.two_pow_add_eq_or_of_lt hw 1
    simpa using this
  rw [e, Nat.testBit_or, Nat.testBit_two_pow]
  by_cases c : j = k
  · simp [c]
  · simp [c, Ne.symm c]
theorem lob {k w : Nat} (hw : w < 2 ^ k) : w.testBit k = false := Nat.testBit_lt_two_pow hw
theorem wo_zero (w x : Nat) : tb_wo w x = 0 ↔ ∀ j, w.testBit j = true → x.testBit j = true := by
  constructor
  · intro q j hj
    have := congrArg (fun z => z.testBit j) q
    simp only [tb_wo_bit, hj, Nat.zero_testBit, Bool.true_and] at this
    simpa using this
  · intro q
    apply Nat.eq_of_testBit_eq
    intro j
    rw [tb_wo_bit, Nat.zero_testBit]
    cases c : w.testBit j
    · rfl
    · rw [q j c]; rfl
theorem hi_and {k w x : Nat} (hw : w < 2 ^ k) : (2 ^ k + w) &&& x = if x.testBit k = true then 2 ^ k + (w &&& x) else w &&& x := by
  have hwx : w &&& x < 2 ^ k := Nat.lt_of_le_of_lt Nat.and_le_left hw
  apply Nat.eq_of_testBit_eq
  intro j
  rw [Nat.testBit_and, hib hw]
  by_cases cx : x.testBit k = true
  · rw [if_pos cx, hib hwx, Nat.testBit_and]
    by_cases c : j = k
    · rw [if_pos c, if_pos c, c, cx]; rfl
    · rw [if_neg c, if_neg c]
  · rw [if_neg cx, Nat.testBit_and]
    by_cases c : j = k
    · have cx' : x.testBit k = false := by simpa using cx
      rw [if_pos c, c, cx', Bool.and_false, Bool.and_false]
    · rw [if_neg c]
theorem hi_wo {k w x : Nat} (hw : w < 2 ^ k) : tb_wo (2 ^ k + w) x = 0 ↔ (x.testBit k = true ∧ tb_wo w x = 0) := by
  rw [wo_zero, wo_zero]
  constructor
  · intro q
    refine ⟨q k (by rw [hib hw, if_pos rfl]), fun j hj => q j ?_⟩
    rw [hib hw]
    split
    · rfl
    · exact hj
  · rintro ⟨a, b⟩ j hj
    rw [hib hw] at hj
    by_cases c : j = k
    · rw [c]; exact a
    · rw [if_neg c] at hj
      exact b j hj
def prb (p : Nat → Nat) (j : Nat) (b : Bool) : Nat := if b = true then p j else 10 - p j
theorem mean_sum (p : Nat → Nat) (hp : ∀ j, p j ≤ 10) (x : Nat) : ∀ (k : Nat) (F : Nat → Nat), sm (fun w => pd (fun j => prb p j (w.testBit j)) k * F (w &&& x)) (2 ^ k) = 10 ^ sm (fun j => tb_b (!x.testBit j)) k * sm (fun w => if tb_wo w x = 0 then pd (fun j => if x.testBit j = true then prb p j (w.testBit j) else 1) k * F w else 0) (2 ^ k)
  | 0, F => by
    have e : tb_wo 0 x = 0 := by simp [tb_wo]
    show 0 + 1 * F (0 &&& x) = 1 * (0 + (if tb_wo 0 x = 0 then 1 * F 0 else 0))
    rw [if_pos e]
    simp
  | k + 1, F => by
    have lo : ∀ (Q : Nat → Bool → Nat) w, w < 2 ^ k → pd (fun j => Q j (w.testBit j)) (k + 1) = pd (fun j => Q j (w.testBit j)) k * Q k false := fun Q w hw => by rw [pd, lob hw]
    have hi : ∀ (Q : Nat → Bool → Nat) w, w < 2 ^ k → pd (fun j => Q j ((2 ^ k + w).testBit j)) (k + 1) = pd (fun j => Q j (w.testBit j)) k * Q k true := fun Q w hw => by
      rw [pd]
      rw [hib hw k, if_pos rfl, pd_cong (q' := fun j => Q j (w.testBit j)) (fun i hi => by rw [hib hw, if_neg (by omega)])]
    rw [show 2 ^ (k + 1) = 2 ^ k + 2 ^ k by rw [Nat.pow_succ]; omega, sm_app _ (2 ^ k) (2 ^ k), sm_app _ (2 ^ k) (2 ^ k)]
    have l1 : sm (fun w => pd (fun j => prb p j (w.testBit j)) (k + 1) * F (w &&& x)) (2 ^ k) = sm (fun w => pd (fun j => prb p j (w.testBit j)) k * ((10 - p k) * F (w &&& x))) (2 ^ k) := sm_cong (fun w hw => by
      rw [lo (prb p) w hw, Nat.mul_assoc]; rfl)
    rw [l1]
    by_cases cx : x.testBit k = true
    · have l2 : sm (fun i => (fun w => pd (fun j => prb p j (w.testBit j)) (k + 1) * F (w &&& x)) (2 ^ k + i)) (2 ^ k) = sm (fun w => pd (fun j => prb p j (w.testBit j)) k * (p k * F (2 ^ k + (w &&& x)))) (2 ^ k) := sm_cong (fun w hw => by
        dsimp only
        rw [hi (prb p) w hw, hi_and hw, if_pos cx, Nat.mul_assoc]; rfl)
      have r1 : sm (fun w => if tb_wo w x = 0 then pd (fun j => if x.testBit j = true then prb p j (w.testBit j) else 1) (k + 1) * F w else 0) (2 ^ k) = sm (fun w => if tb_wo w x = 0 then pd (fun j => if x.testBit j = true then prb p j (w.testBit j) else 1) k * ((10 - p k) * F w) else 0) (2 ^ k) := sm_cong (fun w hw => by
        by_cases c : tb_wo w x = 0
        · rw [if_pos c, if_pos c, lo (fun j b => if x.testBit j = true then prb p j b else 1) w hw, if_pos cx, Nat.mul_assoc]; rfl
        · rw [if_neg c, if_neg c])
      have r2 : sm (fun i => (fun w => if tb_wo w x = 0 then pd (fun j => if x.testBit j = true then prb p j (w.testBit j) else 1) (k + 1) * F w else 0) (2 ^ k + i)) (2 ^ k) = sm (fun w => if tb_wo w x = 0 then pd (fun j => if x.testBit j = true then prb p j (w.testBit j) else 1) k * (p k * F (2 ^ k + w)) else 0) (2 ^ k) := sm_cong (fun w hw => by
        dsimp only
        by_cases c : tb_wo w x = 0
        · rw [if_pos ((hi_wo hw).mpr ⟨cx, c⟩), if_pos c, hi (fun j b => if x.testBit j = true then prb p j b else 1) w hw, if_pos cx, Nat.mul_assoc]; rfl
        · rw [if_neg (fun q => c ((hi_wo hw).mp q).2), if_neg c])
      rw [l2, r1, r2, ← sm_add, ← sm_add]
      have ih := mean_sum p hp x k (fun w => (10 - p k) * F w + p k * F (2 ^ k + w))
      rw [sm_cong (g' := fun w => pd (fun j => prb p j (w.testBit j)) k * ((fun w => (10 - p k) * F w + p k * F (2 ^ k + w)) (w &&& x))) (fun w _ => by rw [← Nat.mul_add]), ih, sm_s, cx]
      congr 1
      refine sm_cong (fun w _ => ?_)
      by_cases c : tb_wo w x = 0
      · rw [if_pos c, if_pos c, if_pos c, Nat.mul_add]
      · rw [if_neg c, if_neg c, if_neg c]
    · have cx' : x.testBit k = false := by simpa using cx
      have l2 : sm (fun i => (fun w => pd (fun j => prb p j (w.testBit j)) (k + 1) * F (w &&& x)) (2 ^ k + i)) (2 ^ k) = sm (fun w => pd (fun j => prb p j (w.testBit j)) k * (p k * F (w &&& x))) (2 ^ k) := sm_cong (fun w hw => by
        dsimp only
        rw [hi (prb p) w hw, hi_and hw, if_neg cx, Nat.mul_assoc]; rfl)
      have r1 : sm (fun w => if tb_wo w x = 0 then pd (fun j => if x.testBit j = true then prb p j (w.testBit j) else 1) (k + 1) * F w else 0) (2 ^ k) = sm (fun w => if tb_wo w x = 0 then pd (fun j => if x.testBit j = true then prb p j (w.testBit j) else 1) k * F w else 0) (2 ^ k) := sm_cong (fun w hw => by
        by_cases c : tb_wo w x = 0
        · rw [if_pos c, if_pos c, lo (fun j b => if x.testBit j = true then prb p j b else 1) w hw, if_neg cx, Nat.mul_one]
        · rw [if_neg c, if_neg c])
      have r2 : sm (fun i => (fun w => if tb_wo w x = 0 then pd (fun j => if x.testBit j = true then prb p j (w.testBit j) else 1) (k + 1) * F w else 0) (2 ^ k + i)) (2 ^ k) = 0 := by
        have := sm_le (g := fun i => (fun w => if tb_wo w x = 0 then pd (fun j => if x.testBit j = true then prb p j (w.testBit j) else 1) (k + 1) * F w else 0) (2 ^ k + i)) (c := 0) (n := 2 ^ k) (fun w hw => by
          dsimp only
          rw [if_neg (fun q => cx ((hi_wo hw).mp q).1)]
          exact Nat.le_refl _)
        omega
      rw [l2, r1, r2, ← sm_add, Nat.add_zero]
      have ih := mean_sum p hp x k (fun w => 10 * F w)
      have hpk := hp k
      rw [sm_cong (g' := fun w => pd (fun j => prb p j (w.testBit j)) k * ((fun w => 10 * F w) (w &&& x))) (fun w _ => by
        rw [← Nat.mul_add, ← Nat.add_mul]
        congr 2
        omega), ih, sm_s, cx', Nat.pow_add, Nat.mul_assoc]
      congr 1
      show _ = 10 * _
      rw [Nat.add_zero, sm_mulc]
      refine sm_cong (fun w _ => ?_)
      by_cases c : tb_wo w x = 0
      · rw [if_pos c, if_pos c]; exact Nat.mul_left_comm _ _ _
      · rw [if_neg c, if_neg c]
/-! fines stay in the ten -/
theorem pf_out {q r x : Nat} {g : Nat → Nat} {j : Nat} (hj : x.testBit j = false) : ∀ n, (pf q r x g n).1 j = g j
  | 0 => rfl
  | n + 1 => by
    cases c : x.testBit n
    · rw [pf_f c]; exact pf_out hj n
    · rw [pf_t c]
      dsimp only
      unfold tk
      rw [up_ne (by intro e; rw [e, c] at hj; exact absurd hj (by decide))]
      exact pf_out hj n
theorem pf_agree {q r x : Nat} {g g' : Nat → Nat} (hx : ∀ j, x.testBit j = true → g j = g' j) : ∀ n, (pf q r x g n).2.2 = (pf q r x g' n).2.2 ∧ ∀ j, g j = g' j → (pf q r x g n).1 j = (pf q r x g' n).1 j
  | 0 => ⟨rfl, fun _ h => h⟩
  | n + 1 => by
    obtain ⟨i1, i2⟩ := pf_agree (q := q) (r := r) hx n
    cases c : x.testBit n
    · rw [pf_f c, pf_f c]; exact ⟨i1, i2⟩
    · rw [pf_t c, pf_t c]
      dsimp only
      rw [i1]
      refine ⟨rfl, fun j hj => ?_⟩
      unfold tk
      by_cases e : j = n
      · rw [e, up_eq, up_eq, i2 n (hx n c)]
      · rw [up_ne e, up_ne e]; exact i2 j hj
theorem pyr_ten {n : Nat} {f : Nat → Nat} {m j : Nat} (h : (pyr n f m).testBit j = true) : f (5 * j + 3) = f (5 * m + 3) := by
  unfold pyr at h
  rw [tb_wo_bit, tb_wo_bit, bs_bit] at h
  simp only [Bool.and_eq_true, decide_eq_true_eq] at h
  exact h.1.1.2
theorem pfm_out {n : Nat} {f g : Nat → Nat} {m j : Nat} (hj : f (5 * j + 3) ≠ f (5 * m + 3)) : (pfm n f g m).1 j = g j := by
  have hb : (pyr n f m).testBit j = false := by
    cases c : (pyr n f m).testBit j
    · rfl
    · exact absurd (pyr_ten c) hj
  unfold pfm
  split
  · rfl
  · exact pf_out hb n
theorem pfm_agree {n : Nat} {f g g' : Nat → Nat} {m : Nat} (hg : ∀ j, f (5 * j + 3) = f (5 * m + 3) → g j = g' j) {j : Nat} (hj : f (5 * j + 3) = f (5 * m + 3)) : (pfm n f g m).1 j = (pfm n f g' m).1 j := by
  unfold pfm
  split
  · exact hg j hj
  · exact (pf_agree (fun k hk => hg k (pyr_ten hk)) n).2 j (hg j hj)
theorem fi_agree {n : Nat} {f : Nat → Nat} {w w' : Nat} {g : Nat → Nat} {t : Nat} (ht : t < 4) : ∀ i, (∀ j, j < i → f (5 * j + 3) = t → w.testBit j = w'.testBit j) → ∀ j, f (5 * j + 3) = t → (fi n f w g i).1 j = (fi n f w' g i).1 j
  | 0, _, _, _ => rfl
  | i + 1, hw, j, hj => by
    have ih := fi_agree (n := n) (g := g) ht i (fun k hk => hw k (by omega))
    by_cases c : f (5 * i + 3) = t
    · have hb := hw i (by omega) c
      rw [fi, fi, ← hb]
      by_cases cb : w.testBit i = true ∧ f (5 * i + 3) < 4
      · rw [if_pos cb, if_pos cb]
        exact pfm_agree (fun k hk => ih k (by omega)) (by omega)
      · rw [if_neg cb, if_neg cb]; exact ih j hj
    · have key : ∀ u, (fi n f u g (i + 1)).1 j = (fi n f u g i).1 j := by
        intro u
        rw [fi]
        split
        · exact pfm_out (by omega)
        · rfl
      rw [key, key]
      exact ih j hj
theorem fi_wan {n : Nat} {f : Nat → Nat} {w : Nat} {g : Nat → Nat} {j : Nat} (hj : ¬ f (5 * j + 3) < 4) : ∀ i, (fi n f w g i).1 j = g j
  | 0 => rfl
  | i + 1 => by
    rw [fi]
    split
    · rename_i c
      exact Eq.trans (pfm_out (by omega)) (fi_wan hj i)
    · exact fi_wan hj i
/-- fines that m pays when w do wrong -/
def fn (n : Nat) (f : Nat → Nat) (m w : Nat) : Nat := gd f m - (fi n f w (gd f) n).1 m
/-- those of his ten -/
def itn (n : Nat) (f : Nat → Nat) (m : Nat) : Nat := if f (5 * m + 3) < 4 then tb n f (f (5 * m + 3)) else 0
theorem fn_its {n : Nat} {f : Nat → Nat} {m : Nat} (w : Nat) : fn n f m (w &&& itn n f m) = fn n f m w := by
  unfold fn
  by_cases c : f (5 * m + 3) < 4
  · rw [fi_agree (w' := w) c n (fun j hj ht => ?_) m rfl]
    unfold itn tb
    rw [if_pos c, Nat.testBit_and, bs_bit, decide_eq_true hj, decide_eq_true ht]
    simp
  · rw [fi_wan c, fi_wan c]
theorem itn_256 {n : Nat} (hn : n ≤ 8) (f : Nat → Nat) (m : Nat) : itn n f m < 256 := by
  unfold itn
  split
  · exact bs_256 _ hn
  · decide
theorem itn_lt (n : Nat) (f : Nat → Nat) (m : Nat) : itn n f m < 2 ^ n := by
  unfold itn
  split
  · exact bs_lt _ _
  · exact Nat.pow_pos (by decide)
def ctm (n : Nat) (f : Nat → Nat) (m w : Nat) : Nat := if tb_wo w (itn n f m) = 0 then pd (cf n f (itn n f m) w) n * fn n f m w else 0
def rtm (n : Nat) (f : Nat → Nat) (m w : Nat) : Nat := pd (fun j => prb (od n f) j (w.testBit j)) n * fn n f m w
theorem low_mul (a b k w : Nat) (hk : 0 < k) : low (k * a) (k * b) w = low a b w := by
  unfold low
  rw [Nat.gcd_mul_left, Nat.mul_div_mul_left _ _ hk, Nat.mul_div_mul_left _ _ hk]
theorem sm_tail {g : Nat → Nat} {a b : Nat} (hab : a ≤ b) (h0 : ∀ i, a ≤ i → i < b → g i = 0) : sm g b = sm g a := by
  rw [show b = a + (b - a) by omega, sm_app]
  have := sm_le (g := fun i => g (a + i)) (c := 0) (n := b - a) (fun i hi => by rw [h0 (a + i) (by omega) (by omega)]; exact Nat.le_refl _)
  omega
theorem mean_eq {n : Nat} (hn : n ≤ 8) (f : Nat → Nat) (m w : Nat) : low (sm (rtm n f m) (2 ^ n)) (10 ^ n) w = low (sm (ctm n f m) 256) (10 ^ pc8 (itn n f m)) w := by
  have e1 : sm (rtm n f m) (2 ^ n) = sm (fun w => pd (fun j => prb (od n f) j (w.testBit j)) n * fn n f m (w &&& itn n f m)) (2 ^ n) := sm_cong (fun i _ => by unfold rtm; rw [fn_its])
  have e2 : sm (ctm n f m) 256 = sm (ctm n f m) (2 ^ n) := sm_tail (Nat.pow_le_pow_right (n := 2) (by decide) hn) (fun i h1 _ => by
    unfold ctm
    refine if_neg (fun q => ?_)
    rw [wo_zero] at q
    have hlt : i < 2 ^ n := Nat.lt_pow_two_of_testBit _ (fun k hk => by
      cases c : i.testBit k
      · rfl
      · have h2 := q k c
        rw [Nat.testBit_lt_two_pow (Nat.lt_of_lt_of_le (itn_lt n f m) (Nat.pow_le_pow_right (by decide) hk))] at h2
        exact absurd h2 (by decide))
    omega)
  have e3 := mean_sum (od n f) (fun j => Nat.le_trans (od_le n f j) (by decide)) (itn n f m) n (fn n f m)
  have e4 : sm (fun w => if tb_wo w (itn n f m) = 0 then pd (fun j => if (itn n f m).testBit j = true then prb (od n f) j (w.testBit j) else 1) n * fn n f m w else 0) (2 ^ n) = sm (ctm n f m) (2 ^ n) := rfl
  have e5 : 10 ^ n = 10 ^ sm (fun j => tb_b (!(itn n f m).testBit j)) n * 10 ^ pc8 (itn n f m) := by
    rw [← Nat.pow_add]
    congr 1
    have hp : pc8 (itn n f m) = sm (fun j => tb_b ((itn n f m).testBit j)) n := pc8_of hn (fun i _ => by
      by_cases c : i < n
      · simp [c]
      · rw [Nat.testBit_lt_two_pow (Nat.lt_of_lt_of_le (itn_lt n f m) (Nat.pow_le_pow_right (by decide) (Nat.le_of_not_lt c)))]
        simp [c])
    rw [hp, ← sm_add]
    have : ∀ k, sm (fun i => tb_b (!(itn n f m).testBit i) + tb_b ((itn n f m).testBit i)) k = k := by
      intro k
      induction k with
      | zero => rfl
      | succ k ih => rw [sm_s, ih]; cases (itn n f m).testBit k <;> rfl
    exact (this n).symm
  rw [e1, e3, e4, e5, e2, low_mul _ _ _ _ (Nat.pow_pos (by decide))]
def a_mean (n : Nat) (f : Nat → Nat) (m w : Int32) : Int64 := if (isM n m && isM 2 w) = true then lN (low (sm (ctm n f (ix m)) 256) (10 ^ pc8 (itn n f (ix m))) (ix w)) else -1
theorem fn_le {n : Nat} {f : Nat → Nat} (g : GD n f) {m : Nat} (hm : m < n) (w : Nat) : fn n f m w ≤ 99 := by
  have := (g.2.1 m hm).2.2.1
  unfold fn gd
  omega
theorem ctm_sum {n : Nat} {f : Nat → Nat} (g : GD n f) {m : Nat} (hm : m < n) : sm (ctm n f m) 256 < 2 ^ 63 := by
  have hn := g.1
  refine Nat.lt_of_le_of_lt (sm_le (c := 100000000 * 99) (fun w _ => ?_)) (by decide)
  unfold ctm
  split
  · exact Nat.mul_le_mul (Nat.le_trans (pd_le (by decide) (fun k _ => cf_le n f (itn n f m) w k)) (pow10_lt hn)) (fn_le g hm w)
  · exact Nat.zero_le _
theorem rtm_sum {n : Nat} {f : Nat → Nat} (g : GD n f) {m : Nat} (hm : m < n) : sm (rtm n f m) (2 ^ n) < 2 ^ 63 := by
  have hn := g.1
  have h8 : 2 ^ n ≤ 2 ^ 8 := Nat.pow_le_pow_right (by decide) hn
  have h1 := sm_le (g := rtm n f m) (c := 100000000 * 99) (n := 2 ^ n) (fun w _ => by
    unfold rtm
    refine Nat.mul_le_mul (Nat.le_trans (pd_le (by decide) (fun k _ => ?_)) (pow10_lt hn)) (fn_le g hm w)
    have := od_le n f k
    unfold prb
    split <;> omega)
  have h2 := Nat.mul_le_mul_right (100000000 * 99) h8
  omega
section MEAN
variable {scr : List Int32} {d : Nat} {h : ev_H} {n : Nat} {f : Nat → Nat} {x : Nat → Int32} {q : Nat → Int32} {im : Nat → Int32}
theorem k_mean (hC : CO h x) (hT : TA h 1 n f) (hL : TL h) (g : GD n f) {m w : Int32} (hd : 5 ≤ d) : ev_X scr d cd_X5_mean 0 [.ref 0, .int m, .int w, .float 0, .float 0, .float 0, .float 0, .float 0, .float 0] [] h (CQ h n f (.long (a_mean n f m w))) := by
  have hn := g.1
  unfold a_mean
  refine ex_go 80 rfl ?_
  refine ex_getf rfl hC rfl rfl ?_
  refine ex_go 80 rfl ?_
  refine ex_cv rfl rfl rfl rfl hT.1 rfl (d' := 0) (by omega) (c_hasMan hT hn) ?_
  cases hmn : isM n m
  · refine ex_zeqT rfl (by decide) ?_
    refine ex_go 80 rfl ?_
    exact ex_lret rfl (cq_s hT hL)
  · obtain ⟨i, hi, rfl⟩ := isM_of hmn (by omega)
    refine ex_zeqF rfl (by decide) ?_
    refine ex_go 80 rfl ?_
    refine ex_cs rfl rfl rfl (d' := 0) (by omega) (c_isWithin (k := 1) (by decide)) ?_
    show ev_X scr d cd_X5_mean _ _ [.int (nI (tb_b (isM 2 w)))] _ _
    cases hw : isM 2 w
    · refine ex_zneF rfl (by decide) ?_
      refine ex_go 80 rfl ?_
      exact ex_lret rfl (cq_s hT hL)
    · obtain ⟨j, hj, rfl⟩ := isM_of hw (by omega)
      rw [ix_nI (by omega), ix_nI (by omega), Bool.true_and, if_pos rfl]
      have hx := itn_256 hn f i
      have rest : ev_X scr d cd_X5_mean 27 [.ref 0, .int (nI i), .int (nI j), .float 0, .float 0, .float 0, .float 0, .float 0, .float 0] [.int (nI (itn n f i))] h (CQ h n f (.long (lN (low (sm (ctm n f i) 256) (10 ^ pc8 (itn n f i)) j)))) := by
        obtain ⟨n2, f2, hR⟩ := hL
        refine ex_go 80 rfl ?_
        refine ex_getf rfl hC rfl rfl ?_
        refine ex_go 80 rfl ?_
        refine ex_getf rfl hC rfl rfl ?_
        refine ex_cvx rfl rfl rfl rfl hR.1 rfl (d' := 1) (by omega) (c_copyFrom hR hT (by decide) rfl (Nat.le_refl _)) ?_
        rintro v1 h1 ⟨rfl, hR1, hF1⟩
        rw [← wg_gdf f] at hR1
        refine ex_go 80 rfl ?_
        refine ev_loop 256 (fun X => ∀ u h2 tl, (tl = [.float 0, .float 0] ∨ ∃ r, tl = [.long r, .double 0]) → TA h2 10 n (wg f u) → FR 10 (10 + 8) h h2 → ev_X scr d cd_X5_mean 37 (.ref 0 :: .int (nI i) :: .int (nI j) :: .int (nI (itn n f i)) :: .long (lN (sm (ctm n f i) X)) :: .double 0 :: .int (nI X) :: tl) [] h2 (CQ h n f (.long (lN (low (sm (ctm n f i) 256) (10 ^ pc8 (itn n f i)) j))))) (fun X hX K u h2 tl htl hR2 hF2 => ?_) (fun u h2 tl htl hR2 hF2 => ?_) (gd f) h1 _ (Or.inl rfl) hR1 hF1
        · have hC2 := (hF2.2 0 (by decide)).trans hC
          have hT2 := hT.kept hF2 (by decide)
          rw [sm_s] at K
          have tail : ∀ c : Nat, c = (if tb_wo X (itn n f i) = 0 then pd (cf n f (itn n f i) X) n else 0) → ev_X scr d cd_X5_mean 54 (.ref 0 :: .int (nI i) :: .int (nI j) :: .int (nI (itn n f i)) :: .long (lN (sm (ctm n f i) X)) :: .double 0 :: .int (nI X) :: tl) [.long (lN c)] h2 (CQ h n f (.long (lN (low (sm (ctm n f i) 256) (10 ^ pc8 (itn n f i)) j)))) := by
            intro c hcc
            have hcl : c ≤ 100000000 := by
              rw [hcc]
              split
              · exact Nat.le_trans (pd_le (by decide) (fun k _ => cf_le n f (itn n f i) X k)) (pow10_lt hn)
              · exact Nat.zero_le _
            have ect : ctm n f i X = c * fn n f i X := by
              rw [hcc]
              unfold ctm
              split
              · rfl
              · rw [Nat.zero_mul]
            have T : ev_X scr d cd_X5_mean 55 [.ref 0, .int (nI i), .int (nI j), .int (nI (itn n f i)), .long (lN (sm (ctm n f i) X)), .double 0, .int (nI X), .long (lN c), .double 0] [] h2 (CQ h n f (.long (lN (low (sm (ctm n f i) 256) (10 ^ pc8 (itn n f i)) j)))) := by
              rw [ect] at K
              refine ex_go 80 rfl ?_
              try dsimp only
              try simp only [nI_inc, nI_1, nI_add, nI_mul2, tb_and, tb_or, tb_andn]
              refine ex_zeq rfl (fun hc => ?_) (fun hc => ?_)
              · rw [lg_cmp_eq] at hc
                have h0 : c = 0 := (pk_lEQ (b := 0) (by omega) (by decide)).mp hc
                rw [h0, Nat.zero_mul, Nat.add_zero] at K
                rw [h0]
                refine ex_go 80 rfl ?_
                try dsimp only
                try simp only [nI_inc, nI_1, nI_add, nI_mul2, tb_and, tb_or, tb_andn]
                exact K u h2 _ (Or.inr ⟨_, rfl⟩) hR2 hF2
              · refine ex_go 80 rfl ?_
                refine ex_cvx rfl rfl rfl rfl hC2 rfl (d' := 4) (by omega) (c_finesOnTrial hC2 hT2 hR2 g hi (by omega) (Nat.le_refl _)) ?_
                rintro v3 h3 ⟨rfl, hR3, hF3⟩
                refine ex_go 80 rfl ?_
                dsimp only
                have hfl := fn_le g hi X
                rw [show gd f i - (fi n f X (gd f) n).1 i = fn n f i X from rfl, nI_l (Nat.lt_of_le_of_lt hfl (by decide)), lN_mul, lN_add, nI_inc]
                exact K _ h3 _ (Or.inr ⟨_, rfl⟩) hR3 (hF2.tr hF3)
            rcases htl with rfl | ⟨r, rfl⟩
            · exact ex_go 1 rfl T
            · exact ex_go 1 rfl T
          refine ex_nop rfl ?_
          refine ex_go 80 rfl ?_
          refine ex_igeF rfl (nI_ge hX (by decide)) ?_
          refine ex_go 80 rfl ?_
          try dsimp only
          try simp only [nI_inc, nI_1, nI_add, nI_mul2, tb_and, tb_or, tb_andn]
          have hwl : tb_wo X (itn n f i) < 2 ^ 32 := Nat.lt_of_le_of_lt (tb_wo_le _ _) (by omega)
          refine ex_zne rfl (fun hc => ?_) (fun hc => ?_)
          · rw [nI_z hwl] at hc
            refine ex_go 1 rfl ?_
            exact tail 0 (by rw [if_neg hc])
          · rw [nI_z hwl] at hc
            refine ex_go 80 rfl ?_
            refine ex_getf rfl hC2 rfl rfl ?_
            refine ex_go 80 rfl ?_
            refine ex_cv rfl rfl rfl rfl hT2.1 rfl (d' := 4) (by omega) (c_chanceOf hT2 g (by omega) (by omega) (Nat.le_refl _)) ?_
            refine ex_go 1 rfl ?_
            exact tail _ (by rw [if_pos hc])
        · have hC2 := (hF2.2 0 (by decide)).trans hC
          have hq := pow10_lt (pc8_le (itn n f i))
          have hq0 : 0 < 10 ^ pc8 (itn n f i) := Nat.pow_pos (by decide)
          refine ex_nop rfl ?_
          refine ex_go 80 rfl ?_
          refine ex_igeT rfl (nI_le (Nat.le_refl 256) (by decide)) ?_
          refine ex_go 80 rfl ?_
          refine ex_cs rfl rfl rfl (d' := 1) (by omega) (c_tenthsOf hx (Nat.le_refl _)) ?_
          refine ex_go 80 rfl ?_
          refine ex_cs rfl rfl rfl (d' := 1) (by omega) (c_inLowestTerms (ctm_sum g hi) (by omega) hq0 hj (Nat.le_refl _)) ?_
          exact ex_lret rfl (cq_r hT hR2 hF2)
      refine ex_zneT rfl (by decide) ?_
      refine ex_go 80 rfl ?_
      refine ex_getf rfl hC rfl rfl ?_
      refine ex_getf rfl hT.1 rfl rfl ?_
      refine ex_go 80 rfl ?_
      refine ex_ia _ rfl hT.2.2.2.2.1 rfl (by first | exact trivial | assumption | (show _ < _; omega)) (by omega) (by omega) rfl ?_
      refine ex_zge rfl (fun hc => ?_) (fun hc => ?_)
      · have ht : f (5 * i + 3) < 4 := Classical.not_not.mp (fun q => absurd hc (Int32.not_le.mpr ((tv_neg _).mpr q)))
        refine ex_go 80 rfl ?_
        refine ex_getf rfl hC rfl rfl ?_
        refine ex_go 80 rfl ?_
        refine ex_getf rfl hC rfl rfl ?_
        refine ex_getf rfl hT.1 rfl rfl ?_
        refine ex_go 80 rfl ?_
        refine ex_ia _ rfl hT.2.2.2.2.1 rfl (by first | exact trivial | assumption | (show _ < _; omega)) (by omega) (by omega) rfl ?_
        rw [tv_lt ht]
        refine ex_cv rfl rfl rfl rfl hT.1 rfl (d' := 0) (by omega) (c_menOfTen hT hn ht) ?_
        rw [show bs (fun m => decide (f (5 * m + 3) = f (5 * i + 3))) n = itn n f i from (if_pos ht).symm]
        exact rest
      · have ht := (tv_neg _).mp (Int32.not_le.mp hc)
        have e0 : itn n f i = 0 := if_neg ht
        rw [e0] at rest
        refine ex_go 2 rfl ?_
        rw [e0]
        exact rest
theorem r_mean (hM : MO h n q) (hS : ST h f im) (hR : RS h) (g : GD n f) {m w : Int32} (hd : 4 ≤ d) : ev_X scr d cd_X6_mean 0 [.ref 57, .int m, .int w, .float 0, .float 0, .float 0, .float 0, .float 0, .float 0, .float 0, .float 0] [] h (RQ h f im (.long (a_mean n f m w))) := by
  have hn := g.1
  have h8 : 2 ^ n ≤ 2 ^ 8 := Nat.pow_le_pow_right (by decide) hn
  unfold a_mean
  refine ex_go 80 rfl ?_
  refine ex_cv rfl rfl rfl rfl hM rfl (d' := 1) (by omega) (c_isMan hM hn (Nat.le_refl _)) ?_
  cases hmn : isM n m
  · refine ex_zeqT rfl (by decide) ?_
    refine ex_go 80 rfl ?_
    exact ex_lret rfl (rq_s hS hR)
  · obtain ⟨i, hi, rfl⟩ := isM_of hmn (by omega)
    refine ex_zeqF rfl (by decide) ?_
    refine ex_go 80 rfl ?_
    refine ex_cs rfl rfl rfl (d' := 1) (by omega) (c_isPart (Nat.le_refl _)) ?_
    cases hw : isM 2 w
    · refine ex_zneF rfl (by decide) ?_
      refine ex_go 80 rfl ?_
      exact ex_lret rfl (rq_s hS hR)
    · obtain ⟨j, hj, rfl⟩ := isM_of hw (by omega)
      rw [ix_nI (by omega), ix_nI (by omega), Bool.true_and, if_pos rfl, ← mean_eq hn]
      refine ex_zneT rfl (by decide) ?_
      refine ex_go 80 rfl ?_
      refine ex_cvx rfl rfl rfl rfl hM rfl (d' := 2) (by omega) (c_findOdds hM hS hR.1 hR.2.2 g (Nat.le_refl _)) ?_
      rintro v1 h1 ⟨rfl, hA1, hO1, h65, hX1⟩
      have hM1 : MO h1 n q := (hX1.2 57 (by decide) (by decide) (by decide)).trans hM
      have hS1 : ST h1 f im := hS.kept (hX1.2 58 (by decide) (by decide) (by decide))
      have hI1 : LA h1 65 8 := hR.2.1.kept h65
      refine ex_go 80 rfl ?_
      refine ev_loop n (fun k => ev_X scr d cd_X6_mean 17 [.ref 57, .int (nI i), .int (nI j), .long (lN 0), .double 0, .long (lN (10 ^ k)), .double 0, .int (nI k), .float 0, .float 0, .float 0] [] h1 _) (fun k hk K => ?_) ?_
      · refine ex_nop rfl ?_
        refine ex_go 80 rfl ?_
        refine ex_getf rfl hM1 rfl rfl ?_
        refine ex_igeF rfl (nI_ge hk (by omega)) ?_
        refine ex_go 80 rfl ?_
        dsimp only
        rw [show (10 : Int64) = lN 10 from rfl, lN_mul, nI_inc]
        exact K
      · refine ex_nop rfl ?_
        refine ex_go 80 rfl ?_
        refine ex_getf rfl hM1 rfl rfl ?_
        refine ex_igeT rfl (nI_le (Nat.le_refl _) (by first | omega | decide)) ?_
        refine ex_go 80 rfl ?_
        refine ev_loop (2 ^ n) (fun X => ∀ h2 tl, (tl = [.float 0, .float 0, .float 0] ∨ ∃ r z, tl = [.long r, .double 0, .int z]) → LA h2 59 57 → LA h2 65 8 → RZ h1 h2 → ev_X scr d cd_X6_mean 30 (.ref 57 :: .int (nI i) :: .int (nI j) :: .long (lN (sm (rtm n f i) X)) :: .double 0 :: .long (lN (10 ^ n)) :: .double 0 :: .int (nI X) :: tl) [] h2 (RQ h f im (.long (lN (low (sm (rtm n f i) (2 ^ n)) (10 ^ n) j))))) (fun X hX K h2 tl htl hL2 hI2 hZ2 => ?_) (fun h2 tl htl hL2 hI2 hZ2 => ?_) h1 _ (Or.inl rfl) hA1.la hI1 RZ.rf
        · have hM2 := hZ2.mo hM1
          have hS2 := hS1.z hZ2
          have hO2 := hO1.rz hZ2 (by decide) (by decide)
          rw [sm_s] at K
          have T : ev_X scr d cd_X6_mean 41 [.ref 57, .int (nI i), .int (nI j), .long (lN (sm (rtm n f i) X)), .double 0, .long (lN (10 ^ n)), .double 0, .int (nI X), .long (lN 1), .double 0, .int (nI 0)] [] h2 (RQ h f im (.long (lN (low (sm (rtm n f i) (2 ^ n)) (10 ^ n) j)))) := by
            refine ev_loop n (fun k => ev_X scr d cd_X6_mean 41 [.ref 57, .int (nI i), .int (nI j), .long (lN (sm (rtm n f i) X)), .double 0, .long (lN (10 ^ n)), .double 0, .int (nI X), .long (lN (pd (fun j => prb (od n f) j (X.testBit j)) k)), .double 0, .int (nI k)] [] h2 _) (fun k hk K2 => ?_) ?_
            · have hol := od_le n f k
              rw [pd] at K2
              refine ex_nop rfl ?_
              refine ex_go 80 rfl ?_
              refine ex_getf rfl hM2 rfl rfl ?_
              refine ex_igeF rfl (nI_ge hk (by omega)) ?_
              refine ex_go 80 rfl ?_
              try dsimp only
              try simp only [nI_inc, nI_1, nI_add, nI_mul2, tb_and, tb_or, tb_andn, nI_x5, nI_x2, nI_p0, nI_p2, nI_p3, nI_p4, nI_q45]
              refine ex_ine rfl (fun hc => ?_) (fun hc => ?_)
              · rw [tb_b1' (by omega) (by omega)] at hc
                have hb : X.testBit k = false := by simpa using hc
                rw [hb] at K2
                refine ex_go 80 rfl ?_
                refine ex_getf rfl hM2 rfl rfl ?_
                refine ex_go 80 rfl ?_
                refine ex_ia _ rfl hO2 rfl (by first | exact trivial | assumption | (show _ < _; omega)) (by omega) (by omega) rfl ?_
                refine ex_go 80 rfl ?_
                try dsimp only
                try simp only [nI_inc, nI_1, nI_add, nI_mul2, tb_and, tb_or, tb_andn, nI_x5, nI_x2, nI_p0, nI_p2, nI_p3, nI_p4, nI_q45]
                rw [show (10 : Int32) = nI 10 from rfl, pk_sub (by omega), nI_l (by omega), lN_mul]
                exact K2
              · rw [tb_b1' (by omega) (by omega)] at hc
                rw [hc] at K2
                refine ex_go 80 rfl ?_
                refine ex_getf rfl hM2 rfl rfl ?_
                refine ex_go 80 rfl ?_
                refine ex_ia _ rfl hO2 rfl (by first | exact trivial | assumption | (show _ < _; omega)) (by omega) (by omega) rfl ?_
                refine ex_go 80 rfl ?_
                try dsimp only
                try simp only [nI_inc, nI_1, nI_add, nI_mul2, tb_and, tb_or, tb_andn, nI_x5, nI_x2, nI_p0, nI_p2, nI_p3, nI_p4, nI_q45]
                rw [nI_l (by omega), lN_mul]
                exact K2
            · skip
              refine ex_nop rfl ?_
              refine ex_go 80 rfl ?_
              refine ex_getf rfl hM2 rfl rfl ?_
              refine ex_igeT rfl (nI_le (Nat.le_refl _) (by first | omega | decide)) ?_
              refine ex_go 80 rfl ?_
              refine ex_cvx rfl rfl rfl rfl hM2 rfl (d' := 0) (by omega) (c_starts hM2 hS2 hL2) ?_
              rintro v3 h3 ⟨rfl, hA3, hB3⟩
              have hM3 := hB3.mo hM2 (by decide)
              have hI3 := hI2.sb hB3 (by decide)
              rw [← wg_gdf f] at hA3
              refine ex_go 80 rfl ?_
              refine ex_cvx rfl rfl rfl rfl hM3 rfl (d' := 3) (by omega) (c_yearGoes hM3 hA3 hI3 g.p (gd_lt g) (by omega) (Nat.le_refl _)) ?_
              rintro v4 h4 ⟨rfl, hA4, hFi4, hZ4⟩
              have hM4 := hZ4.mo hM3
              refine ex_go 80 rfl ?_
              refine ex_getf rfl hM4 rfl rfl ?_
              refine ex_go 80 rfl ?_
              refine ex_ia _ rfl hFi4 rfl (by first | exact trivial | assumption | (show _ < _; omega)) (by omega) (by omega) rfl ?_
              refine ex_go 80 rfl ?_
              try dsimp only
              try simp only [nI_inc, nI_1, nI_add, nI_mul2, tb_and, tb_or, tb_andn, nI_x5, nI_x2, nI_p0, nI_p2, nI_p3, nI_p4, nI_q45]
              have hfl := fn_le g hi X
              show ev_X scr d cd_X6_mean _ [.ref 57, .int (nI i), .int (nI j), .long (lN (sm (rtm n f i) X) + lN (pd (fun j => prb (od n f) j (X.testBit j)) n) * (nI (fn n f i X)).toInt64), .double 0, .long (lN (10 ^ n)), .double 0, .int (nI (X + 1)), _, _, _] _ _ _
              rw [nI_l (Nat.lt_of_le_of_lt hfl (by decide)), lN_mul, lN_add]
              exact K h4 _ (Or.inr ⟨_, _, rfl⟩) hA4.la hFi4.la (hZ2.tr (hB3.rz9.tr hZ4))
          refine ex_nop rfl ?_
          refine ex_go 80 rfl ?_
          refine ex_getf rfl hM2 rfl rfl ?_
          refine ex_go 80 rfl ?_
          try dsimp only
          try simp only [nI_inc, nI_1, nI_add, nI_mul2, tb_and, tb_or, tb_andn, nI_x5, nI_x2, nI_p0, nI_p2, nI_p3, nI_p4, nI_q45]
          rw [tb_sh1 n (by omega)]
          refine ex_igeF rfl (nI_ge hX (by omega)) ?_
          rcases htl with rfl | ⟨r, z, rfl⟩
          · exact ex_go 80 rfl T
          · exact ex_go 80 rfl T
        · have hM2 := hZ2.mo hM1
          have hS2 := hS1.z hZ2
          have hO2 := hO1.rz hZ2 (by decide) (by decide)
          have hq := pow10_lt hn
          have hq0 : 0 < 10 ^ n := Nat.pow_pos (by decide)
          refine ex_nop rfl ?_
          refine ex_go 80 rfl ?_
          refine ex_getf rfl hM2 rfl rfl ?_
          refine ex_go 80 rfl ?_
          try dsimp only
          try simp only [nI_inc, nI_1, nI_add, nI_mul2, tb_and, tb_or, tb_andn, nI_x5, nI_x2, nI_p0, nI_p2, nI_p3, nI_p4, nI_q45]
          rw [tb_sh1 n (by omega)]
          refine ex_igeT rfl (nI_le (Nat.le_refl _) (by omega)) ?_
          refine ex_go 80 rfl ?_
          refine ex_cs rfl rfl rfl (d' := 1) (by omega) (c_told (rtm_sum g hi) (by omega) hq0 hj (Nat.le_refl _)) ?_
          exact ex_lret rfl (⟨rfl, hS2, ⟨hL2, hI2, hO2.la⟩, hX1.ry.tr hZ2.ry⟩)
end MEAN
