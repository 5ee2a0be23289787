/-! text: all lines; what the class does with them. -/
def pHh (w hg : Nat) (N : Nat → Nat) : Nat := if w = 7 then max (max hg (N 0 + 1)) (N 1 + 1) else hg
def hIg (hg : Nat) : Int32 := if hg = 0 then -4 else nI (hg - 1)
def f0F : Nat → Nat := fun j => if j < 40 ∧ j % 5 = 3 then 4 else clF j
def INVt (n : Nat) (f : Nat → Nat) (mt km hg : Nat) : Prop := GD n f ∧ mt < 16 ∧ km < 256 ∧ (∀ j, km.testBit j = true → j < hg) ∧ (0 < hg → km.testBit (hg - 1) = true) ∧ hg ≤ 8
def txS (tp : Nat → Nat) (tl : Nat) : Nat → Sum (Nat × Nat) Nat → Nat → (Nat → Nat) → Bool → Bool → Nat → Nat → Nat → Sum (Nat × Nat) Nat × Nat × (Nat → Nat) × Nat × Nat
  | 0, s, n, f, _, _, _, km, k => (s, n, f, km, k)
  | _ + 1, .inl e, n, f, _, _, _, km, k => (.inl e, n, f, km, k)
  | m + 1, .inr p, n, f, ft, wt, mt, km, k => if tK tp tl p = 0 then (.inr p, n, f, km, k) else txS tp tl m (nxS tp tl (lnS tp tl n ft wt mt p)) (pNn (lwS tp tl p) n) (pFf (lwS tp tl p) n f (nbS tp tl n ft wt mt p)) (ft || decide (lwS tp tl p = 4)) (wt || decide (lwS tp tl p = 5)) (pMm (lwS tp tl p) mt (nbS tp tl n ft wt mt p)) (pKk (lwS tp tl p) km (nbS tp tl n ft wt mt p)) (k + 1)
def ftk (n : Nat) (f : Nat → Nat) : Nat → Bool
  | 0 => true
  | t + 1 => ftk n f t && decide (sz n f t ≤ f (60 + t))
theorem ftk_t {n : Nat} {f : Nat → Nat} : ∀ k, ftk n f k = true → ∀ t, t < k → sz n f t ≤ f (60 + t)
  | 0, _, t, ht => absurd ht (Nat.not_lt_zero t)
  | k + 1, h, t, ht => by
    rw [ftk, Bool.and_eq_true, decide_eq_true_eq] at h
    by_cases c : t = k
    · rw [c]; exact h.2
    · exact ftk_t k h.1 t (by omega)
theorem ftk_f {n : Nat} {f : Nat → Nat} {t : Nat} (hc : ¬ sz n f t ≤ f (60 + t)) : ∀ k, t < k → ftk n f k = false
  | 0, ht => absurd ht (Nat.not_lt_zero t)
  | k + 1, ht => by
    rw [ftk]
    by_cases c : t = k
    · rw [← c, decide_eq_false hc, Bool.and_false]
    · rw [ftk_f hc k (by omega), Bool.false_and]
def vdE (tl n : Nat) (f : Nat → Nat) (km r : Nat) : Sum (Nat × Nat) Nat := if km < 2 ^ n then (if ftk n f 4 = true then .inr r else .inl (7, tl)) else .inl (6, tl)
def vdS (tl : Nat) (R : Sum (Nat × Nat) Nat × Nat × (Nat → Nat) × Nat × Nat) : Sum (Nat × Nat) Nat := match R.1 with
  | .inl e => .inl e
  | .inr r => vdE tl R.2.1 R.2.2.1 R.2.2.2.1 r
section TLOOP
variable {tp : Nat → Nat} {tl n mt km hg p r : Nat} {f : Nat → Nat} {ft wt : Bool}
theorem txS_l {m k : Nat} {e : Nat × Nat} : txS tp tl m (.inl e) n f ft wt mt km k = (.inl e, n, f, km, k) := by
  cases m <;> rfl
theorem txS_0 {m k : Nat} (h0 : tK tp tl p = 0) : txS tp tl m (.inr p) n f ft wt mt km k = (.inr p, n, f, km, k) := by
  cases m with
  | zero => rfl
  | succ m => rw [txS, if_pos h0]
theorem txS_s {m k : Nat} (h0 : ¬ tK tp tl p = 0) : txS tp tl (m + 1) (.inr p) n f ft wt mt km k = txS tp tl m (nxS tp tl (lnS tp tl n ft wt mt p)) (pNn (lwS tp tl p) n) (pFf (lwS tp tl p) n f (nbS tp tl n ft wt mt p)) (ft || decide (lwS tp tl p = 4)) (wt || decide (lwS tp tl p = 5)) (pMm (lwS tp tl p) mt (nbS tp tl n ft wt mt p)) (pKk (lwS tp tl p) km (nbS tp tl n ft wt mt p)) (k + 1) := by
  rw [txS, if_neg h0]
theorem csS_p {w q : Nat} (hp : p ≤ tl) : ∀ i q, csS tp tl w mt (.inr p) i = .inr q → p ≤ q ∧ q ≤ tl
  | 0, q, h => by
    cases h
    exact ⟨Nat.le_refl _, hp⟩
  | i + 1, q, h => by
    obtain ⟨h1, _⟩ := lkC_r h
    obtain ⟨p', hp', he, _⟩ := nxS_r h1
    obtain ⟨a1, a2⟩ := csS_p (w := w) (q := q) hp i p' hp'
    obtain ⟨b1, b2⟩ := tS_le (tp := tp) a2
    obtain ⟨c1, c2⟩ := tE_le (tp := tp) a2
    omega
theorem hdS_r {q : Nat} (h : hdS tp tl n ft wt p = .inr q) : q = p ∧ ¬ lwS tp tl p = 8 ∧ ¬ ((lwS tp tl p = 4 ∧ ft = true) ∨ (lwS tp tl p = 5 ∧ wt = true)) ∧ ¬ (lwS tp tl p ≤ 3 ∧ 8 ≤ n) := by
  unfold hdS at h
  by_cases c8 : lwS tp tl p = 8
  · rw [if_pos c8] at h; cases h
  · rw [if_neg c8] at h
    by_cases c4 : (lwS tp tl p = 4 ∧ ft = true) ∨ (lwS tp tl p = 5 ∧ wt = true)
    · rw [if_pos c4] at h; cases h
    · rw [if_neg c4] at h
      by_cases c3 : lwS tp tl p ≤ 3 ∧ 8 ≤ n
      · rw [if_pos c3] at h; cases h
      · rw [if_neg c3] at h
        cases h
        exact ⟨rfl, c8, c4, c3⟩
theorem lwS_8 : lwS tp tl p ≤ 8 := by
  unfold lwS
  split
  · exact wd_le
  · decide
theorem ln_ok (hp : p ≤ tl) (h : lnS tp tl n ft wt mt p = .inr r) : lwS tp tl p < 8 ∧ (lwS tp tl p ≤ 3 → n < 8) ∧ (∀ i, i < nmL (lwS tp tl p) → nbS tp tl n ft wt mt p i ≤ hiL.getD (3 * lwS tp tl p + i) 0 ∧ loL.getD (3 * lwS tp tl p + i) 0 ≤ nbS tp tl n ft wt mt p i) ∧ (lwS tp tl p = 7 → nbS tp tl n ft wt mt p 0 ≠ nbS tp tl n ft wt mt p 1) ∧ tK tp tl r = 3 ∧ r ≤ tl ∧ p < tE tp tl r ∧ tE tp tl r ≤ tl := by
  have h8 : lwS tp tl p ≤ 8 := lwS_8
  cases hh : hdS tp tl n ft wt p with
  | inl e => rw [lnS_l hh] at h; cases h
  | inr q =>
    obtain ⟨rfl, c8, c4, c3⟩ := hdS_r hh
    have enb : ∀ j, nbS tp tl n ft wt mt q j = vlS tp tl (csS tp tl (lwS tp tl q) mt (.inr q) (j + 1)) := fun j => by
      unfold nbS
      rw [hh]
    unfold lnS at h
    rw [hh] at h
    obtain ⟨h1, b1⟩ := ndS_r h
    rw [decide_eq_true_eq] at b1
    obtain ⟨x, hx, he, ho⟩ := nxS_r h1
    obtain ⟨a1, a2⟩ := csS_p (w := lwS tp tl q) (q := x) hp _ _ hx
    obtain ⟨d1, d2⟩ := tS_le (tp := tp) a2
    obtain ⟨e1, e2⟩ := tE_le (tp := tp) a2
    have hr : r ≤ tl := by omega
    have hs := tE_st hr b1
    obtain ⟨g1, g2⟩ := tE_le (tp := tp) hr
    refine ⟨by omega, fun z => by omega, fun i hi => ?_, fun z => ?_, b1, hr, by omega, g2⟩
    · rw [enb]
      exact csS_b hx hi
    · rw [enb, enb]
      rw [z] at hx ⊢
      exact csS_k hx (by decide)
theorem adF_o {k o s t j : Nat} (hj : j < 5 * n ∨ 5 * n + 3 < j) : adF f n k o s t j = f j := by
  unfold adF
  rw [up_ne (by omega), up_ne (by omega), up_ne (by omega), up_ne (by omega)]
theorem GD.add {k o s t : Nat} (g : GD n f) (hn : n < 8) (hk : k ≤ 3) (ho : o ≤ 9) (hs : s ≤ 99) (ht : t ≤ 4) (hkt : k = 3 ↔ t = 4) : GD (n + 1) (adF f n k o s t) := by
  obtain ⟨g1, g2, g3, g4, g5, g6, g7, g8, g9, g10⟩ := g
  have e40 : adF f n k o s t 40 = f 40 := adF_o (by omega)
  have e44 : adF f n k o s t 44 = f 44 := adF_o (by omega)
  have a0 : adF f n k o s t (5 * n) = k := by
    unfold adF
    rw [up_ne (by omega), up_ne (by omega), up_ne (by omega), up_eq]
  have a1 : adF f n k o s t (5 * n + 1) = o := by
    unfold adF
    rw [up_ne (by omega), up_ne (by omega), up_eq]
  have a2 : adF f n k o s t (5 * n + 2) = s := by
    unfold adF
    rw [up_ne (by omega), up_eq]
  have a3 : adF f n k o s t (5 * n + 3) = t := by
    unfold adF
    rw [up_eq]
  refine ⟨by omega, fun m hm => ?_, ?_, by rw [adF_o (by omega)]; exact g4, by rw [adF_o (by omega)]; exact g5, fun m hm => ?_, by rw [adF_o (by omega)]; exact g7, by rw [e44]; exact g8, fun j hj => ?_, fun j hj => by rw [adF_o (by omega)]; exact g10 j hj⟩
  · by_cases c : m = n
    · rw [c, a0, a1, a2, a3, e40]
      refine ⟨hk, ho, hs, ht, hkt, fun z => ?_⟩
      rw [Nat.testBit_lt_two_pow g3] at z
      exact absurd z (by decide)
    · rw [adF_o (by omega), adF_o (by omega), adF_o (by omega), adF_o (by omega), e40]
      exact g2 m (by omega)
  · rw [e40]
    exact Nat.lt_of_lt_of_le g3 (Nat.pow_le_pow_right (by decide) (by omega))
  · by_cases c : m < n
    · rw [adF_o (by omega)]; exact g6 m hm
    · rw [adF_o (by omega)]; exact g6 m hm
  · rw [e44] at hj
    rw [adF_o (by omega), adF_o (by omega)]
    have := g9 j hj
    omega
theorem INVt.line (I : INVt n f mt km hg) (hp : p ≤ tl) (h : lnS tp tl n ft wt mt p = .inr r) : INVt (pNn (lwS tp tl p) n) (pFf (lwS tp tl p) n f (nbS tp tl n ft wt mt p)) (pMm (lwS tp tl p) mt (nbS tp tl n ft wt mt p)) (pKk (lwS tp tl p) km (nbS tp tl n ft wt mt p)) (pHh (lwS tp tl p) hg (nbS tp tl n ft wt mt p)) := by
  obtain ⟨h8, hn8, hb, h7, _⟩ := ln_ok hp h
  generalize nbS tp tl n ft wt mt p = N at *
  generalize lwS tp tl p = w at *
  obtain ⟨g, i2, i3, i4, i5, i6⟩ := I
  rcases w_8 h8 with rfl | rfl | rfl | rfl | rfl | rfl | rfl | rfl
  · exact ⟨g.add (hn8 (by decide)) (by decide) (hb 0 (by decide)).1 (hb 1 (by decide)).1 (Nat.le_succ_of_le (hb 2 (by decide)).1) ⟨fun z => absurd z (by decide), fun z => absurd (hb 2 (by decide)).1 (by rw [z]; decide)⟩, i2, i3, i4, i5, i6⟩
  · exact ⟨g.add (hn8 (by decide)) (by decide) (hb 0 (by decide)).1 (hb 1 (by decide)).1 (Nat.le_succ_of_le (hb 2 (by decide)).1) ⟨fun z => absurd z (by decide), fun z => absurd (hb 2 (by decide)).1 (by rw [z]; decide)⟩, i2, i3, i4, i5, i6⟩
  · exact ⟨g.add (hn8 (by decide)) (by decide) (by decide) (hb 0 (by decide)).1 (Nat.le_succ_of_le (hb 1 (by decide)).1) ⟨fun z => absurd z (by decide), fun z => absurd (hb 1 (by decide)).1 (by rw [z]; decide)⟩, i2, i3, i4, i5, i6⟩
  · exact ⟨g.add (hn8 (by decide)) (by decide) (hb 0 (by decide)).1 (hb 1 (by decide)).1 (by decide) ⟨fun _ => rfl, fun _ => rfl⟩, i2, i3, i4, i5, i6⟩
  · have b0 : N 0 ≤ 99 := (hb 0 (by decide)).1
    refine ⟨?_, i2, i3, i4, i5, i6⟩
    show GD n (up f 41 (N 0))
    exact g.hi (fun j hj => up_ne (by omega)) (by rw [up_eq]; exact b0) (by rw [up_ne (by decide)]; exact g.2.2.2.2.1) (by rw [up_ne (by decide)]; exact g.2.2.2.2.2.2.1) (by rw [up_ne (by decide)]; exact g.2.2.2.2.2.2.2.1) (fun k hk => by rw [up_ne (by decide)] at hk; rw [up_ne (by omega), up_ne (by omega)]; exact g.2.2.2.2.2.2.2.2.1 k hk) (fun t ht => by rw [up_ne (by omega)]; exact g.2.2.2.2.2.2.2.2.2 t ht)
  · have b0 : N 0 ≤ 9 := (hb 0 (by decide)).1
    refine ⟨?_, i2, i3, i4, i5, i6⟩
    show GD n (up f 42 (N 0))
    exact g.hi (fun j hj => up_ne (by omega)) (by rw [up_ne (by decide)]; exact g.2.2.2.1) (by rw [up_eq]; exact b0) (by rw [up_ne (by decide)]; exact g.2.2.2.2.2.2.1) (by rw [up_ne (by decide)]; exact g.2.2.2.2.2.2.2.1) (fun k hk => by rw [up_ne (by decide)] at hk; rw [up_ne (by omega), up_ne (by omega)]; exact g.2.2.2.2.2.2.2.2.1 k hk) (fun t ht => by rw [up_ne (by omega)]; exact g.2.2.2.2.2.2.2.2.2 t ht)
  · have b0 : N 0 ≤ 3 := (hb 0 (by decide)).1
    have b1 : N 1 ≤ 5 := (hb 1 (by decide)).1
    have b2 : 1 ≤ N 1 := (hb 1 (by decide)).2
    refine ⟨?_, ?_, i3, i4, i5, i6⟩
    · show GD n (up f (60 + N 0) (N 1))
      refine g.hi (fun j hj => up_ne (by omega)) (by rw [up_ne (by omega)]; exact g.2.2.2.1) (by rw [up_ne (by omega)]; exact g.2.2.2.2.1) (by rw [up_ne (by omega)]; exact g.2.2.2.2.2.2.1) (by rw [up_ne (by omega)]; exact g.2.2.2.2.2.2.2.1) (fun k hk => ?_) (fun t ht => ?_)
      · rw [up_ne (by omega)] at hk
        have hk6 := g.2.2.2.2.2.2.2.1
        rw [up_ne (by omega), up_ne (by omega)]
        exact g.2.2.2.2.2.2.2.2.1 k hk
      · by_cases c : t = N 0
        · rw [c, up_eq]; omega
        · rw [up_ne (by omega)]; exact g.2.2.2.2.2.2.2.2.2 t ht
    · show mt ||| 2 ^ N 0 < 2 ^ 4
      exact Nat.or_lt_two_pow i2 (Nat.pow_lt_pow_right (by decide) (by omega))
  · have b0 : N 0 ≤ 7 := (hb 0 (by decide)).1
    have b1 : N 1 ≤ 7 := (hb 1 (by decide)).1
    have p0 : 2 ^ N 0 < 2 ^ 8 := Nat.pow_lt_pow_right (by decide) (by omega)
    have p1 : 2 ^ N 1 < 2 ^ 8 := Nat.pow_lt_pow_right (by decide) (by omega)
    have g6 := g.2.2.2.2.2.1
    have eb : ∀ j, (km ||| (2 ^ N 0 ||| 2 ^ N 1)).testBit j = (km.testBit j || (decide (N 0 = j) || decide (N 1 = j))) := fun j => by
      rw [Nat.testBit_or, Nat.testBit_or, Nat.testBit_two_pow, Nat.testBit_two_pow]
    refine ⟨?_, i2, ?_, ?_, ?_, ?_⟩
    · show GD n (kiF f (N 0) (N 1) true)
      unfold kiF
      refine (g.ki (by omega) ?_).ki (by omega) ?_
      · exact Nat.or_lt_two_pow (n := 8) (g6 _ (by omega)) p1
      · exact Nat.or_lt_two_pow (n := 8) (g6 _ (by omega)) p0
    · show km ||| (2 ^ N 0 ||| 2 ^ N 1) < 2 ^ 8
      exact Nat.or_lt_two_pow i3 (Nat.or_lt_two_pow p0 p1)
    · show ∀ j, (km ||| (2 ^ N 0 ||| 2 ^ N 1)).testBit j = true → j < max (max hg (N 0 + 1)) (N 1 + 1)
      intro j hj
      rw [eb, Bool.or_eq_true, Bool.or_eq_true, decide_eq_true_eq, decide_eq_true_eq] at hj
      rcases hj with hj | hj | hj
      · have := i4 j hj
        omega
      · omega
      · omega
    · show 0 < max (max hg (N 0 + 1)) (N 1 + 1) → (km ||| (2 ^ N 0 ||| 2 ^ N 1)).testBit (max (max hg (N 0 + 1)) (N 1 + 1) - 1) = true
      intro _
      rw [eb, Bool.or_eq_true, Bool.or_eq_true, decide_eq_true_eq, decide_eq_true_eq]
      rcases (by omega : N 0 = max (max hg (N 0 + 1)) (N 1 + 1) - 1 ∨ N 1 = max (max hg (N 0 + 1)) (N 1 + 1) - 1 ∨ (0 < hg ∧ max (max hg (N 0 + 1)) (N 1 + 1) = hg)) with c | c | c
      · exact Or.inr (Or.inl c)
      · exact Or.inr (Or.inr c)
      · rw [c.2]
        exact Or.inl (i5 c.1)
    · show max (max hg (N 0 + 1)) (N 1 + 1) ≤ 8
      omega
theorem INVt.kin (I : INVt n f mt km hg) : km < 2 ^ n ↔ hg ≤ n := by
  obtain ⟨g, i2, i3, i4, i5, i6⟩ := I
  constructor
  · intro hk
    by_cases c : 0 < hg
    · have := Nat.ge_two_pow_of_testBit (i5 c)
      have hlt : 2 ^ (hg - 1) < 2 ^ n := Nat.lt_of_le_of_lt this hk
      have := (Nat.pow_lt_pow_iff_right (a := 2) (by decide)).mp hlt
      omega
    · omega
  · intro hk
    refine Nat.lt_pow_two_of_testBit _ (fun i hi => ?_)
    cases hb : km.testBit i
    · rfl
    · have := i4 i hb
      omega
theorem wo_z : tb_wo km (2 ^ n - 1) = 0 ↔ km < 2 ^ n := by
  constructor
  · intro hz
    refine Nat.lt_pow_two_of_testBit _ (fun i hi => ?_)
    have := tb_wo_bit km (2 ^ n - 1) i
    rw [hz, Nat.zero_testBit, Nat.testBit_two_pow_sub_one, decide_eq_false (by omega), Bool.not_false, Bool.and_true] at this
    exact this.symm
  · intro hk
    refine Nat.eq_of_testBit_eq (fun i => ?_)
    rw [tb_wo_bit, Nat.zero_testBit, Nat.testBit_two_pow_sub_one]
    by_cases c : i < n
    · rw [decide_eq_true c, Bool.not_true, Bool.and_false]
    · rw [Nat.testBit_lt_two_pow (Nat.lt_of_lt_of_le hk (Nat.pow_le_pow_right (by decide) (by omega))), Bool.false_and]
theorem f0_gd : INVt 0 f0F 0 0 0 := by
  refine ⟨⟨by decide, fun m hm => absurd hm (Nat.not_lt_zero m), by decide, by decide, by decide, fun m hm => ?_, by decide, by decide, fun k hk => absurd hk (Nat.not_lt_zero k), fun t ht => ?_⟩, by decide, by decide, fun j hj => ?_, fun z => absurd z (by decide), by decide⟩
  · rcases w_8 hm with rfl | rfl | rfl | rfl | rfl | rfl | rfl | rfl <;> decide
  · rcases (by omega : t = 0 ∨ t = 1 ∨ t = 2 ∨ t = 3) with rfl | rfl | rfl | rfl <;> decide
  · rw [Nat.zero_testBit] at hj
    exact absurd hj (by decide)
end TLOOP
