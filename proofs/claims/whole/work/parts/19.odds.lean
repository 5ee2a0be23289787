/-! Odds, harm. -/
theorem sm_ext0 (g : Nat → Nat) (n : Nat) : ∀ k, n ≤ k → sm (fun i => if i < n then g i else 0) k = sm g n
  | 0, h => by rw [Nat.le_zero.mp h]; rfl
  | k + 1, h => by
    by_cases e : n = k + 1
    · rw [e]
      exact sm_cong (fun i hi => if_pos hi)
    · rw [sm, sm_ext0 g n k (by omega), if_neg (by omega), Nat.add_zero]
theorem pc8_of {y n : Nat} {q : Nat → Bool} (hn : n ≤ 8) (h : ∀ i, i < 8 → y.testBit i = (decide (i < n) && q i)) : pc8 y = sm (fun i => tb_b (q i)) n := by
  unfold pc8
  rw [← sm_ext0 _ n 8 hn]
  refine sm_cong (fun i hi => ?_)
  rw [h i hi]
  by_cases hin : i < n
  · simp [hin]
  · simp [hin, tb_b]
theorem pc8_bs (p : Nat → Bool) {n : Nat} (hn : n ≤ 8) : pc8 (bs p n) = sm (fun i => tb_b (p i)) n := pc8_of hn (fun i _ => bs_bit p n i)
theorem pc8_bsa (p : Nat → Bool) {n : Nat} (x : Nat) (hn : n ≤ 8) : pc8 (bs p n &&& x) = sm (fun i => tb_b (p i && x.testBit i)) n := pc8_of hn (fun i _ => by rw [Nat.testBit_and, bs_bit, Bool.and_assoc])
theorem tb_le (b : Bool) : tb_b b ≤ 1 := by cases b <;> decide
theorem and256 {x y : Nat} (hx : x < 256) : x &&& y < 256 := Nat.lt_of_le_of_lt Nat.and_le_left hx
/-- a town as it should be -/
def GD (n : Nat) (f : Nat → Nat) : Prop := n ≤ 8 ∧ (∀ m, m < n → f (5 * m) ≤ 3 ∧ f (5 * m + 1) ≤ 9 ∧ f (5 * m + 2) ≤ 99 ∧ f (5 * m + 3) ≤ 4 ∧ (f (5 * m) = 3 ↔ f (5 * m + 3) = 4) ∧ ((f 40).testBit m = true → f (5 * m + 3) < 4)) ∧ f 40 < 2 ^ n ∧ f 41 ≤ 99 ∧ f 42 ≤ 9 ∧ (∀ m, m < 8 → f (5 * m + 4) < 256) ∧ f 43 ≤ 99 ∧ f 44 ≤ 6 ∧ (∀ k, k < f 44 → f (45 + 2 * k) < n ∧ f (46 + 2 * k) ≤ 99) ∧ (∀ t, t < 4 → 1 ≤ f (60 + t) ∧ f (60 + t) ≤ 5)
theorem GD.w {n : Nat} {f : Nat → Nat} (g : GD n f) : f 40 < 256 := Nat.lt_of_lt_of_le g.2.2.1 (Nat.pow_le_pow_right (by decide) g.1)
/-- how many other quarrelsome ones in his ten -/
def oth (n : Nat) (f : Nat → Nat) (m : Nat) : Nat := sm (fun j => tb_b (decide (j ≠ m) && (decide (f (5 * j + 3) = f (5 * m + 3)) && decide (f (5 * j) = 1)))) n
theorem sm_one {g g' : Nat → Nat} {m : Nat} : ∀ {n : Nat}, m < n → (∀ j, j < n → j ≠ m → g j = g' j) → sm g n + g' m = sm g' n + g m
  | 0, h, _ => absurd h (Nat.not_lt_zero m)
  | n + 1, h, hg => by
    rw [sm, sm]
    by_cases e : m = n
    · subst e
      rw [sm_cong (g := g) (g' := g') (fun i hi => hg i (by omega) (by omega))]
      omega
    · have := sm_one (g := g) (g' := g') (n := n) (by omega) (fun j hj hm => hg j (by omega) hm)
      rw [hg n (by omega) (Ne.symm e)]
      omega
theorem oth_one {n : Nat} {f : Nat → Nat} {m : Nat} (hm : m < n) (hq : f (5 * m) = 1) : sm (fun j => tb_b (decide (f (5 * j + 3) = f (5 * m + 3)) && decide (f (5 * j) = 1))) n = oth n f m + 1 := by
  have h := sm_one (g := fun j => tb_b (decide (f (5 * j + 3) = f (5 * m + 3)) && decide (f (5 * j) = 1))) (g' := fun j => tb_b (decide (j ≠ m) && (decide (f (5 * j + 3) = f (5 * m + 3)) && decide (f (5 * j) = 1)))) hm (fun j _ hj => by simp [hj])
  have e1 : tb_b (decide (m ≠ m) && (decide (f (5 * m + 3) = f (5 * m + 3)) && decide (f (5 * m) = 1))) = 0 := by simp [tb_b]
  have e2 : tb_b (decide (f (5 * m + 3) = f (5 * m + 3)) && decide (f (5 * m) = 1)) = 1 := by simp [tb_b, hq]
  rw [e1, e2, Nat.add_zero] at h
  exact h
theorem oth_le (n : Nat) (f : Nat → Nat) (m : Nat) : oth n f m ≤ n := by
  have := sm_le (g := fun j => tb_b (decide (j ≠ m) && (decide (f (5 * j + 3) = f (5 * m + 3)) && decide (f (5 * j) = 1)))) (c := 1) (n := n) (fun i _ => tb_le _)
  unfold oth
  omega
def hv (b : Bool) (x : Nat) : Nat := if b = true then x / 2 else x
/-- odds of m with k others, watched or not -/
def oda (f : Nat → Nat) (m k : Nat) (b : Bool) : Nat := if f (5 * m) = 2 then 0 else min 9 (hv b (f (5 * m + 1) + (if f (5 * m) = 1 then k else 0)))
def odw (n : Nat) (f : Nat → Nat) (m : Nat) (b : Bool) : Nat := oda f m (oth n f m) b
def od (n : Nat) (f : Nat → Nat) (m : Nat) : Nat := odw n f m ((f 40).testBit m)
theorem oda_le (f : Nat → Nat) (m k : Nat) (b : Bool) : oda f m k b ≤ 9 := by
  unfold oda
  split
  · omega
  · exact Nat.min_le_left _ _
theorem od_le (n : Nat) (f : Nat → Nat) (m : Nat) : od n f m ≤ 9 := oda_le _ _ _ _
theorem nI_min (x : Nat) (hx : x < 1000) : (if nI 9 < nI x then nI 9 else nI x) = nI (min 9 x) := by
  by_cases h : 9 < x
  · rw [if_pos (nI_lt h (by omega)), Nat.min_eq_left (by omega)]
  · rw [if_neg (nI_nlt (by omega) (by omega)), Nat.min_eq_right (by omega)]
section ODDS
variable {scr : List Int32} {d : Nat} {h : ev_H} {a n : Nat} {f : Nat → Nat}
theorem c_oddsAmong (hT : TA h a n f) (g : GD n f) {m : Nat} (hm : m < n) {k : Nat} (hk : k < 100) (b : Bool) (hd : 1 ≤ d) : ev_V scr d cd_X4_oddsAmong 0 [.ref a, .int (nI m), .int (nI k), .int (nI (tb_b b)), .float 0] [] h (some (.int (nI (oda f m k b))), h) := by
  obtain ⟨hO, hK, hOd, -⟩ := hT
  obtain ⟨hn, hm4, -⟩ := g
  obtain ⟨g1, g2, -⟩ := hm4 m hm
  have tail : ∀ x : Nat, x < 500 → oda f m k b = min 9 (hv b x) → ∀ v4 : Value, v4 = .int (nI x) → ev_V scr d cd_X4_oddsAmong 27 [.ref a, .int (nI m), .int (nI k), .int (nI (tb_b b)), v4] [.int (nI (tb_b b))] h (some (.int (nI (oda f m k b))), h) := by
    intro x hx ho v4 hv4
    subst hv4
    refine ev_zeq rfl (fun hc => ?_) (fun hc => ?_)
    · rw [tb_b0] at hc
      refine ev_go 80 rfl ?_
      refine ev_cs rfl rfl rfl (d' := 0) (by omega) c_min ?_
      refine ev_go 80 rfl ?_
      rw [ho, hc]
      show ev_V _ _ _ _ _ [.int (if nI 9 < nI x then nI 9 else nI x)] _ _
      rw [nI_min x (by omega)]
      exact ev_iret rfl
    · have hb : b = true := by
        cases b
        · exact absurd ((tb_b0 false).mpr rfl) hc
        · rfl
      refine ev_go 80 rfl ?_
      refine ev_idiv (v := nI (x / 2)) rfl (by decide) (pk_div (d := 2) (by omega) (by decide) (by decide)) ?_
      refine ev_go 80 rfl ?_
      refine ev_cs rfl rfl rfl (d' := 0) (by omega) c_min ?_
      refine ev_go 80 rfl ?_
      rw [ho, hb]
      show ev_V _ _ _ _ _ [.int (if nI 9 < nI (x / 2) then nI 9 else nI (x / 2))] _ _
      rw [nI_min (x / 2) (by omega)]
      exact ev_iret rfl
  refine ev_go 80 rfl ?_
  refine ev_getf rfl hO rfl rfl ?_
  refine ev_go 80 rfl ?_
  refine ev_ia (m) rfl hK rfl hm (by omega) (by omega) rfl ?_
  refine ev_go 80 rfl ?_
  refine ev_ine rfl (fun hc => ?_) (fun hc => ?_)
  · have h2 : ¬ f (5 * m) = 2 := fun q => hc (by rw [q]; rfl)
    refine ev_go 80 rfl ?_
    refine ev_getf rfl hO rfl rfl ?_
    refine ev_go 80 rfl ?_
    refine ev_ia (m) rfl hK rfl hm (by omega) (by omega) rfl ?_
    refine ev_go 80 rfl ?_
    refine ev_ine rfl (fun hc => ?_) (fun hc => ?_)
    · have h1 : ¬ f (5 * m) = 1 := fun q => hc (by rw [q]; rfl)
      refine ev_go 80 rfl ?_
      refine ev_getf rfl hO rfl rfl ?_
      refine ev_go 80 rfl ?_
      refine ev_ia (m) rfl hOd rfl hm (by omega) (by omega) rfl ?_
      refine ev_go 80 rfl ?_
      refine tail (f (5 * m + 1)) (by omega) ?_ _ rfl
      unfold oda
      rw [if_neg h2, if_neg h1, Nat.add_zero]
    · have h1 : f (5 * m) = 1 := (nI_eq (b := 1) (by omega) (by decide)).mp hc
      refine ev_go 80 rfl ?_
      refine ev_getf rfl hO rfl rfl ?_
      refine ev_go 80 rfl ?_
      refine ev_ia (m) rfl hOd rfl hm (by omega) (by omega) rfl ?_
      refine ev_go 80 rfl ?_
      dsimp only
      refine tail (f (5 * m + 1) + k) (by omega) ?_ _ (by rw [← nI_add])
      unfold oda
      rw [if_neg h2, if_pos h1]
  · have h2 : f (5 * m) = 2 := (nI_eq (b := 2) (by omega) (by decide)).mp hc
    refine ev_go 80 rfl ?_
    have e : oda f m k b = 0 := by unfold oda; rw [if_pos h2]
    rw [e]
    exact ev_iret rfl
theorem c_oddsIfWatched (hT : TA h a n f) (g : GD n f) {m : Nat} (hm : m < n) (b : Bool) (hd : 2 ≤ d) : ev_V scr d cd_X4_oddsIfWatched 0 [.ref a, .int (nI m), .int (nI (tb_b b)), .float 0] [] h (some (.int (nI (odw n f m b))), h) := by
  have hn := g.1
  obtain ⟨g1, g2, g3, g4, g5, g6⟩ := g.2.1 m hm
  refine ev_go 80 rfl ?_
  refine ev_getf rfl hT.1 rfl rfl ?_
  refine ev_go 80 rfl ?_
  refine ev_ia (m) rfl hT.2.1 rfl hm (by omega) (by omega) rfl ?_
  refine ev_go 80 rfl ?_
  refine ev_ieq rfl (fun hc => ?_) (fun hc => ?_)
  · have h1 : f (5 * m) = 1 := (nI_eq (b := 1) (by omega) (by decide)).mp hc
    have ht : f (5 * m + 3) < 4 := by omega
    refine ev_go 80 rfl ?_
    refine ev_getf rfl hT.1 rfl rfl ?_
    refine ev_go 80 rfl ?_
    refine ev_ia (m) rfl hT.2.2.2.2.1 rfl hm (by omega) (by omega) (tv_lt ht) ?_
    refine ev_cv rfl rfl rfl rfl hT.1 rfl (d' := 0) (by omega) (c_menOfTen hT hn ht) ?_
    refine ev_go 80 rfl ?_
    refine ev_cv rfl rfl rfl rfl hT.1 rfl (d' := 0) (by omega) (c_menOfKind (k := 1) hT hn (by decide) (fun j hj => (g.2.1 j hj).1)) ?_
    refine ev_go 80 rfl ?_
    dsimp only
    rw [tb_and]
    refine ev_cs rfl rfl rfl (d' := 0) (by omega) (c_bitCount (and256 (bs_256 _ hn))) ?_
    rw [pc8_bsa _ _ hn]
    have e1 : sm (fun i => tb_b (decide (f (5 * i + 3) = f (5 * m + 3)) && (bs (fun m => decide (f (5 * m) = 1)) n).testBit i)) n = oth n f m + 1 := by
      rw [← oth_one hm h1]
      refine sm_cong (fun i hi => ?_)
      rw [bs_bit]
      simp [hi]
    rw [e1]
    refine ev_go 80 rfl ?_
    dsimp only
    rw [show (1 : Int32) = nI 1 from rfl, pk_sub (by omega), Nat.add_sub_cancel]
    have ho := oth_le n f m
    refine ev_cv rfl rfl rfl rfl hT.1 rfl (d' := 1) (by omega) (c_oddsAmong hT g hm (by omega) b (by omega)) ?_
    exact ev_iret rfl
  · refine ev_go 80 rfl ?_
    refine ev_cv rfl rfl rfl rfl hT.1 rfl (d' := 1) (by omega) (c_oddsAmong (k := 0) hT g hm (by omega) b (by omega)) ?_
    have e : oda f m 0 b = odw n f m b := by
      unfold odw oda
      have h1 : ¬ f (5 * m) = 1 := fun q => hc (by rw [q]; rfl)
      rw [if_neg h1, if_neg h1]
    rw [e]
    exact ev_iret rfl
theorem c_oddsInTen (hT : TA h a n f) (g : GD n f) {m : Nat} (hm : m < n) (hd : 3 ≤ d) : ev_V scr d cd_X4_oddsInTen 0 [.ref a, .int (nI m)] [] h (some (.int (nI (od n f m))), h) := by
  have hn := g.1
  have hw := g.w
  refine ev_go 80 rfl ?_
  refine ev_getf rfl hT.1 rfl rfl ?_
  refine ev_go 80 rfl ?_
  refine ev_cs rfl rfl rfl (d' := 0) (by omega) (c_bitOf (by omega) (by omega)) ?_
  refine ev_zeq rfl (fun hc => ?_) (fun hc => ?_)
  · rw [tb_b0] at hc
    refine ev_go 80 rfl ?_
    refine ev_cv rfl rfl rfl rfl hT.1 rfl (d' := 2) (by omega) (c_oddsIfWatched hT g hm false (by omega)) ?_
    unfold od
    rw [hc]
    exact ev_iret rfl
  · have hb : (f 40).testBit m = true := by
      cases hb : (f 40).testBit m
      · rw [hb] at hc; exact absurd rfl hc
      · rfl
    refine ev_go 80 rfl ?_
    refine ev_cv rfl rfl rfl rfl hT.1 rfl (d' := 2) (by omega) (c_oddsIfWatched hT g hm true (by omega)) ?_
    unfold od
    rw [hb]
    exact ev_iret rfl
end ODDS
