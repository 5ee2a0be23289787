/-! A town stays as it should be. -/
abbrev mnG (f : Nat → Nat) (m : Nat) : Prop := f (5 * m) ≤ 3 ∧ f (5 * m + 1) ≤ 9 ∧ f (5 * m + 2) ≤ 99 ∧ f (5 * m + 3) ≤ 4 ∧ (f (5 * m) = 3 ↔ f (5 * m + 3) = 4) ∧ ((f 40).testBit m = true → f (5 * m + 3) < 4)
theorem GD.man {n i : Nat} {f f' : Nat → Nat} (g : GD n f) (hi : i < n) (ho : ∀ j, (j < 5 * i ∨ 5 * i + 3 < j) → f' j = f j) (hm : mnG f' i) : GD n f' := by
  obtain ⟨g1, g2, g3, g4, g5, g6, g7, g8, g9, g10⟩ := g
  have h40 := ho 40 (by omega)
  have h44 := ho 44 (by omega)
  refine ⟨g1, fun m hmn => ?_, by rw [h40]; exact g3, by rw [ho 41 (by omega)]; exact g4, by rw [ho 42 (by omega)]; exact g5, fun m h8 => by rw [ho _ (by omega)]; exact g6 m h8, by rw [ho 43 (by omega)]; exact g7, by rw [h44]; exact g8, fun k hk => ?_, fun t ht => by rw [ho _ (by omega)]; exact g10 t ht⟩
  · by_cases c : m = i
    · rw [c]; exact hm
    · rw [ho (5 * m) (by omega), ho (5 * m + 1) (by omega), ho (5 * m + 2) (by omega), ho (5 * m + 3) (by omega), h40]
      exact g2 m hmn
  · rw [h44] at hk
    rw [ho _ (by omega), ho _ (by omega)]
    exact g9 k hk
theorem GD.hi {n : Nat} {f f' : Nat → Nat} (g : GD n f) (ho : ∀ j, j ≤ 40 → f' j = f j) (h1 : f' 41 ≤ 99) (h2 : f' 42 ≤ 9) (h3 : f' 43 ≤ 99) (h4 : f' 44 ≤ 6) (hs : ∀ k, k < f' 44 → f' (45 + 2 * k) < n ∧ f' (46 + 2 * k) ≤ 99) (hm : ∀ t, t < 4 → 1 ≤ f' (60 + t) ∧ f' (60 + t) ≤ 5) : GD n f' := by
  obtain ⟨g1, g2, g3, g4, g5, g6, g7, g8, g9, g10⟩ := g
  refine ⟨g1, fun m hmn => ?_, by rw [ho 40 (by omega)]; exact g3, h1, h2, fun m h8 => by rw [ho _ (by omega)]; exact g6 m h8, h3, h4, hs, hm⟩
  rw [ho (5 * m) (by omega), ho (5 * m + 1) (by omega), ho (5 * m + 2) (by omega), ho (5 * m + 3) (by omega), ho 40 (by omega)]
  exact g2 m hmn
theorem GD.w40 {n x : Nat} {f : Nat → Nat} (g : GD n f) (hx : x < 2 ^ n) (hb : ∀ m, m < n → x.testBit m = true → f (5 * m + 3) < 4) : GD n (up f 40 x) := by
  obtain ⟨g1, g2, g3, g4, g5, g6, g7, g8, g9, g10⟩ := g
  have ho : ∀ j, j ≠ 40 → up f 40 x j = f j := fun j hj => up_ne hj
  refine ⟨g1, fun m hmn => ?_, by rw [up_eq]; exact hx, by rw [ho 41 (by omega)]; exact g4, by rw [ho 42 (by omega)]; exact g5, fun m h8 => by rw [ho _ (by omega)]; exact g6 m h8, by rw [ho 43 (by omega)]; exact g7, by rw [ho 44 (by omega)]; exact g8, fun k hk => ?_, fun t ht => by rw [ho _ (by omega)]; exact g10 t ht⟩
  · rw [ho (5 * m) (by omega), ho (5 * m + 1) (by omega), ho (5 * m + 2) (by omega), ho (5 * m + 3) (by omega), up_eq]
    obtain ⟨a, b, c, d, e, _⟩ := g2 m hmn
    exact ⟨a, b, c, d, e, hb m hmn⟩
  · rw [ho 44 (by omega)] at hk
    rw [ho _ (by omega), ho _ (by omega)]
    exact g9 k hk
theorem GD.ki {n i v : Nat} {f : Nat → Nat} (g : GD n f) (hi : i < 8) (hv : v < 256) : GD n (up f (5 * i + 4) v) := by
  obtain ⟨g1, g2, g3, g4, g5, g6, g7, g8, g9, g10⟩ := g
  have ho : ∀ j, j ≠ 5 * i + 4 → up f (5 * i + 4) v j = f j := fun j hj => up_ne hj
  refine ⟨g1, fun m hmn => ?_, by rw [ho 40 (by omega)]; exact g3, by rw [ho 41 (by omega)]; exact g4, by rw [ho 42 (by omega)]; exact g5, fun m h8 => ?_, by rw [ho 43 (by omega)]; exact g7, by rw [ho 44 (by omega)]; exact g8, fun k hk => ?_, fun t ht => by rw [ho _ (by omega)]; exact g10 t ht⟩
  · rw [ho (5 * m) (by omega), ho (5 * m + 1) (by omega), ho (5 * m + 2) (by omega), ho (5 * m + 3) (by omega), ho 40 (by omega)]
    exact g2 m hmn
  · by_cases c : m = i
    · rw [c, up_eq]; exact hv
    · rw [ho _ (by omega)]; exact g6 m h8
  · rw [ho 44 (by omega)] at hk
    rw [ho _ (by omega), ho _ (by omega)]
    exact g9 k hk
theorem GD.se {n i t : Nat} {f : Nat → Nat} (g : GD n f) (hi : i < n) (ht : t < 4) : GD n (seF f i t) := by
  have hn := g.1
  rw [seF_up g hi]
  obtain ⟨a1, a2, a3, a4, a5, a6⟩ := g.2.1 i hi
  refine g.man hi (fun j hj => by rw [up_ne (by omega), up_ne (by omega)]) ?_
  have e0 : up (up f (5 * i) (if f (5 * i + 3) = 4 then 0 else f (5 * i))) (5 * i + 3) t (5 * i) = if f (5 * i + 3) = 4 then 0 else f (5 * i) := by rw [up_ne (by omega), up_eq]
  unfold mnG
  rw [e0, up_eq, up_ne (by omega), up_ne (by omega), up_ne (by omega), up_ne (by omega)]
  refine ⟨by split <;> omega, a2, a3, by omega, ?_, fun _ => ht⟩
  by_cases c : f (5 * i + 3) = 4
  · rw [if_pos c]; omega
  · rw [if_neg c]
    have : ¬ f (5 * i) = 3 := fun q => c (a5.mp q)
    omega
theorem wo_bit2 (x i j : Nat) : (tb_wo x (2 ^ i)).testBit j = (x.testBit j && decide (i ≠ j)) := by
  rw [tb_wo_bit, Nat.testBit_two_pow]
  by_cases c : i = j <;> simp [c]
theorem GD.gv {n i : Nat} {f : Nat → Nat} (g : GD n f) (hi : i < n) : GD n (gvF f i) := by
  have hn := g.1
  have e : gvF f i = up (up (up f 40 (tb_wo (f 40) (2 ^ i))) (5 * i + 3) 4) (5 * i) 3 := by
    unfold gvF
    rw [up_comm (k := 5 * i) (by omega), up_comm (k := 5 * i + 3) (by omega)]
  obtain ⟨a1, a2, a3, a4, a5, a6⟩ := g.2.1 i hi
  rw [e]
  have g1 := g.w40 (x := tb_wo (f 40) (2 ^ i)) (Nat.lt_of_le_of_lt (tb_wo_le _ _) g.2.2.1) (fun m hm hb => by
    rw [wo_bit2, Bool.and_eq_true] at hb
    exact (g.2.1 m hm).2.2.2.2.2 hb.1)
  refine g1.man hi (fun j hj => by rw [up_ne (by omega), up_ne (by omega)]) ?_
  have u : ∀ j, j ≠ 5 * i → j ≠ 5 * i + 3 → j ≠ 40 → up (up (up f 40 (tb_wo (f 40) (2 ^ i))) (5 * i + 3) 4) (5 * i) 3 j = f j := fun j p q r => by rw [up_ne p, up_ne q, up_ne r]
  have e0 : up (up (up f 40 (tb_wo (f 40) (2 ^ i))) (5 * i + 3) 4) (5 * i) 3 (5 * i + 3) = 4 := by rw [up_ne (by omega), up_eq]
  have e1 : up (up (up f 40 (tb_wo (f 40) (2 ^ i))) (5 * i + 3) 4) (5 * i) 3 40 = tb_wo (f 40) (2 ^ i) := by rw [up_ne (by omega), up_ne (by omega), up_eq]
  unfold mnG
  rw [e0, e1, u (5 * i + 1) (by omega) (by omega) (by omega), u (5 * i + 2) (by omega) (by omega) (by omega), up_eq]
  refine ⟨by omega, a2, a3, by omega, by omega, fun hb => ?_⟩
  rw [wo_bit2] at hb
  simp at hb
theorem GD.te {n i t : Nat} {f : Nat → Nat} (g : GD n f) (hi : i < n) (ht : t < 4) (h4 : f (5 * i + 3) < 4) : GD n (up f (5 * i + 3) t) := by
  have hn := g.1
  obtain ⟨a1, a2, a3, a4, a5, a6⟩ := g.2.1 i hi
  refine g.man hi (fun j hj => up_ne (by omega)) ?_
  unfold mnG
  rw [up_eq, up_ne (by omega), up_ne (by omega), up_ne (by omega), up_ne (by omega)]
  exact ⟨a1, a2, a3, by omega, by omega, fun _ => ht⟩
theorem GD.ex {n i j : Nat} {f : Nat → Nat} (g : GD n f) (hi : i < n) (hj : j < n) (hs : msw f i j = true) (hij : i ≠ j) : GD n (exF f i j) := by
  unfold msw at hs
  rw [decide_eq_true_eq] at hs
  unfold exF
  exact (g.te hi hs.2.1 hs.1).te hj hs.1 (by rw [up_ne (by omega)]; exact hs.2.1)
theorem GD.odd {n i v : Nat} {f : Nat → Nat} (g : GD n f) (hi : i < n) (hv : v ≤ 9) : GD n (up f (5 * i + 1) v) := by
  have hn := g.1
  obtain ⟨a1, a2, a3, a4, a5, a6⟩ := g.2.1 i hi
  refine g.man hi (fun j hj => up_ne (by omega)) ?_
  unfold mnG
  rw [up_eq, up_ne (by omega), up_ne (by omega), up_ne (by omega), up_ne (by omega)]
  exact ⟨a1, hv, a3, a4, a5, a6⟩
theorem GD.gods {n i v : Nat} {f : Nat → Nat} (g : GD n f) (hi : i < n) (hv : v ≤ 99) : GD n (up f (5 * i + 2) v) := by
  have hn := g.1
  obtain ⟨a1, a2, a3, a4, a5, a6⟩ := g.2.1 i hi
  refine g.man hi (fun j hj => up_ne (by omega)) ?_
  unfold mnG
  rw [up_eq, up_ne (by omega), up_ne (by omega), up_ne (by omega), up_ne (by omega)]
  exact ⟨a1, a2, hv, a4, a5, a6⟩
theorem GD.f41 {n v : Nat} {f : Nat → Nat} (g : GD n f) (hv : v ≤ 99) : GD n (up f 41 v) := by
  obtain ⟨g1, g2, g3, g4, g5, g6, g7, g8, g9, g10⟩ := id g
  exact g.hi (fun j hj => up_ne (by omega)) (by rw [up_eq]; exact hv) g5 g7 g8 (fun k hk => by rw [up_ne (by omega), up_ne (by omega)]; exact g9 k hk) (fun t ht => by rw [up_ne (by omega)]; exact g10 t ht)
theorem GD.f42 {n v : Nat} {f : Nat → Nat} (g : GD n f) (hv : v ≤ 9) : GD n (up f 42 v) := by
  obtain ⟨g1, g2, g3, g4, g5, g6, g7, g8, g9, g10⟩ := id g
  exact g.hi (fun j hj => up_ne (by omega)) g4 (by rw [up_eq]; exact hv) g7 g8 (fun k hk => by rw [up_ne (by omega), up_ne (by omega)]; exact g9 k hk) (fun t ht => by rw [up_ne (by omega)]; exact g10 t ht)
theorem GD.f43 {n v : Nat} {f : Nat → Nat} (g : GD n f) (hv : v ≤ 99) : GD n (up f 43 v) := by
  obtain ⟨g1, g2, g3, g4, g5, g6, g7, g8, g9, g10⟩ := id g
  exact g.hi (fun j hj => up_ne (by omega)) g4 g5 (by rw [up_eq]; exact hv) g8 (fun k hk => by rw [up_ne (by omega), up_ne (by omega)]; exact g9 k hk) (fun t ht => by rw [up_ne (by omega)]; exact g10 t ht)
theorem GD.f44 {n v : Nat} {f : Nat → Nat} (g : GD n f) (hv : v ≤ f 44) : GD n (up f 44 v) := by
  obtain ⟨g1, g2, g3, g4, g5, g6, g7, g8, g9, g10⟩ := id g
  exact g.hi (fun j hj => up_ne (by omega)) g4 g5 g7 (by rw [up_eq]; omega) (fun k hk => by
    rw [up_eq] at hk
    rw [up_ne (by omega), up_ne (by omega)]
    exact g9 k (by omega)) (fun t ht => by rw [up_ne (by omega)]; exact g10 t ht)
theorem GD.wgg {n : Nat} {f u : Nat → Nat} (g : GD n f) (hu : ∀ m, m < n → u m ≤ 99) : GD n (wg f u) := by
  obtain ⟨g1, g2, g3, g4, g5, g6, g7, g8, g9, g10⟩ := id g
  have ho : ∀ j, ¬ (j % 5 = 2 ∧ j < 40) → wg f u j = f j := fun j hj => wg_ne hj
  refine ⟨g1, fun m hmn => ?_, by rw [ho 40 (by omega)]; exact g3, by rw [ho 41 (by omega)]; exact g4, by rw [ho 42 (by omega)]; exact g5, fun m h8 => by rw [ho _ (by omega)]; exact g6 m h8, by rw [ho 43 (by omega)]; exact g7, by rw [ho 44 (by omega)]; exact g8, fun k hk => ?_, fun t ht => by rw [ho _ (by omega)]; exact g10 t ht⟩
  · rw [ho (5 * m) (by omega), ho (5 * m + 1) (by omega), wg_gd (by omega), ho (5 * m + 3) (by omega), ho 40 (by omega)]
    obtain ⟨a, b, c, d, e, k⟩ := g2 m hmn
    exact ⟨a, b, hu m hmn, d, e, k⟩
  · rw [ho 44 (by omega)] at hk
    rw [ho _ (by omega), ho _ (by omega)]
    exact g9 k hk
theorem gd_move {n : Nat} {f : Nat → Nat} (g : GD n f) (m t : Int32) : GD n (s_move n f m t) := by
  unfold s_move
  by_cases c : (isM n m && isM 4 t) = true
  · rw [if_pos c]
    rw [Bool.and_eq_true] at c
    have hn := g.1
    obtain ⟨i, hi, rfl⟩ := isM_of c.1 (by omega)
    obtain ⟨j, hj, rfl⟩ := isM_of c.2 (by omega)
    rw [ix_nI (by omega), ix_nI (by omega)]
    split
    · exact g.se hi hj
    · exact g
  · rw [if_neg c]; exact g
theorem gd_leave {n : Nat} {f : Nat → Nat} (g : GD n f) (m : Int32) : GD n (s_leave n f m) := by
  unfold s_leave
  by_cases c : rit n f m = 0
  · rw [if_pos c]
    obtain ⟨i, hi, rfl, ht, e⟩ := rit_0 g.1 c
    rw [e]
    exact g.gv hi
  · rw [if_neg c]; exact g
theorem gd_swap {n : Nat} {f : Nat → Nat} (g : GD n f) (m k : Int32) : GD n (s_swap n f m k) := by
  unfold s_swap
  by_cases c : prm n m k = true
  · rw [if_pos c]
    obtain ⟨i, j, hi, hj, hij, rfl, rfl, ei, ej⟩ := prm_of g.1 c
    rw [ei, ej]
    by_cases c2 : msw f i j = true
    · rw [if_pos c2]; exact g.ex hi hj c2 hij
    · rw [if_neg c2]; exact g
  · rw [if_neg c]; exact g
theorem wb_lt {b : Bool} {x i n : Nat} (hx : x < 2 ^ n) (hi : i < n) : wb b x i < 2 ^ n := by
  unfold wb
  split
  · exact Nat.or_lt_two_pow hx (Nat.pow_lt_pow_right (by decide) hi)
  · exact Nat.lt_of_le_of_lt (tb_wo_le _ _) hx
theorem wb_bit (b : Bool) (x i j : Nat) : (wb b x i).testBit j = if i = j then b else x.testBit j := by
  unfold wb
  cases b
  · rw [if_neg (by decide), wo_bit2]
    by_cases c : i = j <;> simp [c]
  · rw [if_pos rfl, Nat.testBit_or, Nat.testBit_two_pow]
    by_cases c : i = j <;> simp [c]
theorem gd_watch {n : Nat} {f : Nat → Nat} (g : GD n f) (m : Int32) (b : Bool) : GD n (s_watch n f m b) := by
  unfold s_watch
  by_cases c : rit n f m = 0
  · rw [if_pos c]
    obtain ⟨i, hi, rfl, ht, e⟩ := rit_0 g.1 c
    rw [e]
    refine g.w40 (wb_lt g.2.2.1 hi) (fun k hk hb => ?_)
    rw [wb_bit] at hb
    by_cases c2 : i = k
    · rw [← c2]; exact ht
    · rw [if_neg c2] at hb
      exact (g.2.1 k hk).2.2.2.2.2 hb
  · rw [if_neg c]; exact g
theorem gd_kin {n : Nat} {f : Nat → Nat} (g : GD n f) (m k : Int32) (b : Bool) : GD n (s_kin n f m k b) := by
  unfold s_kin
  by_cases c : prm n m k = true
  · rw [if_pos c]
    have hn := g.1
    obtain ⟨i, j, hi, hj, hij, rfl, rfl, ei, ej⟩ := prm_of g.1 c
    rw [ei, ej]
    unfold kiF
    exact (g.ki (by omega) (wb_lt (n := 8) (g.2.2.2.2.2.1 i (by omega)) (by omega))).ki (by omega) (wb_lt (n := 8) (g.2.2.2.2.2.1 j (by omega)) (by omega))
  · rw [if_neg c]; exact g
theorem gd_odd {n : Nat} {f : Nat → Nat} (g : GD n f) (m v : Int32) : GD n (s_odd n f m v) := by
  unfold s_odd
  by_cases c : (isM n m && isM 10 v) = true
  · rw [if_pos c]
    rw [Bool.and_eq_true] at c
    have hn := g.1
    obtain ⟨i, hi, rfl⟩ := isM_of c.1 (by omega)
    obtain ⟨j, hj, rfl⟩ := isM_of c.2 (by omega)
    rw [ix_nI (by omega), ix_nI (by omega)]
    split
    · exact g
    · exact g.odd hi (by omega)
  · rw [if_neg c]; exact g
theorem gd_goods {n : Nat} {f : Nat → Nat} (g : GD n f) (m v : Int32) : GD n (s_goods n f m v) := by
  unfold s_goods
  by_cases c : (isM n m && isM 100 v) = true
  · rw [if_pos c]
    rw [Bool.and_eq_true] at c
    have hn := g.1
    obtain ⟨i, hi, rfl⟩ := isM_of c.1 (by omega)
    obtain ⟨j, hj, rfl⟩ := isM_of c.2 (by omega)
    rw [ix_nI (by omega), ix_nI (by omega)]
    exact g.gods hi (by omega)
  · rw [if_neg c]; exact g
theorem gd_law {n : Nat} {f : Nat → Nat} (g : GD n f) (w v : Int32) : GD n (s_law f w v) := by
  unfold s_law
  by_cases c : (decide (w = 0) && isM 100 v) = true
  · rw [if_pos c]
    rw [Bool.and_eq_true] at c
    obtain ⟨j, hj, rfl⟩ := isM_of c.2 (by omega)
    rw [ix_nI (by omega)]
    exact g.f41 (by omega)
  · rw [if_neg c]
    by_cases c : (decide (w = 1) && isM 10 v) = true
    · rw [if_pos c]
      rw [Bool.and_eq_true] at c
      obtain ⟨j, hj, rfl⟩ := isM_of c.2 (by omega)
      rw [ix_nI (by omega)]
      exact g.f42 (by omega)
    · rw [if_neg c]; exact g
/-! bounds -/
theorem hm_lt {n : Nat} {f : Nat → Nat} (g : GD n f) (t : Nat) : hm n f t ≤ 8000 := by
  have hn := g.1
  have h1 : sm (hmg n f t) n ≤ 72 := Nat.le_trans (sm_le (c := 9) (fun i _ => by
    unfold hmg
    split
    · exact od_le n f i
    · exact Nat.zero_le _)) (by omega)
  have h2 : wct n f t ≤ 8 := by
    have := sm_le (g := fun m => tb_b (decide (f (5 * m + 3) = t) && (f 40).testBit m)) (c := 1) (n := n) (fun i _ => tb_le _)
    unfold wct
    omega
  have h3 := Nat.mul_le_mul h1 g.2.2.2.1
  have h4 : 10 * f 42 * wct n f t ≤ 90 * 8 := Nat.mul_le_mul (by have := g.2.2.2.2.1; omega) h2
  unfold hm
  omega
theorem ha_lt {n : Nat} {f : Nat → Nat} (g : GD n f) : ha n f < 100000 := by
  have hn := g.1
  have h1 : sm (hm n f) 4 ≤ 4 * 8000 := sm_le (fun i _ => hm_lt g i)
  have h2 : sm (hwg f) n ≤ n * 900 := sm_le (fun i hi => by
    unfold hwg
    split
    · exact Nat.le_trans (Nat.mul_le_mul (g.2.1 i hi).2.1 g.2.2.2.1) (by decide)
    · exact Nat.zero_le _)
  unfold ha
  omega
