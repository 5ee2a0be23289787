/-! best: the search. -/
def swp (t u y : Nat) : Nat := if y = t then u else if y = u then t else y
theorem swp_lt {t u y : Nat} (ht : t < 4) (hu : u < 4) (hy : y < 4) : swp t u y < 4 := by
  unfold swp
  split
  · exact hu
  · split
    · exact ht
    · exact hy
theorem swp_inj {t u y z : Nat} : swp t u y = swp t u z ↔ y = z := by
  unfold swp
  constructor
  · intro h
    split at h <;> split at h <;> (try split at h) <;> (try split at h) <;> omega
  · intro h; rw [h]
theorem swp_inv {t u y z : Nat} : swp t u y = z ↔ y = swp t u z := by
  unfold swp
  constructor
  · intro h
    split at h <;> (try split at h) <;> split <;> (try split) <;> omega
  · intro h
    split at h <;> (try split at h) <;> split <;> (try split) <;> omega
theorem sym_best {n : Nat} {f a b : Nat → Nat} {m t u : Nat} (g : GD n f) (ht : t < 4) (hu : u < 4) (hst : ctn m a t = 0) (hsu : ctn m a u = 0) (hmo : f (60 + u) = f (60 + t)) (hb : Cp n f (up a m t) (m + 1) b) (hv : vld n f b = true) : ∃ b', Cp n f (up a m u) (m + 1) b' ∧ vld n f b' = true ∧ Hh n f b' = Hh n f b := by
  have none : ∀ v, ctn m a v = 0 → ∀ j, j < m → a j ≠ v := fun v h j hj c => by
    have := sm_zero h j hj
    rw [decide_eq_true c] at this
    exact absurd this (by decide)
  have hp : prp n f (fun j => swp t u (b j)) := fun j hj => by
    obtain ⟨q1, q2⟩ := hb.2 j hj
    refine ⟨fun c => ?_, fun c => swp_lt ht hu (q2 c)⟩
    show swp t u (b j) = 4
    rw [q1 c]
    unfold swp
    rw [if_neg (by omega), if_neg (by omega)]
  have ec : ∀ v, ctn n (fun j => swp t u (b j)) v = ctn n b (swp t u v) := fun v => by
    unfold ctn
    exact sm_cong (fun i _ => by rw [decide_eq_decide.mpr swp_inv])
  refine ⟨fun j => swp t u (b j), ⟨fun j hj => ?_, hp⟩, ?_, ?_⟩
  · show swp t u (b j) = _
    rw [hb.1 j hj]
    by_cases c : j = m
    · rw [c, up_eq, up_eq]
      unfold swp
      rw [if_pos rfl]
    · rw [up_ne c, up_ne c]
      unfold swp
      rw [if_neg (none t hst j (by omega)), if_neg (none u hsu j (by omega))]
  · refine (vb_iff n f _ 4).mpr (fun v hv4 => ?_)
    rw [ec]
    have hvb := (vb_iff n f b 4).mp hv
    have := hvb (swp t u v) (swp_lt ht hu hv4)
    have e : f (60 + swp t u v) = f (60 + v) := by
      unfold swp
      by_cases c1 : v = t
      · rw [if_pos c1, c1, hmo]
      · rw [if_neg c1]
        by_cases c2 : v = u
        · rw [if_pos c2, c2, hmo]
        · rw [if_neg c2]
    rw [e] at this
    exact this
  · rw [H_sum g hp, H_sum g hb.2]
    have eo : otA n f (fun j => swp t u (b j)) = otA n f b := funext (fun m => by
      unfold otA
      exact sm_cong (fun i _ => by rw [decide_eq_decide.mpr (swp_inj (t := t) (u := u) (y := b i) (z := b m))]))
    rw [eo]
def sct (n : Nat) (f : Nat → Nat) (k m : Nat) (a : Nat → Nat) (s : Nat × (Nat → Nat)) : Nat → Nat × (Nat → Nat)
  | 0 => s
  | t + 1 => scn n f k (m + 1) (up a m t) (sct n f k m a s t)
theorem sct_dec (n : Nat) (f : Nat → Nat) (k m : Nat) (a : Nat → Nat) (s : Nat × (Nat → Nat)) : ∀ t u, u ≤ t → (sct n f k m a s t).1 ≤ (sct n f k m a s u).1
  | 0, u, h => by rw [Nat.le_zero.mp h]; exact Nat.le_refl _
  | t + 1, u, h => by
    by_cases c : u = t + 1
    · rw [c]; exact Nat.le_refl _
    · exact Nat.le_trans (scn_dec n f k (m + 1) (up a m t) (sct n f k m a s t)) (sct_dec n f k m a s t u (by omega))
theorem ctn_s (a : Nat → Nat) (m t v : Nat) : ctn (m + 1) (up a m t) v = ctn m a v + tb_b (decide (t = v)) := by
  unfold ctn
  rw [sm_s, up_eq, sm_cong (g' := fun j => tb_b (decide (a j = v))) (fun i hi => by rw [up_ne (by omega)])]
theorem rgh_s (f a : Nat → Nat) (m t v : Nat) : rgh f (up a m t) (m + 1) v = rgh f a m v + tb_b (decide (t = v) && decide (f (5 * m) = 1)) := by
  unfold rgh
  rw [sm_s, up_eq, sm_cong (g' := fun j => tb_b (decide (a j = v) && decide (f (5 * j) = 1))) (fun i hi => by rw [up_ne (by omega)])]
def lik (f a : Nat → Nat) (m t : Nat) : Nat → Bool
  | 0 => false
  | u + 1 => lik f a m t u || (decide (ctn m a u = 0) && decide (f (60 + u) = f (60 + t)))
theorem lik_of {f a : Nat → Nat} {m t : Nat} : ∀ k, lik f a m t k = true → ∃ u, u < k ∧ ctn m a u = 0 ∧ f (60 + u) = f (60 + t)
  | 0, h => absurd (show false = true from h) (by decide)
  | k + 1, h => by
    rw [lik, Bool.or_eq_true] at h
    rcases h with h | h
    · obtain ⟨u, hu, x⟩ := lik_of k h
      exact ⟨u, by omega, x⟩
    · rw [Bool.and_eq_true, decide_eq_true_eq, decide_eq_true_eq] at h
      exact ⟨k, by omega, h.1, h.2⟩
theorem lik_t {f a : Nat → Nat} {m t u : Nat} (h1 : ctn m a u = 0) (h2 : f (60 + u) = f (60 + t)) : ∀ k, u < k → lik f a m t k = true
  | 0, h => absurd h (Nat.not_lt_zero u)
  | k + 1, h => by
    rw [lik]
    by_cases c : u = k
    · rw [← c, decide_eq_true h1, decide_eq_true h2]
      simp
    · rw [lik_t h1 h2 k (by omega)]
      rfl
/-- the search does what looking at all would -/
theorem step_id {n : Nat} {f a : Nat → Nat} {k m t : Nat} {s : Nat × (Nat → Nat)} (g : GD n f) (hk : m + (k + 1) = n) (ht : t < 4) (hw : ¬ f (5 * m) = 3) (hp : ∀ j, j < m → (f (5 * j) = 3 → a j = 4) ∧ (f (5 * j) ≠ 3 → a j < 4)) (h : ¬ ctn m a t < f (60 + t) ∨ (ctn m a t = 0 ∧ lik f a m t t = true) ∨ (sct n f k m a s t).1 ≤ LB n f (up a m t) (m + 1)) : sct n f k m a s (t + 1) = sct n f k m a s t := by
  have hp' : ∀ j, j < m + 1 → (f (5 * j) = 3 → up a m t j = 4) ∧ (f (5 * j) ≠ 3 → up a m t j < 4) := fun j hj => by
    by_cases c : j = m
    · rw [c, up_eq]; exact ⟨fun x => absurd x hw, fun _ => ht⟩
    · rw [up_ne c]; exact hp j (by omega)
  refine scn_id (sct n f k m a s t).1 (sct n f k m a s t).2 k (m + 1) (up a m t) (by omega) hp' (fun b hb hv => ?_)
  rcases h with h | h | h
  · have h1 := (vb_iff n f b 4).mp hv t ht
    have h2 := ctn_mono (b := b) (m := m + 1) (n := n) (by omega) t
    have h3 : ctn (m + 1) b t = ctn (m + 1) (up a m t) t := ctn_c hb.1 t
    rw [ctn_s, decide_eq_true rfl] at h3
    have : tb_b true = 1 := rfl
    omega
  · obtain ⟨u, hu, hu0, hum⟩ := lik_of t h.2
    obtain ⟨b', c1, c2, c3⟩ := sym_best g ht (by omega) h.1 hu0 hum hb hv
    have h1 := scn_le k (m + 1) (up a m u) (sct n f k m a s u) (by omega) b' c1 c2
    have h2 := sct_dec n f k m a s t (u + 1) (by omega)
    rw [c3] at h1
    exact Nat.le_trans h2 h1
  · exact Nat.le_trans h (LB_le g (by omega) hb hv)
abbrev PO (h : ev_H) (L : Nat) : Prop := h[25]? = some (.inr (1, [.ref 26, .int (nI L), .ref 1, .ref 27, .ref 28, .ref 29]))
section SEAT
variable {scr : List Int32} {d : Nat} {h : ev_H} {n : Nat} {f a : Nat → Nat} {m L : Nat}
theorem c_oddsG (hT : TA h 1 n f) (g : GD n f) {j : Nat} (hj : j < n) {k : Nat} {o : Int32} (hk : f (5 * j) = 1 → o = nI k ∧ k < 100) (b : Bool) (hd : 1 ≤ d) : ev_V scr d cd_X4_oddsAmong 0 [.ref 1, .int (nI j), .int o, .int (nI (tb_b b)), .float 0] [] h (some (.int (nI (oda f j k b))), h) := by
  obtain ⟨g1, g2, -⟩ := g.2.1 j hj
  have hn := g.1
  have tail : ∀ y : Nat, y < 500 → oda f j k b = min 9 (hv b y) → ev_V scr d cd_X4_oddsAmong 27 [.ref 1, .int (nI j), .int o, .int (nI (tb_b b)), .int (nI y)] [.int (nI (tb_b b))] h (some (.int (nI (oda f j k b))), h) := by
    intro y hy ho
    refine ev_zeq rfl (fun hc => ?_) (fun hc => ?_)
    · rw [tb_b0] at hc
      refine ev_go 80 rfl ?_
      refine ev_cs rfl rfl rfl (d' := 0) (by omega) (c_min) ?_
      rw [ho, hc]
      show ev_V _ _ _ _ _ [.int (if nI 9 < nI y then nI 9 else nI y)] _ _
      rw [nI_min y (by omega)]
      exact ev_iret rfl
    · have hb : b = true := by simpa [tb_b0] using hc
      refine ev_go 80 rfl ?_
      refine ev_idiv (v := nI (y / 2)) rfl (by decide) (pk_div (d := 2) (by omega) (by decide) (by decide)) ?_
      refine ev_go 80 rfl ?_
      refine ev_cs rfl rfl rfl (d' := 0) (by omega) (c_min) ?_
      rw [ho, hb]
      show ev_V _ _ _ _ _ [.int (if nI 9 < nI (y / 2) then nI 9 else nI (y / 2))] _ _
      rw [nI_min (y / 2) (by omega)]
      exact ev_iret rfl
  refine ev_go 80 rfl ?_
  refine ev_getf rfl hT.1 rfl rfl ?_
  refine ev_go 80 rfl ?_
  refine ev_ia _ rfl hT.2.1 rfl (by first | exact trivial | assumption | (show _ < _; omega)) (by omega) (by omega) rfl ?_
  refine ev_go 80 rfl ?_
  refine ev_ine rfl (fun hc => ?_) (fun hc => ?_)
  · have h2 : ¬ f (5 * j) = 2 := fun c => hc (by rw [c]; rfl)
    refine ev_go 80 rfl ?_
    refine ev_getf rfl hT.1 rfl rfl ?_
    refine ev_go 80 rfl ?_
    refine ev_ia _ rfl hT.2.1 rfl (by first | exact trivial | assumption | (show _ < _; omega)) (by omega) (by omega) rfl ?_
    refine ev_go 80 rfl ?_
    refine ev_ine rfl (fun k1 => ?_) (fun k1 => ?_)
    · have h1 : ¬ f (5 * j) = 1 := fun c => k1 (by rw [c]; rfl)
      refine ev_go 80 rfl ?_
      refine ev_getf rfl hT.1 rfl rfl ?_
      refine ev_go 80 rfl ?_
      refine ev_ia _ rfl hT.2.2.1 rfl (by first | exact trivial | assumption | (show _ < _; omega)) (by omega) (by omega) rfl ?_
      refine ev_go 80 rfl ?_
      refine tail (f (5 * j + 1)) (by omega) ?_
      unfold oda
      rw [if_neg h2, if_neg h1, Nat.add_zero]
    · have h1 : f (5 * j) = 1 := (nI_eq (b := 1) (by omega) (by decide)).mp k1
      obtain ⟨rfl, hk2⟩ := hk h1
      refine ev_go 80 rfl ?_
      refine ev_getf rfl hT.1 rfl rfl ?_
      refine ev_go 80 rfl ?_
      refine ev_ia _ rfl hT.2.2.1 rfl (by first | exact trivial | assumption | (show _ < _; omega)) (by omega) (by omega) rfl ?_
      refine ev_go 80 rfl ?_
      try dsimp only
      try simp only [nI_inc, nI_1, nI_add, nI_mul2, tb_and, tb_or, tb_andn]
      refine tail (f (5 * j + 1) + k) (by omega) ?_
      unfold oda
      rw [if_neg h2, if_pos h1]
  · have h2 : f (5 * j) = 2 := (nI_eq (b := 2) (by omega) (by decide)).mp hc
    have e : oda f j k b = 0 := by unfold oda; rw [if_pos h2]
    rw [e]
    refine ev_go 80 rfl ?_
    exact ev_iret rfl
theorem c_fewest (hO : PO h L) (hT : TA h 1 n f) (g : GD n f) (hm : m ≤ 8) (hZ : IA h 28 4 (fun _ => True) (fun t => nI (ctn m a t))) (hG : IA h 29 4 (fun _ => True) (fun t => nI (rgh f a m t))) (hd : 1 ≤ d) : ev_V scr d cd_X1_fewestRough 0 [.ref 25, .float 0, .float 0] [] h (some (.int (nI (few f a m 4))), h) := by
  have lc : ∀ t, ctn m a t ≤ 8 := fun t => by
    have := sm_le (g := fun j => tb_b (decide (a j = t))) (c := 1) (n := m) (fun i _ => tb_le _)
    unfold ctn
    omega
  have lr : ∀ t, rgh f a m t ≤ 8 := fun t => by
    have := sm_le (g := fun j => tb_b (decide (a j = t) && decide (f (5 * j) = 1))) (c := 1) (n := m) (fun i _ => tb_le _)
    unfold rgh
    omega
  refine ev_go 80 rfl ?_
  refine ev_loop 4 (fun t => ev_V scr d cd_X1_fewestRough 4 [.ref 25, .int (nI (few f a m t)), .int (nI t)] [] h _) (fun t ht K => ?_) ?_
  · have l1 := lc t
    have l2 := lr t
    have l3 := few_8 f a m t
    have l4 := (g.2.2.2.2.2.2.2.2.2 t ht).2
    rw [few] at K
    refine ev_nop rfl ?_
    refine ev_go 80 rfl ?_
    refine ev_igeF rfl (nI_ge ht (by decide)) ?_
    refine ev_go 80 rfl ?_
    refine ev_getf rfl hO rfl rfl ?_
    refine ev_go 80 rfl ?_
    refine ev_ia _ rfl hZ rfl (by first | exact trivial | assumption | (show _ < _; omega)) (by omega) (by omega) rfl ?_
    refine ev_go 80 rfl ?_
    refine ev_getf rfl hO rfl rfl ?_
    refine ev_getf rfl hT.1 rfl rfl ?_
    refine ev_go 80 rfl ?_
    refine ev_ia _ rfl hT.2.2.2.2.2.2.1 rfl (by first | exact trivial | assumption | (show _ < _; omega)) (by omega) (by omega) rfl ?_
    refine ev_ige rfl (fun hc => ?_) (fun hc => ?_)
    · rw [nI_leI (by omega) (by omega)] at hc
      rw [if_neg (by omega)] at K
      refine ev_go 80 rfl ?_
      try dsimp only
      try simp only [nI_inc, nI_1, nI_add, nI_mul2, tb_and, tb_or, tb_andn]
      exact K
    · rw [nI_leI (by omega) (by omega)] at hc
      rw [if_pos (by omega)] at K
      refine ev_go 80 rfl ?_
      refine ev_getf rfl hO rfl rfl ?_
      refine ev_go 80 rfl ?_
      refine ev_ia _ rfl hG rfl (by first | exact trivial | assumption | (show _ < _; omega)) (by omega) (by omega) rfl ?_
      refine ev_cs rfl rfl rfl (d' := 0) (by omega) (c_min) ?_
      rw [nI_minI (by omega) (by omega)]
      refine ev_go 80 rfl ?_
      try dsimp only
      try simp only [nI_inc, nI_1, nI_add, nI_mul2, tb_and, tb_or, tb_andn]
      exact K
  · refine ev_nop rfl ?_
    refine ev_go 80 rfl ?_
    refine ev_igeT rfl (nI_le (Nat.le_refl 4) (by decide)) ?_
    refine ev_go 80 rfl ?_
    exact ev_iret rfl
theorem c_atLeast (hO : PO h L) (hT : TA h 1 n f) (g : GD n f) (hm : m ≤ n) (hp : ∀ j, j < m → (f (5 * j) = 3 → a j = 4) ∧ (f (5 * j) ≠ 3 → a j < 4)) (hZ : IA h 28 4 (fun _ => True) (fun t => nI (ctn m a t))) (hG : IA h 29 4 (fun _ => True) (fun t => nI (rgh f a m t))) (hY : IA h 27 8 (fun j => j < m) (fun j => tv (a j))) (hd : 2 ≤ d) : ev_V scr d cd_X1_atLeastHarm 0 [.ref 25, .int (nI m), .float 0, .float 0, .float 0, .float 0] [] h (some (.int (nI (LB n f a m))), h) := by
  have hn := g.1
  have hw := g.w
  have lr : ∀ t, rgh f a m t ≤ 8 := fun t => by
    have := sm_le (g := fun j => tb_b (decide (a j = t) && decide (f (5 * j) = 1))) (c := 1) (n := m) (fun i _ => tb_le _)
    unfold rgh
    omega
  have l8 := few_8 f a m 4
  refine ev_go 80 rfl ?_
  refine ev_cv rfl rfl rfl rfl hO rfl (d' := 1) (by omega) (c_fewest hO hT g (by omega) hZ hG (Nat.le_refl _)) ?_
  refine ev_go 80 rfl ?_
  refine ev_loop n (fun j => ev_V scr d cd_X1_atLeastHarm 7 [.ref 25, .int (nI m), .int (nI (few f a m 4)), .int (nI (sm (fun m' => oda f m' (lbk f a m m') ((f 40).testBit m')) j)), .int (nI j), .float 0] [] h _) (fun j hj K => ?_) ?_
  · rw [sm_s] at K
    have tail : ∀ o : Int32, (f (5 * j) = 1 → o = nI (lbk f a m j) ∧ lbk f a m j < 100) → ev_V scr d cd_X1_atLeastHarm 35 [.ref 25, .int (nI m), .int (nI (few f a m 4)), .int (nI (sm (fun m' => oda f m' (lbk f a m m') ((f 40).testBit m')) j)), .int (nI j), .int o] [] h (some (.int (nI (LB n f a m))), h) := by
      intro o ho
      refine ev_go 80 rfl ?_
      refine ev_getf rfl hO rfl rfl ?_
      refine ev_go 80 rfl ?_
      refine ev_getf rfl hO rfl rfl ?_
      refine ev_getf rfl hT.1 rfl rfl ?_
      refine ev_go 80 rfl ?_
      refine ev_cs rfl rfl rfl (d' := 0) (by omega) (c_bitOf (by omega) (by omega)) ?_
      refine ev_zeqM 1 2 49 (v := nI (tb_b ((f 40).testBit j))) rfl rfl rfl (by cases (f 40).testBit j <;> rfl) ?_
      refine ev_cv rfl rfl rfl rfl hT.1 rfl (d' := 1) (by omega) (c_oddsG hT g hj ho ((f 40).testBit j) (Nat.le_refl _)) ?_
      refine ev_go 80 rfl ?_
      try dsimp only
      try simp only [nI_inc, nI_1, nI_add, nI_mul2, tb_and, tb_or, tb_andn]
      exact ev_weak (K) (by repeat (first | exact W_n | refine W_e ?_ | refine W_i ?_ | refine W_r ?_))
    refine ev_nop rfl ?_
    refine ev_go 80 rfl ?_
    refine ev_getf rfl hO rfl rfl ?_
    refine ev_getf rfl hT.1 rfl rfl ?_
    refine ev_igeF rfl (nI_ge hj (by omega)) ?_
    refine ev_go 80 rfl ?_
    refine ev_ige rfl (fun hc => ?_) (fun hc => ?_)
    · rw [nI_leI (by omega) (by omega)] at hc
      exact tail _ (fun _ => by
        unfold lbk
        rw [if_neg (by omega)]
        exact ⟨rfl, by omega⟩)
    · rw [nI_leI (by omega) (by omega)] at hc
      have hjm : j < m := by omega
      have la := lr (a j)
      refine ev_go 80 rfl ?_
      refine ev_getf rfl hO rfl rfl ?_
      refine ev_go 80 rfl ?_
      refine ev_ia _ rfl hY rfl (by first | exact trivial | assumption | (show _ < _; omega)) (by omega) (by omega) rfl ?_
      refine ev_zge rfl (fun k1 => ?_) (fun k1 => ?_)
      · have h4 : a j < 4 := Classical.not_not.mp (fun z => absurd k1 (Int32.not_le.mpr ((tv_neg _).mpr z)))
        refine ev_go 80 rfl ?_
        refine ev_getf rfl hO rfl rfl ?_
        refine ev_go 80 rfl ?_
        refine ev_getf rfl hO rfl rfl ?_
        refine ev_go 80 rfl ?_
        refine ev_ia j rfl hY rfl hjm (by omega) (by omega) (tv_lt h4) ?_
        refine ev_ia (a j) rfl hG rfl trivial (by omega) (by omega) rfl ?_
        refine ev_go 3 rfl ?_
        exact tail _ (fun hq => by
          have h1 : 1 ≤ rgh f a m (a j) := by
            have e := rgh_mono (f := f) (b := a) (m := j + 1) (n := m) (by omega) (a j)
            have e2 : rgh f a (j + 1) (a j) = rgh f a j (a j) + 1 := by
              unfold rgh
              rw [sm_s]
              simp [tb_b, hq]
            omega
          unfold lbk
          rw [if_pos hjm, if_pos h4]
          refine ⟨?_, by omega⟩
          show nI (rgh f a m (a j)) - nI 1 = _
          rw [pk_sub h1])
      · have h4 : ¬ a j < 4 := (tv_neg _).mp (Int32.not_le.mp k1)
        refine ev_go 3 rfl ?_
        exact tail _ (fun hq => absurd ((hp j hjm).2 (by omega)) h4)
  · refine ev_nop rfl ?_
    refine ev_go 80 rfl ?_
    refine ev_getf rfl hO rfl rfl ?_
    refine ev_getf rfl hT.1 rfl rfl ?_
    refine ev_igeT rfl (nI_le (Nat.le_refl _) (by first | omega | decide)) ?_
    refine ev_go 80 rfl ?_
    refine ev_getf rfl hO rfl rfl ?_
    refine ev_getf rfl hT.1 rfl rfl ?_
    refine ev_go 80 rfl ?_
    try dsimp only
    try simp only [nI_inc, nI_1, nI_add, nI_mul2, tb_and, tb_or, tb_andn]
    refine ev_getf rfl hO rfl rfl ?_
    refine ev_getf rfl hT.1 rfl rfl ?_
    refine ev_go 80 rfl ?_
    try dsimp only
    try simp only [nI_inc, nI_1, nI_add, nI_mul2, tb_and, tb_or, tb_andn]
    refine ev_getf rfl hO rfl rfl ?_
    refine ev_getf rfl hT.1 rfl rfl ?_
    refine ev_cs rfl rfl rfl (d' := 0) (by omega) (c_bitCount hw) ?_
    rw [li10]
    refine ev_go 80 rfl ?_
    try dsimp only
    try simp only [nI_inc, nI_1, nI_add, nI_mul2, tb_and, tb_or, tb_andn]
    exact ev_iret rfl
theorem c_isLike (hO : PO h L) (hT : TA h 1 n f) (g : GD n f) (hm : m ≤ 8) (hZ : IA h 28 4 (fun _ => True) (fun t => nI (ctn m a t))) {t : Nat} (ht : t < 4) : ev_V scr d cd_X1_isLikeEarlier 0 [.ref 25, .int (nI t), .float 0] [] h (some (.int (nI (tb_b (decide (ctn m a t = 0) && lik f a m t t)))), h) := by
  have lc : ∀ t, ctn m a t ≤ 8 := fun t => by
    have := sm_le (g := fun j => tb_b (decide (a j = t))) (c := 1) (n := m) (fun i _ => tb_le _)
    unfold ctn
    omega
  have lt0 := lc t
  have mt := (g.2.2.2.2.2.2.2.2.2 t ht).2
  refine ev_go 80 rfl ?_
  refine ev_loop t (fun u => lik f a m t u = false → ev_V scr d cd_X1_isLikeEarlier 2 [.ref 25, .int (nI t), .int (nI u)] [] h (some (.int (nI (tb_b (decide (ctn m a t = 0) && lik f a m t t)))), h)) (fun u hu K hl => ?_) (fun hl => ?_) rfl
  · have lu := lc u
    have mu := (g.2.2.2.2.2.2.2.2.2 u (by omega)).2
    refine ev_nop rfl ?_
    refine ev_go 80 rfl ?_
    refine ev_igeF rfl (nI_ge hu (by omega)) ?_
    refine ev_go 80 rfl ?_
    refine ev_getf rfl hO rfl rfl ?_
    refine ev_go 80 rfl ?_
    refine ev_ia _ rfl hZ rfl (by first | exact trivial | assumption | (show _ < _; omega)) (by omega) (by omega) rfl ?_
    refine ev_zne rfl (fun hc => ?_) (fun hc => ?_)
    · have c0 : ¬ ctn m a t = 0 := fun z => hc (by rw [z]; rfl)
      rw [decide_eq_false c0, Bool.false_and]
      refine ev_go 80 rfl ?_
      exact ev_tret rfl rfl
    · have c0 : ctn m a t = 0 := (nI_eq (b := 0) (by omega) (by decide)).mp hc
      refine ev_go 80 rfl ?_
      refine ev_getf rfl hO rfl rfl ?_
      refine ev_go 80 rfl ?_
      refine ev_ia _ rfl hZ rfl (by first | exact trivial | assumption | (show _ < _; omega)) (by omega) (by omega) rfl ?_
      refine ev_zne rfl (fun k1 => ?_) (fun k1 => ?_)
      · have c1 : ¬ ctn m a u = 0 := fun z => k1 (by rw [z]; rfl)
        refine ev_go 80 rfl ?_
        try dsimp only
        try simp only [nI_inc, nI_1, nI_add, nI_mul2, tb_and, tb_or, tb_andn]
        exact K (by rw [lik, hl, decide_eq_false c1]; rfl)
      · have c1 : ctn m a u = 0 := (nI_eq (b := 0) (by omega) (by decide)).mp k1
        refine ev_go 80 rfl ?_
        refine ev_getf rfl hO rfl rfl ?_
        refine ev_getf rfl hT.1 rfl rfl ?_
        refine ev_go 80 rfl ?_
        refine ev_ia _ rfl hT.2.2.2.2.2.2.1 rfl (by first | exact trivial | assumption | (show _ < _; omega)) (by omega) (by omega) rfl ?_
        refine ev_go 80 rfl ?_
        refine ev_getf rfl hO rfl rfl ?_
        refine ev_getf rfl hT.1 rfl rfl ?_
        refine ev_go 80 rfl ?_
        refine ev_ia _ rfl hT.2.2.2.2.2.2.1 rfl (by first | exact trivial | assumption | (show _ < _; omega)) (by omega) (by omega) rfl ?_
        refine ev_ine rfl (fun k2 => ?_) (fun k2 => ?_)
        · rw [nI_eq (by omega) (by omega)] at k2
          refine ev_go 80 rfl ?_
          try dsimp only
          try simp only [nI_inc, nI_1, nI_add, nI_mul2, tb_and, tb_or, tb_andn]
          exact K (by rw [lik, hl, decide_eq_false k2, Bool.and_false]; rfl)
        · rw [nI_eq (by omega) (by omega)] at k2
          rw [decide_eq_true c0, lik_t c1 k2 t hu]
          refine ev_go 80 rfl ?_
          exact ev_tret rfl rfl
  · rw [hl, Bool.and_false]
    refine ev_nop rfl ?_
    refine ev_go 80 rfl ?_
    refine ev_igeT rfl (nI_le (Nat.le_refl _) (by omega)) ?_
    refine ev_go 80 rfl ?_
    exact ev_tret rfl rfl
/-- what the search holds: m are seated as a says, s is the best so far -/
def TI (h : ev_H) (n : Nat) (f a : Nat → Nat) (m : Nat) (s : Nat × (Nat → Nat)) : Prop := PO h s.1 ∧ TA h 1 n f ∧ IA h 26 8 (fun j => j < n ∧ s.1 < 1000000) (fun j => tv (s.2 j)) ∧ IA h 27 8 (fun j => j < m) (fun j => tv (a j)) ∧ IA h 28 4 (fun _ => True) (fun t => nI (ctn m a t)) ∧ IA h 29 4 (fun _ => True) (fun t => nI (rgh f a m t))
theorem c_takeIt {s : Nat × (Nat → Nat)} {z : Nat} (hI : TI h n f a n s) (hn : n ≤ 8) : ev_X scr d cd_X1_takeIt 0 [.ref 25, .int (nI z), .float 0] [] h (fun v h' => v = none ∧ TI h' n f a n (z, a) ∧ FR 25 29 h h') := by
  obtain ⟨hO, hT, hS, hY, hZ, hG⟩ := hI
  refine ex_go 80 rfl ?_
  refine ex_pf rfl hO rfl rfl (fun h1 hO1 hB1 => ?_)
  have hT1 := hT.same (h' := h1) (fun j _ _ => hB1.2 j (by omega))
  have hY1 := hY.sb hB1 (by decide)
  refine ex_go 80 rfl ?_
  refine ev_loop n (fun i => ∀ h2, IA h2 26 8 (fun j => j < i ∧ True) (fun j => tv (a j)) → SB 26 h1 h2 → ev_X scr d cd_X1_takeIt 5 [.ref 25, .int (nI z), .int (nI i)] [] h2 _) (fun i hi K h2 hA2 hB2 => ?_) (fun h2 hA2 hB2 => ?_) h1 (hS.sb hB1 (by decide)).none SB.rf
  · have hO2 := (hB2.2 25 (by decide)).trans hO1
    have hT2 := hT1.same (h' := h2) (fun j _ _ => hB2.2 j (by omega))
    have hY2 := hY1.sb hB2 (by decide)
    refine ex_nop rfl ?_
    refine ex_go 80 rfl ?_
    refine ex_getf rfl hO2 rfl rfl ?_
    refine ex_getf rfl hT2.1 rfl rfl ?_
    refine ex_igeF rfl (nI_ge hi (by first | omega | decide)) ?_
    refine ex_go 80 rfl ?_
    refine ex_getf rfl hO2 rfl rfl ?_
    refine ex_go 80 rfl ?_
    refine ex_getf rfl hO2 rfl rfl ?_
    refine ex_go 80 rfl ?_
    refine ex_ia _ rfl hY2 rfl (by first | exact trivial | assumption | (show _ < _; omega)) (by omega) (by omega) rfl ?_
    refine ex_is _ rfl hA2 rfl (by omega) (by omega) (fun h3 hA3 hB3 => ?_)
    refine ex_go 80 rfl ?_
    try dsimp only
    try simp only [nI_inc, nI_1, nI_add, nI_mul2, tb_and, tb_or, tb_andn]
    exact K h3 (hA3.grow (fun _ => rfl)) (hB2.tr hB3)
  · have hO2 := (hB2.2 25 (by decide)).trans hO1
    have hT2 := hT1.same (h' := h2) (fun j _ _ => hB2.2 j (by omega))
    refine ex_nop rfl ?_
    refine ex_go 80 rfl ?_
    refine ex_getf rfl hO2 rfl rfl ?_
    refine ex_getf rfl hT2.1 rfl rfl ?_
    refine ex_igeT rfl (nI_le (Nat.le_refl _) (by first | omega | decide)) ?_
    exact ex_vret rfl (⟨rfl, ⟨hO2, hT2, hA2.congr (fun j hj hp => ⟨⟨hp.1, trivial⟩, rfl⟩), hY1.sb hB2 (by decide), (hZ.sb hB1 (by decide)).sb hB2 (by decide), (hG.sb hB1 (by decide)).sb hB2 (by decide)⟩, (hB1.fr (by decide) (by decide)).tr (hB2.fr (by decide) (by decide))⟩)
theorem LB_wan {n : Nat} {f a : Nat → Nat} {m : Nat} (hw : f (5 * m) = 3) : LB n f (up a m 4) (m + 1) ≤ LB n f a m := by
  have ec : ∀ t, t < 4 → ctn (m + 1) (up a m 4) t = ctn m a t := fun t ht => by
    rw [ctn_s, decide_eq_false (show ¬ 4 = t by omega)]; rfl
  have er : ∀ t, rgh f (up a m 4) (m + 1) t = rgh f a m t := fun t => by
    rw [rgh_s, decide_eq_false (show ¬ f (5 * m) = 1 by omega), Bool.and_false]; rfl
  have ef : ∀ k, k ≤ 4 → few f (up a m 4) (m + 1) k = few f a m k := by
    intro k
    induction k with
    | zero => intro _; rfl
    | succ k ih => intro hk; rw [few, few, ih (by omega), ec k (by omega), er]
  refine hsm_mono (fun j hj hq => ?_)
  unfold lbk
  by_cases c : j < m
  · rw [if_pos (by omega), if_pos c, up_ne (by omega), er]
    exact Nat.le_refl _
  · have : j ≠ m := fun e => by rw [e] at hq; omega
    rw [if_neg (by omega), if_neg c, ef 4 (by decide)]
    exact Nat.le_refl _
theorem hsm_lt {n : Nat} {f : Nat → Nat} (g : GD n f) (k : Nat → Nat) : hsm n f k < 100000 := by
  have hn := g.1
  have h1 : sm (fun m => oda f m (k m) ((f 40).testBit m)) n ≤ 72 := Nat.le_trans (sm_le (c := 9) (fun i _ => oda_le _ _ _ _)) (by omega)
  have h3 := Nat.mul_le_mul h1 g.2.2.2.1
  have h4 : 10 * f 42 * pc8 (f 40) ≤ 90 * 8 := Nat.mul_le_mul (by have := g.2.2.2.2.1; omega) (pc8_le _)
  unfold hsm
  omega
theorem c_seatFrom (g : GD n f) : ∀ k m a s (h : ev_H) (d : Nat), k + 4 ≤ d → m + k = n → (∀ j, j < m → (f (5 * j) = 3 → a j = 4) ∧ (f (5 * j) ≠ 3 → a j < 4)) → (∀ t, t < 4 → ctn m a t ≤ f (60 + t)) → TI h n f a m s → LB n f a m < s.1 → s.1 ≤ 1000000 → ev_X scr d cd_X1_seatFrom 0 [.ref 25, .int (nI m), .float 0, .float 0] [] h (fun v h' => v = none ∧ TI h' n f a m (scn n f k m a s) ∧ FR 25 29 h h') := by
  have hn := g.1
  intro k
  induction k with
  | zero =>
    intro m a s h d hd hk hp hv hI hlb hsl
    have e : m = n := by omega
    subst e
    obtain ⟨hO, hT, hS, hY, hZ, hG⟩ := id hI
    have pp : prp m f a := hp
    have hvd : vld m f a = true := (vb_iff m f a 4).mpr hv
    have es : scn m f 0 m a s = (LB m f a m, a) := by
      rw [scn, lf, if_pos ⟨hvd, by rw [← LB_n g pp]; exact hlb⟩, LB_n g pp]
    rw [es]
    refine ex_go 80 rfl ?_
    refine ex_getf rfl hO rfl rfl ?_
    refine ex_getf rfl hT.1 rfl rfl ?_
    refine ex_igeT rfl (nI_le (Nat.le_refl _) (by omega)) ?_
    refine ex_go 80 rfl ?_
    refine ex_cv rfl rfl rfl rfl hO rfl (d' := 2) (by omega) (c_atLeast hO hT g (Nat.le_refl _) hp hZ hG hY (Nat.le_refl _)) ?_
    refine ex_cvx rfl rfl rfl rfl hO rfl (d' := 0) (by omega) (c_takeIt hI hn) ?_
    rintro v h1 ⟨rfl, hI1, hF1⟩
    exact ex_vret rfl ⟨rfl, hI1, hF1⟩
  | succ k ih =>
    intro m a s h d hd hk hp hv hI hlb hsl
    obtain ⟨hO, hT, hS, hY, hZ, hG⟩ := id hI
    have gk := (g.2.1 m (by omega)).1
    have lc : ∀ t, ctn m a t ≤ 8 := fun t => by
      have := sm_le (g := fun j => tb_b (decide (a j = t))) (c := 1) (n := m) (fun i _ => tb_le _)
      unfold ctn
      omega
    refine ex_go 80 rfl ?_
    refine ex_getf rfl hO rfl rfl ?_
    refine ex_getf rfl hT.1 rfl rfl ?_
    refine ex_igeF rfl (nI_ge (show m < n by omega) (by omega)) ?_
    refine ex_go 80 rfl ?_
    refine ex_iltT rfl ((nI_ltI (b := 8) (by omega) (by decide)).mpr (by omega)) ?_
    refine ex_go 80 rfl ?_
    refine ex_getf rfl hO rfl rfl ?_
    refine ex_getf rfl hT.1 rfl rfl ?_
    refine ex_go 80 rfl ?_
    refine ex_ia _ rfl hT.2.1 rfl (by first | exact trivial | assumption | (show _ < _; omega)) (by omega) (by omega) rfl ?_
    refine ex_go 80 rfl ?_
    refine ex_ine rfl (fun hc => ?_) (fun hc => ?_)
    · have hw : ¬ f (5 * m) = 3 := fun z => hc (by rw [z]; rfl)
      have es : scn n f (k + 1) m a s = sct n f k m a s 4 := by
        rw [scn, if_neg hw]
        rfl
      rw [es]
      refine ex_go 80 rfl ?_
      refine ex_getf rfl hO rfl rfl ?_
      refine ex_getf rfl hT.1 rfl rfl ?_
      refine ex_go 80 rfl ?_
      refine ex_ia _ rfl hT.2.1 rfl (by first | exact trivial | assumption | (show _ < _; omega)) (by omega) (by omega) rfl ?_
      refine ex_go 80 rfl ?_
      refine ex_ineM 1 2 42 (v := nI (tb_b (decide (f (5 * m) = 1)))) rfl rfl rfl (if10 (nI_eq (b := 1) (by omega) (by decide))) ?_
      refine ex_go 80 rfl ?_
      refine ev_loop 4 (fun t => ∀ h1, TI h1 n f a m (sct n f k m a s t) → FR 25 29 h h1 → ev_X scr d cd_X1_seatFrom 45 [.ref 25, .int (nI m), .int (nI (tb_b (decide (f (5 * m) = 1)))), .int (nI t)] [] h1 _) (fun t ht K h1 hI1 hF1 => ?_) (fun h1 hI1 hF1 => ?_) h hI FR.rf
      · obtain ⟨hO1, hT1, hS1, hY1, hZ1, hG1⟩ := id hI1
        have l1 := lc t
        have l4 := (g.2.2.2.2.2.2.2.2.2 t ht).2
        have hsl1 : (sct n f k m a s t).1 ≤ 1000000 := Nat.le_trans (sct_dec n f k m a s t 0 (by omega)) hsl
        refine ex_nop rfl ?_
        refine ex_go 80 rfl ?_
        refine ex_igeF rfl (nI_ge ht (by decide)) ?_
        refine ex_go 80 rfl ?_
        refine ex_getf rfl hO1 rfl rfl ?_
        refine ex_go 80 rfl ?_
        refine ex_ia _ rfl hZ1 rfl (by first | exact trivial | assumption | (show _ < _; omega)) (by omega) (by omega) rfl ?_
        refine ex_go 80 rfl ?_
        refine ex_getf rfl hO1 rfl rfl ?_
        refine ex_getf rfl hT1.1 rfl rfl ?_
        refine ex_go 80 rfl ?_
        refine ex_ia _ rfl hT1.2.2.2.2.2.2.1 rfl (by first | exact trivial | assumption | (show _ < _; omega)) (by omega) (by omega) rfl ?_
        refine ex_ige rfl (fun k1 => ?_) (fun k1 => ?_)
        · rw [nI_leI (by omega) (by omega)] at k1
          rw [step_id g hk ht hw hp (Or.inl (by omega))] at K
          refine ex_go 80 rfl ?_
          try dsimp only
          try simp only [nI_inc, nI_1, nI_add, nI_mul2, tb_and, tb_or, tb_andn]
          exact K h1 hI1 hF1
        · rw [nI_leI (by omega) (by omega)] at k1
          refine ex_go 80 rfl ?_
          refine ex_cv rfl rfl rfl rfl hO1 rfl (d' := 0) (by omega) (c_isLike hO1 hT1 g (by omega) hZ1 ht) ?_
          by_cases cl : ctn m a t = 0 ∧ lik f a m t t = true
          · rw [step_id g hk ht hw hp (Or.inr (Or.inl cl))] at K
            rw [decide_eq_true cl.1, cl.2]
            refine ex_zneT rfl (by decide) ?_
            refine ex_go 80 rfl ?_
            try dsimp only
            try simp only [nI_inc, nI_1, nI_add, nI_mul2, tb_and, tb_or, tb_andn]
            exact K h1 hI1 hF1
          · have el : (decide (ctn m a t = 0) && lik f a m t t) = false := by
              cases hx : (decide (ctn m a t = 0) && lik f a m t t)
              · rfl
              · rw [Bool.and_eq_true, decide_eq_true_eq] at hx
                exact absurd hx cl
            rw [el]
            refine ex_zneF rfl (by decide) ?_
            refine ex_go 80 rfl ?_
            refine ex_getf rfl hO1 rfl rfl ?_
            refine ex_go 80 rfl ?_
            refine ex_is _ rfl hY1 rfl (by omega) (by omega) (fun h2 hA2 hB2 => ?_)
            have hO2 := (hB2.2 25 (by decide)).trans hO1
            have hZ2 := hZ1.sb hB2 (by decide)
            have hG2 := hG1.sb hB2 (by decide)
            have hY2 : IA h2 27 8 (fun j => j < m + 1) (fun j => tv (up a m t j)) := hA2.congr (fun j hj hpj => ⟨by omega, by
              by_cases c : j = m
              · rw [if_pos c, c, up_eq, tv_lt ht]
              · rw [if_neg c, up_ne c]⟩)
            refine ex_go 80 rfl ?_
            refine ex_getf rfl hO2 rfl rfl ?_
            refine ex_go 80 rfl ?_
            refine ex_ia _ rfl hZ2 rfl (by first | exact trivial | assumption | (show _ < _; omega)) (by omega) (by omega) rfl ?_
            refine ex_go 80 rfl ?_
            try dsimp only
            try simp only [nI_inc, nI_1, nI_add, nI_mul2, tb_and, tb_or, tb_andn]
            refine ex_is _ rfl hZ2 rfl (by omega) (by omega) (fun h3 hA3 hB3 => ?_)
            have hO3 := (hB3.2 25 (by decide)).trans hO2
            have hG3 := hG2.sb hB3 (by decide)
            have hZ3 : IA h3 28 4 (fun _ => True) (fun v => nI (ctn (m + 1) (up a m t) v)) := hA3.congr (fun v _ _ => ⟨Or.inl trivial, by
              rw [ctn_s]
              by_cases c : v = t
              · rw [if_pos c, c, decide_eq_true rfl]; rfl
              · rw [if_neg c, decide_eq_false (Ne.symm c)]; rfl⟩)
            refine ex_go 80 rfl ?_
            refine ex_getf rfl hO3 rfl rfl ?_
            refine ex_go 80 rfl ?_
            refine ex_ia _ rfl hG3 rfl (by first | exact trivial | assumption | (show _ < _; omega)) (by omega) (by omega) rfl ?_
            refine ex_go 80 rfl ?_
            try dsimp only
            try simp only [nI_inc, nI_1, nI_add, nI_mul2, tb_and, tb_or, tb_andn]
            refine ex_is _ rfl hG3 rfl (by omega) (by omega) (fun h4 hA4 hB4 => ?_)
            have hO4 := (hB4.2 25 (by decide)).trans hO3
            have hG4 : IA h4 29 4 (fun _ => True) (fun v => nI (rgh f (up a m t) (m + 1) v)) := hA4.congr (fun v _ _ => ⟨Or.inl trivial, by
              rw [rgh_s]
              by_cases c : v = t
              · rw [if_pos c, c, decide_eq_true rfl, Bool.true_and]
              · rw [if_neg c, decide_eq_false (Ne.symm c)]; rfl⟩)
            have hY4 := (hY2.sb hB3 (by decide)).sb hB4 (by decide)
            have hZ4 := hZ3.sb hB4 (by decide)
            have hF4 : FR 25 29 h1 h4 := ((hB2.fr (by decide) (by decide)).tr (hB3.fr (by decide) (by decide))).tr (hB4.fr (by decide) (by decide))
            have hT4 := hT1.same (h' := h4) (fun j _ _ => hF4.2 j (by omega))
            have hS4 := ((hS1.sb hB2 (by decide)).sb hB3 (by decide)).sb hB4 (by decide)
            have hI4 : TI h4 n f (up a m t) (m + 1) (sct n f k m a s t) := ⟨hO4, hT4, hS4, hY4, hZ4, hG4⟩
            have hp' : ∀ j, j < m + 1 → (f (5 * j) = 3 → up a m t j = 4) ∧ (f (5 * j) ≠ 3 → up a m t j < 4) := fun j hj => by
              by_cases c : j = m
              · rw [c, up_eq]; exact ⟨fun z => absurd z hw, fun _ => ht⟩
              · rw [up_ne c]; exact hp j (by omega)
            have back : ∀ s' h5, TI h5 n f (up a m t) (m + 1) s' → FR 25 29 h h5 → s' = sct n f k m a s (t + 1) → ev_X scr d cd_X1_seatFrom 97 [.ref 25, .int (nI m), .int (nI (tb_b (decide (f (5 * m) = 1)))), .int (nI t)] [] h5 (fun v h' => v = none ∧ TI h' n f a m (sct n f k m a s 4) ∧ FR 25 29 h h') := by
              intro s' h5 hI5 hF5 hs'
              obtain ⟨hO5, hT5, hS5, hY5, hZ5, hG5⟩ := hI5
              refine ex_go 80 rfl ?_
              refine ex_getf rfl hO5 rfl rfl ?_
              refine ex_go 80 rfl ?_
              refine ex_ia _ rfl hZ5 rfl (by first | exact trivial | assumption | (show _ < _; omega)) (by omega) (by omega) rfl ?_
              refine ex_go 80 rfl ?_
              try dsimp only
              try simp only [nI_inc, nI_1, nI_add, nI_mul2, tb_and, tb_or, tb_andn]
              refine ex_is _ rfl hZ5 rfl (by omega) (by omega) (fun h6 hA6 hB6 => ?_)
              have hO6 := (hB6.2 25 (by decide)).trans hO5
              have hG6 := hG5.sb hB6 (by decide)
              refine ex_go 80 rfl ?_
              refine ex_getf rfl hO6 rfl rfl ?_
              refine ex_go 80 rfl ?_
              refine ex_ia _ rfl hG6 rfl (by first | exact trivial | assumption | (show _ < _; omega)) (by omega) (by omega) rfl ?_
              refine ex_go 80 rfl ?_
              try dsimp only
              try simp only [nI_inc, nI_1, nI_add, nI_mul2, tb_and, tb_or, tb_andn]
              refine ex_is _ rfl hG6 rfl (by omega) (by omega) (fun h7 hA7 hB7 => ?_)
              have hF7 : FR 25 29 h5 h7 := (hB6.fr (by decide) (by decide)).tr (hB7.fr (by decide) (by decide))
              have hZ7 : IA h7 28 4 (fun _ => True) (fun v => nI (ctn m a v)) := (hA6.sb hB7 (by decide)).congr (fun v _ _ => ⟨Or.inl trivial, by
                by_cases c : v = t
                · rw [if_pos c, c, ctn_s, decide_eq_true rfl, show tb_b true = 1 from rfl, nI_pred]
                · rw [if_neg c, ctn_s, decide_eq_false (Ne.symm c)]; rfl⟩)
              have hG7 : IA h7 29 4 (fun _ => True) (fun v => nI (rgh f a m v)) := hA7.congr (fun v _ _ => ⟨Or.inl trivial, by
                by_cases c : v = t
                · rw [if_pos c, c, rgh_s, decide_eq_true rfl, Bool.true_and, pk_sub (by omega), Nat.add_sub_cancel]
                · rw [if_neg c, rgh_s, decide_eq_false (Ne.symm c)]; rfl⟩)
              refine ex_go 80 rfl ?_
              try dsimp only
              try simp only [nI_inc, nI_1, nI_add, nI_mul2, tb_and, tb_or, tb_andn]
              refine K h7 ?_ (hF5.tr hF7)
              rw [← hs']
              exact ⟨(hB7.2 25 (by decide)).trans hO6, hT5.same (fun j _ _ => hF7.2 j (by omega)), (hS5.sb hB6 (by decide)).sb hB7 (by decide), ((hY5.sb hB6 (by decide)).sb hB7 (by decide)).congr (fun j hj hpj => ⟨by omega, by rw [up_ne (by omega)]⟩), hZ7, hG7⟩
            refine ex_go 80 rfl ?_
            try dsimp only
            try simp only [nI_inc, nI_1, nI_add, nI_mul2, tb_and, tb_or, tb_andn]
            refine ex_cv rfl rfl rfl rfl hO4 rfl (d' := 2) (by omega) (c_atLeast hO4 hT4 g (by omega) hp' hZ4 hG4 hY4 (Nat.le_refl _)) ?_
            refine ex_go 80 rfl ?_
            refine ex_getf rfl hO4 rfl rfl ?_
            have lbl : LB n f (up a m t) (m + 1) < 100000 := hsm_lt g _
            by_cases k2 : LB n f (up a m t) (m + 1) < (sct n f k m a s t).1
            · refine ex_igeF rfl (nI_ge k2 (by omega)) ?_
              refine ex_go 80 rfl ?_
              dsimp only
              rw [nI_1]
              refine ex_cvx rfl rfl rfl rfl hO4 rfl (d' := d - 1) (by omega) (ih (m + 1) (up a m t) (sct n f k m a s t) h4 (d - 1) (by omega) (by omega) hp' (fun v hv4 => ?_) hI4 k2 hsl1) ?_
              · rw [ctn_s]
                by_cases c : t = v
                · rw [decide_eq_true c, ← c]
                  have : tb_b true = 1 := rfl
                  omega
                · rw [decide_eq_false c]
                  exact hv v hv4
              · rintro v5 h5 ⟨rfl, hI5, hF5⟩
                exact back _ h5 hI5 ((hF1.tr hF4).tr hF5) rfl
            · have es2 := step_id g hk ht hw hp (s := s) (k := k) (Or.inr (Or.inr (Nat.le_of_not_lt k2)))
              refine ex_igeT rfl (nI_le (by omega) (by omega)) ?_
              exact back _ h4 hI4 (hF1.tr hF4) es2.symm
      · obtain ⟨hO1, hT1, hS1, hY1, hZ1, hG1⟩ := id hI1
        refine ex_nop rfl ?_
        refine ex_go 80 rfl ?_
        refine ex_igeT rfl (nI_le (Nat.le_refl 4) (by decide)) ?_
        exact ex_vret rfl (⟨rfl, hI1, hF1⟩)
    · have hw : f (5 * m) = 3 := (nI_eq (b := 3) (by omega) (by decide)).mp hc
      have es : scn n f (k + 1) m a s = scn n f k (m + 1) (up a m 4) s := by rw [scn, if_pos hw]
      rw [es]
      refine ex_go 80 rfl ?_
      refine ex_getf rfl hO rfl rfl ?_
      refine ex_go 80 rfl ?_
      refine ex_is _ rfl hY rfl (by omega) (by omega) (fun h2 hA2 hB2 => ?_)
      have hO2 := (hB2.2 25 (by decide)).trans hO
      have hF2 : FR 25 29 h h2 := hB2.fr (by decide) (by decide)
      have ec : ∀ t, t < 4 → ctn (m + 1) (up a m 4) t = ctn m a t := fun t ht => by
        rw [ctn_s, decide_eq_false (show ¬ 4 = t by omega)]; rfl
      have er : ∀ t, rgh f (up a m 4) (m + 1) t = rgh f a m t := fun t => by
        rw [rgh_s, decide_eq_false (show ¬ f (5 * m) = 1 by omega), Bool.and_false]; rfl
      have hI2 : TI h2 n f (up a m 4) (m + 1) s := ⟨hO2, hT.same (fun j _ _ => hB2.2 j (by omega)), hS.sb hB2 (by decide), hA2.congr (fun j hj hpj => ⟨by omega, by
        by_cases c : j = m
        · rw [if_pos c, c, up_eq]; rfl
        · rw [if_neg c, up_ne c]⟩), (hZ.sb hB2 (by decide)).congr (fun t ht _ => ⟨trivial, by rw [ec t ht]⟩), (hG.sb hB2 (by decide)).congr (fun t ht _ => ⟨trivial, by rw [er t]⟩)⟩
      have hp' : ∀ j, j < m + 1 → (f (5 * j) = 3 → up a m 4 j = 4) ∧ (f (5 * j) ≠ 3 → up a m 4 j < 4) := fun j hj => by
        by_cases c : j = m
        · rw [c, up_eq]; exact ⟨fun _ => rfl, fun z => absurd hw z⟩
        · rw [up_ne c]; exact hp j (by omega)
      refine ex_go 80 rfl ?_
      dsimp only
      rw [nI_1]
      refine ex_cvx rfl rfl rfl rfl hO2 rfl (d' := d - 1) (by omega) (ih (m + 1) (up a m 4) s h2 (d - 1) (by omega) (by omega) hp' (fun v hv4 => by rw [ec v hv4]; exact hv v hv4) hI2 (Nat.lt_of_le_of_lt (LB_wan hw) hlb) hsl) ?_
      rintro v5 h5 ⟨rfl, hI5, hF5⟩
      obtain ⟨hO5, hT5, hS5, hY5, hZ5, hG5⟩ := hI5
      exact ex_vret rfl ⟨rfl, ⟨hO5, hT5, hS5, hY5.congr (fun j hj hpj => ⟨by omega, by rw [up_ne (by omega)]⟩), hZ5.congr (fun t ht _ => ⟨trivial, by rw [ec t ht]⟩), hG5.congr (fun t ht _ => ⟨trivial, by rw [er t]⟩)⟩, hF2.tr hF5⟩
end SEAT
