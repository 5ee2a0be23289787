/-! read. -/
def fl2 (v : Bool) (s l : Nat) (a i : Int32) : Int32 := if flt v s l a i = 0 then flt v s l a (i + 1) else flt v s l a i
def mvok (n : Nat) (g : Nat → Nat) (m t : Int32) : Bool := (isM n m && isM 4 t) && decide (wns n g (ix m) (ix t) = 0)
theorem mvok_t {n : Nat} {g : Nat → Nat} {m t : Int32} (hn : n ≤ 8) (h : mvok n g m t = true) : ∃ i j, i < n ∧ j < 4 ∧ m = nI i ∧ t = nI j ∧ wns n g i j = 0 := by
  unfold mvok at h
  rw [Bool.and_eq_true, Bool.and_eq_true, decide_eq_true_eq] at h
  obtain ⟨i, hi, rfl⟩ := isM_of h.1.1 (by omega)
  obtain ⟨j, hj, rfl⟩ := isM_of h.1.2 (by omega)
  have := h.2
  rw [ix_nI (by omega), ix_nI (by omega)] at this
  exact ⟨i, j, hi, hj, rfl, rfl, this⟩
theorem a_move_f {n : Nat} {g : Nat → Nat} {m t : Int32} (h : mvok n g m t = false) : a_move n g m t = -1 ∨ a_move n g m t = -3 := by
  unfold mvok at h
  unfold a_move
  by_cases c : (isM n m && isM 4 t) = true
  · rw [c, Bool.true_and, decide_eq_false_iff_not] at h
    rw [if_pos c, if_neg h]
    exact Or.inr rfl
  · rw [if_neg c]
    exact Or.inl rfl
theorem s_move_f {n : Nat} {g : Nat → Nat} {m t : Int32} (h : mvok n g m t = false) : s_move n g m t = g := by
  unfold mvok at h
  unfold s_move
  by_cases c : (isM n m && isM 4 t) = true
  · rw [c, Bool.true_and, decide_eq_false_iff_not] at h
    rw [if_pos c, if_neg h]
  · rw [if_neg c]
theorem a_move_t {n : Nat} {g : Nat → Nat} {m t : Int32} (gd : GD n g) (h : mvok n g m t = true) : a_move n g m t ≠ -1 ∧ a_move n g m t ≠ -3 := by
  obtain ⟨i, j, hi, hj, rfl, rfl, hw⟩ := mvok_t gd.1 h
  have hn := gd.1
  have g4 := (gd.2.1 i hi).2.2.2.1
  have : ∀ y, y < 5 → tv y ≠ -1 ∧ tv y ≠ -3 := by decide
  unfold a_move
  rw [isM_nI hi (by omega), isM_nI hj (by omega), ix_nI (by omega), ix_nI (by omega), Bool.true_and, if_pos rfl, if_pos hw]
  exact this _ (by omega)
theorem s_move_60 {n : Nat} {g : Nat → Nat} (gd : GD n g) (m t : Int32) {k : Nat} (hk : 40 ≤ k) : s_move n g m t k = g k := by
  have hn := gd.1
  unfold s_move
  by_cases c : (isM n m && isM 4 t) = true
  · rw [if_pos c]
    rw [Bool.and_eq_true] at c
    obtain ⟨i, hi, rfl⟩ := isM_of c.1 (by omega)
    rw [ix_nI (by omega)]
    split
    · unfold seF
      split
      · rw [up_ne (by omega), up_ne (by omega)]
      · rw [up_ne (by omega)]
    · rfl
  · rw [if_neg c]
/-- k more pairs, from the i-th on -/
def rdr (n : Nat) (v : Bool) (s l : Nat) (a fI : Int32) (c : Nat → Int32) (f0 : Nat → Nat) (t0 : Int32) : Nat → Nat → (Nat → Nat) → Nat → Int32 × (Nat → Nat) × Int32
  | 0, _, g, m => (nI m, g, 0)
  | k + 1, i, g, m => if fl2 v s l a (fI + nI (2 * i)) = 0 then (if mvok n g (c (ix (fI + nI (2 * i)))) (c (ix (fI + nI (2 * i)) + 1)) = true then rdr n v s l a fI c f0 t0 k (i + 1) (s_move n g (c (ix (fI + nI (2 * i)))) (c (ix (fI + nI (2 * i)) + 1))) (m + 1) else (-20 - nI i, f0, t0)) else (nI m, g, fl2 v s l a (fI + nI (2 * i)))
def okR (k l m : Int32) : Bool := isM 4 k && (isM 3 l && isM 21 m)
def rdA (n : Nat) (f : Nat → Nat) (t0 : Int32) (sv : Nat → Bool) (sl ss : Nat → Nat) (sc : Nat → Nat → Int32) (k l p m : Int32) : Int32 × (Nat → Nat) × Int32 := if okR k l m = true then rdr n (sv (ix k)) (ss (ix k)) (sl (ix k)) l p (sc (ix k)) f t0 (ix m) 0 f 0 else (-1, f, t0)
theorem flt_0 {v : Bool} {s l : Nat} {a i : Int32} (h : flt v s l a i = 0) : v = true ∧ a = nI l ∧ isM s i = true := by
  unfold flt at h
  by_cases c1 : v = true
  · rw [if_pos c1] at h
    by_cases c2 : a = nI l
    · rw [if_pos c2] at h
      by_cases c3 : isM s i = true
      · exact ⟨c1, c2, c3⟩
      · rw [if_neg c3] at h; exact absurd h (by decide)
    · rw [if_neg c2] at h; exact absurd h (by decide)
  · rw [if_neg c1] at h; exact absurd h (by decide)
theorem fl2_0 {v : Bool} {s l : Nat} {a i : Int32} (hs : s ≤ 40) (h : fl2 v s l a i = 0) : ∃ z, z + 1 < s ∧ i = nI z ∧ i + 1 = nI (z + 1) ∧ ix i = z := by
  unfold fl2 at h
  by_cases c : flt v s l a i = 0
  · rw [if_pos c] at h
    obtain ⟨z, hz, rfl⟩ := isM_of (flt_0 c).2.2 (by omega)
    obtain ⟨y, hy, e⟩ := isM_of (flt_0 h).2.2 (by omega)
    rw [nI_1] at e
    have : z + 1 = y := (nI_eq (by omega) (by omega)).mp e
    exact ⟨z, by omega, rfl, nI_1 z, ix_nI (by omega)⟩
  · rw [if_neg c] at h
    exact absurd h c
section READ
variable {scr : List Int32} {d : Nat} {h : ev_H} {n : Nat} {f : Nat → Nat} {x q im : Nat → Int32} {sv : Nat → Bool} {sl ss : Nat → Nat} {sc : Nat → Nat → Int32}
theorem c_faultAtTwo {k l s : Nat} {v : Bool} (hO : SHo h k l (szI v s)) (hs : s ≤ 40) {a i : Int32} (hd : 1 ≤ d) : ev_X scr d cd_X2_faultAtTwo 0 [.ref (49 + 2 * k), .int a, .int i, .float 0] [] h (fun r h' => r = some (.int (fl2 v s l a i)) ∧ h' = h) := by
  unfold fl2
  refine ex_go 80 rfl ?_
  refine ex_cvx rfl rfl rfl rfl hO rfl (d' := 0) (by omega) (c_faultAt hO hs) ?_
  rintro v1 h1 ⟨rfl, rfl⟩
  refine ex_go 80 rfl ?_
  refine ex_zeq rfl (fun hc => ?_) (fun hc => ?_)
  · rw [if_pos hc]
    refine ex_go 80 rfl ?_
    try dsimp only
    try simp only [nI_inc, nI_1, nI_add, nI_mul2, tb_and, tb_or, tb_andn]
    refine ex_cvx rfl rfl rfl rfl hO rfl (d' := 0) (by omega) (c_faultAt hO hs) ?_
    rintro v2 h2 ⟨rfl, rfl⟩
    exact ex_iret rfl (⟨rfl, rfl⟩)
  · rw [if_neg hc]
    refine ex_go 80 rfl ?_
    exact ex_iret rfl (⟨rfl, rfl⟩)
theorem k_read (hC : CO h x) (hT : TA h 1 n f) (hL : TL h) (hS : SHc h sv sl ss sc) (hb : ∀ k, k < 4 → sl k ≤ 2 ∧ ss k ≤ 40) (g : GD n f) {k l p m : Int32} (hd : 3 ≤ d) : ev_X scr d cd_X5_read 0 [.ref 0, .int k, .int l, .int p, .int m, .float 0, .float 0, .float 0, .float 0, .float 0] [] h (fun v h' => v = some (.int (rdA n f (x 2) sv sl ss sc k l p m).1) ∧ TA h' 1 n (rdA n f (x 2) sv sl ss sc k l p m).2.1 ∧ CO h' (ux x 2 (rdA n f (x 2) sv sl ss sc k l p m).2.2) ∧ TL h' ∧ FR 0 18 h h') := by
  have hn := g.1
  have same : ux x 2 (x 2) = x := by
    funext j
    unfold ux
    split
    · rename_i e; rw [e]
    · rfl
  unfold rdA okR
  refine ex_go 80 rfl ?_
  refine ex_cs rfl rfl rfl (d' := 0) (by omega) (c_isWithin (k := 3) (by decide)) ?_
  show ev_X scr d cd_X5_read _ _ [.int (nI (tb_b (isM 4 k)))] _ _
  cases hk : isM 4 k
  · refine ex_zeqT rfl (by decide) ?_
    refine ex_go 80 rfl ?_
    exact ex_iret rfl (⟨rfl, hT, by rw [Bool.false_and, if_neg (by decide), same]; exact hC, hL, FR.rf⟩)
  · refine ex_zeqF rfl (by decide) ?_
    refine ex_go 80 rfl ?_
    refine ex_cs rfl rfl rfl (d' := 0) (by omega) (c_isWithin (k := 2) (by decide)) ?_
    show ev_X scr d cd_X5_read _ _ [.int (nI (tb_b (isM 3 l)))] _ _
    cases hl : isM 3 l
    · refine ex_zeqT rfl (by decide) ?_
      refine ex_go 80 rfl ?_
      exact ex_iret rfl (⟨rfl, hT, by rw [Bool.false_and, Bool.and_false, if_neg (by decide), same]; exact hC, hL, FR.rf⟩)
    · refine ex_zeqF rfl (by decide) ?_
      refine ex_go 80 rfl ?_
      refine ex_cs rfl rfl rfl (d' := 0) (by omega) (c_isWithin (k := 20) (by decide)) ?_
      show ev_X scr d cd_X5_read _ _ [.int (nI (tb_b (isM 21 m)))] _ _
      cases hm : isM 21 m
      · refine ex_zneF rfl (by decide) ?_
        refine ex_go 80 rfl ?_
        exact ex_iret rfl (⟨rfl, hT, by rw [Bool.and_false, Bool.and_false, if_neg (by decide), same]; exact hC, hL, FR.rf⟩)
      · obtain ⟨y, hy, rfl⟩ := isM_of hk (by decide)
        obtain ⟨N, hN, rfl⟩ := isM_of hm (by decide)
        rw [ix_nI (by omega), ix_nI (by omega), Bool.true_and, Bool.true_and, if_pos rfl]
        obtain ⟨s1, s2⟩ := id hS
        obtain ⟨hb1, hb2⟩ := hb y hy
        obtain ⟨n2, f2, hR⟩ := hL
        refine ex_zneT rfl (by decide) ?_
        refine ex_go 80 rfl ?_
        refine ex_getf rfl hC rfl rfl ?_
        refine ex_go 80 rfl ?_
        refine ex_getf rfl hC rfl rfl ?_
        refine ex_cvx rfl rfl rfl rfl hR.1 rfl (d' := 1) (by omega) (c_copyFrom hR hT (by decide) rfl (Nat.le_refl _)) ?_
        rintro v1 h1 ⟨rfl, hR1, hF1⟩
        have hC1 := (hF1.2 0 (by decide)).trans hC
        have s11 := (hF1.2 21 (by decide)).trans s1
        refine ex_go 80 rfl ?_
        refine ex_getf rfl hC1 rfl rfl ?_
        refine ex_go 80 rfl ?_
        refine ex_aald _ rfl s11 rfl rfl (hy) (by omega) (shts_g hy) ?_
        refine ex_go 80 rfl ?_
        have key : ∀ k0, k0 ≤ N → ∀ i g0 c0 h2, i + k0 = N → TA h2 10 n g0 → GD n g0 → FR 10 (10 + 8) h h2 → ev_X scr d cd_X5_read 30 [.ref 0, .int (nI y), .int l, .int p, .int (nI N), .ref (49 + 2 * y), .int 0, .int (nI c0), .int (nI i), .float 0] [] h2 (fun v h' => v = some (.int (rdr n (sv y) (ss y) (sl y) l p (sc y) f (x 2) k0 i g0 c0).1) ∧ TA h' 1 n (rdr n (sv y) (ss y) (sl y) l p (sc y) f (x 2) k0 i g0 c0).2.1 ∧ CO h' (ux x 2 (rdr n (sv y) (ss y) (sl y) l p (sc y) f (x 2) k0 i g0 c0).2.2) ∧ TL h' ∧ FR 0 18 h h') := by
          have fin : ∀ g0 c0 i fo v9 h2, TA h2 10 n g0 → FR 10 (10 + 8) h h2 → ev_X scr d cd_X5_read 84 [.ref 0, .int (nI y), .int l, .int p, .int (nI N), .ref (49 + 2 * y), .int fo, .int (nI c0), .int (nI i), v9] [] h2 (fun v h' => v = some (.int (nI c0)) ∧ TA h' 1 n g0 ∧ CO h' (ux x 2 fo) ∧ TL h' ∧ FR 0 18 h h') := by
            intro g0 c0 i fo v9 h2 hR2 hF2
            have hC2 := (hF2.2 0 (by decide)).trans hC
            have hT2 := hT.kept hF2 (by decide)
            refine ex_go 80 rfl ?_
            refine ex_getf rfl hC2 rfl rfl ?_
            refine ex_go 80 rfl ?_
            refine ex_getf rfl hC2 rfl rfl ?_
            refine ex_cvx rfl rfl rfl rfl hT2.1 rfl (d' := 1) (by omega) (c_copyFrom hT2 hR2 (by decide) rfl (Nat.le_refl _)) ?_
            rintro v3 h3 ⟨rfl, hT3, hF3⟩
            have hC3 := (hF3.2 0 (by decide)).trans hC2
            refine ex_go 80 rfl ?_
            refine ex_pf rfl hC3 rfl rfl (fun h4 hO4 hB4 => ?_)
            have hR3 := hR2.kept hF3 (by decide)
            refine ex_go 80 rfl ?_
            exact ex_iret rfl (⟨rfl, hT3.same (fun j _ _ => hB4.2 j (by omega)), hO4, ⟨n, g0, hR3.same (fun j _ _ => hB4.2 j (by omega))⟩, ((hF2.wide (by decide) (by decide)).tr (hF3.wide (by decide) (by decide))).tr (hB4.fr (by decide) (by decide))⟩)
          intro k0
          induction k0 with
          | zero =>
            intro _ i g0 c0 h2 hi hR2 gg hF2
            refine ex_nop rfl ?_
            refine ex_go 80 rfl ?_
            refine ex_igeT rfl (nI_le (show N ≤ i by omega) (by omega)) ?_
            exact fin g0 c0 i 0 _ h2 hR2 hF2
          | succ k0 ih =>
            intro hkN i g0 c0 h2 hi hR2 gg hF2
            have hC2 := (hF2.2 0 (by decide)).trans hC
            have hT2 := hT.kept hF2 (by decide)
            have so := (hF2.2 (49 + 2 * y) (by omega)).trans (s2 y hy).1
            have sa' := (s2 y hy).2.fr hF2 (by omega)
            have out : some (Value.int (-20 - nI i)) = some (Value.int (-20 - nI i)) ∧ TA h2 1 n f ∧ CO h2 (ux x 2 (x 2)) ∧ TL h2 ∧ FR 0 18 h h2 := ⟨rfl, hT2, by rw [same]; exact hC2, ⟨n, g0, hR2⟩, hF2.wide (by decide) (by decide)⟩
            rw [rdr]
            refine ex_nop rfl ?_
            refine ex_go 80 rfl ?_
            refine ex_igeF rfl (nI_ge (show i < N by omega) (by omega)) ?_
            refine ex_go 80 rfl ?_
            refine ex_zneF rfl (rfl) ?_
            refine ex_go 80 rfl ?_
            try dsimp only
            try simp only [nI_inc, nI_1, nI_add, nI_mul2, tb_and, tb_or, tb_andn]
            rw [show (2 : Int32) = nI 2 from rfl, nI_mul2]
            refine ex_cvx rfl rfl rfl rfl so rfl (d' := 1) (by omega) (c_faultAtTwo so hb2 (Nat.le_refl _)) ?_
            rintro v3 h3 ⟨rfl, rfl⟩
            by_cases c1 : fl2 (sv y) (ss y) (sl y) l (p + nI (2 * i)) = 0
            · rw [if_pos c1]
              obtain ⟨z, hz, e1, e2, e3⟩ := fl2_0 hb2 c1
              rw [c1, e3, e1]
              refine ex_go 80 rfl ?_
              refine ex_zneF rfl (rfl) ?_
              refine ex_go 80 rfl ?_
              refine ex_getf rfl hC2 rfl rfl ?_
              refine ex_go 80 rfl ?_
              refine ex_getf rfl so rfl rfl ?_
              refine ex_go 80 rfl ?_
              refine ex_ia _ rfl sa' rfl (by first | exact trivial | assumption | (show _ < _; omega)) (by omega) (by omega) rfl ?_
              refine ex_go 80 rfl ?_
              refine ex_getf rfl so rfl rfl ?_
              refine ex_go 80 rfl ?_
              try dsimp only
              try simp only [nI_inc, nI_1, nI_add, nI_mul2, tb_and, tb_or, tb_andn]
              refine ex_ia _ rfl sa' rfl (by first | exact trivial | assumption | (show _ < _; omega)) (by omega) (by omega) rfl ?_
              cases hbb : isM n (sc y z) && isM 4 (sc y (z + 1))
              · have hm2 : mvok n g0 (sc y z) (sc y (z + 1)) = false := by unfold mvok; rw [hbb, Bool.false_and]
                rw [hm2, if_neg (by decide)]
                refine ex_cv rfl rfl rfl rfl hR2.1 rfl (d' := 1) (by omega) (c_whyBad hR2 hn hbb (Nat.le_refl _)) ?_
                refine ex_zeqF rfl (by decide) ?_
                refine ex_go 80 rfl ?_
                try dsimp only
                try simp only [nI_inc, nI_1, nI_add, nI_mul2, tb_and, tb_or, tb_andn]
                exact ex_iret rfl (out)
              · rw [Bool.and_eq_true] at hbb
                obtain ⟨i', hi', e4⟩ := isM_of hbb.1 (by omega)
                obtain ⟨j', hj', e5⟩ := isM_of hbb.2 (by omega)
                have em : mvok n g0 (nI i') (nI j') = decide (wns n g0 i' j' = 0) := by
                  unfold mvok
                  rw [isM_nI hi' (by omega), isM_nI hj' (by omega), ix_nI (by omega), ix_nI (by omega), Bool.true_and, Bool.true_and]
                rw [e4, e5, em]
                refine ex_cv rfl rfl rfl rfl hR2.1 rfl (d' := 2) (by omega) (c_whyNoSeat hR2 gg hi' hj' (Nat.le_refl _)) ?_
                by_cases hw : wns n g0 i' j' = 0
                · rw [hw, decide_eq_true rfl, if_pos rfl]
                  have es : s_move n g0 (nI i') (nI j') = seF g0 i' j' := by
                    unfold s_move
                    rw [isM_nI hi' (by omega), isM_nI hj' (by omega), ix_nI (by omega), ix_nI (by omega), Bool.true_and, if_pos rfl, if_pos hw]
                  rw [es]
                  refine ex_zeqT rfl (rfl) ?_
                  refine ex_go 80 rfl ?_
                  refine ex_getf rfl hC2 rfl rfl ?_
                  refine ex_go 80 rfl ?_
                  refine ex_getf rfl so rfl rfl ?_
                  refine ex_go 80 rfl ?_
                  refine ex_ia _ rfl sa' rfl (by first | exact trivial | assumption | (show _ < _; omega)) (by omega) (by omega) rfl ?_
                  refine ex_go 80 rfl ?_
                  refine ex_getf rfl so rfl rfl ?_
                  refine ex_go 80 rfl ?_
                  try dsimp only
                  try simp only [nI_inc, nI_1, nI_add, nI_mul2, tb_and, tb_or, tb_andn]
                  refine ex_ia _ rfl sa' rfl (by first | exact trivial | assumption | (show _ < _; omega)) (by omega) (by omega) rfl ?_
                  rw [e4, e5]
                  refine ex_cvx rfl rfl rfl rfl hR2.1 rfl (d' := 0) (by omega) (c_seat hR2 hn hi' hj' (gg.2.1 i' hi').1) ?_
                  rintro v4 h4 ⟨rfl, hR4, hF4⟩
                  refine ex_go 80 rfl ?_
                  try dsimp only
                  try simp only [nI_inc, nI_1, nI_add, nI_mul2, tb_and, tb_or, tb_andn]
                  exact ex_weak (ih (by omega) (i + 1) (seF g0 i' j') (c0 + 1) h4 (by omega) hR4 (gg.se hi' hj') (hF2.tr hF4)) (by repeat (first | exact W_n | refine W_e ?_ | refine W_i ?_ | refine W_r ?_))
                · rw [decide_eq_false hw, if_neg (by decide)]
                  refine ex_zeqF rfl (hw) ?_
                  refine ex_go 80 rfl ?_
                  try dsimp only
                  try simp only [nI_inc, nI_1, nI_add, nI_mul2, tb_and, tb_or, tb_andn]
                  exact ex_iret rfl (out)
            · rw [if_neg c1]
              refine ex_go 80 rfl ?_
              refine ex_zneT rfl (c1) ?_
              refine ex_go 80 rfl ?_
              try dsimp only
              try simp only [nI_inc, nI_1, nI_add, nI_mul2, tb_and, tb_or, tb_andn]
              refine ex_nop rfl ?_
              refine ex_go 80 rfl ?_
              refine ex_ige rfl (fun k3 => ?_) (fun k3 => ?_)
              · exact fin g0 c0 (i + 1) _ _ h3 hR2 hF2
              · refine ex_go 80 rfl ?_
                refine ex_zneT rfl (c1) ?_
                exact fin g0 c0 (i + 1) _ _ h3 hR2 hF2
        exact key N (Nat.le_refl N) 0 f 0 h1 (by omega) hR1 g hF1
theorem rd_m {s i c : Nat} {p : Int32} (hs : s ≤ 40) (hi : i ≤ 20) (hc : c < 2) : isM s (p + nI (2 * i) + nI c) = decide (0 ≤ p.toInt + (2 * i + c : Nat) ∧ p.toInt + (2 * i + c : Nat) < s) := by
  rw [Int32.add_assoc, nI_add]
  have e := Int32.toInt_add p (nI (2 * i + c))
  rw [nI_toInt (by omega), Int.bmod_def] at e
  have r1 := Int32.toInt_lt p
  have r2 := Int32.le_toInt p
  unfold isM
  rw [← Bool.decide_and]
  refine decide_eq_decide.mpr ?_
  generalize (p + nI (2 * i + c)).toInt = X at *
  generalize p.toInt = Y at *
  split at e <;> omega
theorem rd_l {i c : Nat} {p : Int32} (hi : i ≤ 20) (hc : c < 2) : (p.toInt64 + (nI (2 * i)).toInt64 + (nI c).toInt64).toInt = p.toInt + (2 * i + c : Nat) := by
  have r1 := Int32.toInt_lt p
  have r2 := Int32.le_toInt p
  rw [Int64.toInt_add, Int64.toInt_add, Int32.toInt_toInt64, Int32.toInt_toInt64, Int32.toInt_toInt64, nI_toInt (by omega), nI_toInt (by omega)]
  generalize p.toInt = Y at *
  have e1 : (Y + ((2 * i : Nat) : Int)).bmod (2 ^ 64) = Y + ((2 * i : Nat) : Int) := by
    rw [Int.bmod_def]
    split <;> omega
  rw [e1, Int.bmod_def]
  split <;> omega
theorem c_hadd {P : Nat → Prop} {z : Nat → Int32} {k l p m w5 w6 : Value} (hM : MO h n q) (hS : ST h f im) (hH : IA h 70 57 P z) {Q : Option Value → ev_H → Prop} (K : ∀ h1, IA h1 70 57 (fun _ => True) (rv f) → SB 70 h h1 → ev_X scr d cd_X6_read 28 [.ref 57, k, l, p, m, .int (nI 57), w5, w6, .float 0, .float 0, .float 0] [] h1 Q) : ev_X scr d cd_X6_read 14 [.ref 57, k, l, p, m, .int (nI 0), w5, w6, .float 0, .float 0, .float 0] [] h Q := by
  refine ev_loop 57 (fun i => ∀ h1, IA h1 70 57 (fun j => j < i ∧ True) (rv f) → SB 70 h h1 → ev_X scr d cd_X6_read 14 [.ref 57, k, l, p, m, .int (nI i), w5, w6, .float 0, .float 0, .float 0] [] h1 Q) (fun i hi K2 h1 hA1 hB1 => ?_) (fun h1 hA1 hB1 => ?_) h hH.none SB.rf
  · have hM1 := hB1.mo hM (by decide)
    have hS1 := hS.sb hB1 (by decide)
    refine ex_nop rfl ?_
    refine ex_go 80 rfl ?_
    refine ex_igeF rfl (nI_ge hi (by first | omega | decide)) ?_
    refine ex_go 80 rfl ?_
    refine ex_getf rfl hM1 rfl rfl ?_
    refine ex_go 80 rfl ?_
    refine ex_getf rfl hM1 rfl rfl ?_
    refine ex_go 80 rfl ?_
    refine ex_ia i rfl hS1 rfl trivial (by omega) (by omega) (rs_lt hi) ?_
    refine ex_is i rfl hA1 rfl (by omega) (by omega) (fun h2 hA2 hB2 => ?_)
    refine ex_go 80 rfl ?_
    rw [nI_inc]
    exact K2 h2 (hA2.grow (fun _ => rfl)) (hB1.tr hB2)
  · refine ex_nop rfl ?_
    refine ex_go 80 rfl ?_
    refine ex_igeT rfl (nI_le (Nat.le_refl _) (by first | omega | decide)) ?_
    exact K h1 hA1.full hB1
theorem r_read (hM : MO h n q) (hS : ST h f im) (hR : RS h) (hMo : MS h f) (hH : LA h 70 57) (hSh : SHr h sv sl ss sc) (hb : ∀ k, k < 4 → sl k ≤ 2 ∧ ss k ≤ 40) (g : GD n f) {k l p m : Int32} (hd : 4 ≤ d) : ev_X scr d cd_X6_read 0 [.ref 57, .int k, .int l, .int p, .int m, .float 0, .float 0, .float 0, .float 0, .float 0, .float 0] [] h (fun v h' => v = some (.int (rdA n f (q 11) sv sl ss sc k l p m).1) ∧ ST h' (rdA n f (q 11) sv sl ss sc k l p m).2.1 im ∧ MO h' n (ux q 11 (rdA n f (q 11) sv sl ss sc k l p m).2.2) ∧ RS h' ∧ LA h' 70 57 ∧ h'.length = h.length ∧ ∀ j, j ≠ 57 → j ≠ 58 → j ≠ 59 → j ≠ 65 → j ≠ 66 → j ≠ 70 → h'[j]? = h[j]?) := by
  have hn := g.1
  have same : ux q 11 (q 11) = q := by
    funext j
    unfold ux
    split
    · rename_i e; rw [e]
    · rfl
  unfold rdA okR
  refine ex_go 80 rfl ?_
  refine ex_cs rfl rfl rfl (d' := 1) (by omega) (c_isSheet (Nat.le_refl _)) ?_
  cases hk : isM 4 k
  · refine ex_zeqT rfl (rfl) ?_
    refine ex_go 80 rfl ?_
    exact ex_iret rfl (⟨rfl, hS, by rw [Bool.false_and, if_neg (by decide), same]; exact hM, hR, hH, rfl, fun _ _ _ _ _ _ _ => rfl⟩)
  · cases hl : isM 3 l
    · refine ex_zeqT rfl (rfl) ?_
      refine ex_go 80 rfl ?_
      exact ex_iret rfl (⟨rfl, hS, by rw [Bool.false_and, Bool.and_false, if_neg (by decide), same]; exact hM, hR, hH, rfl, fun _ _ _ _ _ _ _ => rfl⟩)
    · refine ex_zeqF rfl (by decide) ?_
      refine ex_go 80 rfl ?_
      try dsimp only
      try simp only [nI_inc, nI_1, nI_add, nI_mul2, tb_and, tb_or, tb_andn, nI_x5, nI_x2, nI_p0, nI_p2, nI_p3, nI_p4, nI_q45]
      refine ex_cs rfl rfl rfl (d' := 0) (by omega) (c_in0 21 (by decide)) ?_
      cases hm : isM 21 m
      · refine ex_zneF rfl (by decide) ?_
        refine ex_go 80 rfl ?_
        exact ex_iret rfl (⟨rfl, hS, by rw [Bool.and_false, Bool.and_false, if_neg (by decide), same]; exact hM, hR, hH, rfl, fun _ _ _ _ _ _ _ => rfl⟩)
      · obtain ⟨y, hy, rfl⟩ := isM_of hk (by decide)
        obtain ⟨N, hN, rfl⟩ := isM_of hm (by decide)
        rw [ix_nI (by omega), ix_nI (by omega), Bool.true_and, Bool.true_and, if_pos rfl]
        obtain ⟨s1, s2, s3⟩ := id hSh
        obtain ⟨hb1, hb2⟩ := hb y hy
        refine ex_zneT rfl (by decide) ?_
        refine ex_go 80 rfl ?_
        refine c_hadd hM hS hH (fun h1 hH1 hB1 => ?_)
        refine ex_go 80 rfl ?_
        have key : ∀ k0, k0 ≤ N → ∀ i g0 c0 h2, i + k0 = N → ST h2 g0 im → GD n g0 → RS h2 → (∀ t, 40 ≤ t → g0 t = f t) → RY h1 h2 → ev_X scr d cd_X6_read 34 [.ref 57, .int (nI y), .int l, .int p, .int (nI N), .int 0, .int (nI c0), .int (nI i), .float 0, .float 0, .float 0] [] h2 (fun v h' => v = some (.int (rdr n (sv y) (ss y) (sl y) l p (sc y) f (q 11) k0 i g0 c0).1) ∧ ST h' (rdr n (sv y) (ss y) (sl y) l p (sc y) f (q 11) k0 i g0 c0).2.1 im ∧ MO h' n (ux q 11 (rdr n (sv y) (ss y) (sl y) l p (sc y) f (q 11) k0 i g0 c0).2.2) ∧ RS h' ∧ LA h' 70 57 ∧ h'.length = h.length ∧ ∀ j, j ≠ 57 → j ≠ 58 → j ≠ 59 → j ≠ 65 → j ≠ 66 → j ≠ 70 → h'[j]? = h[j]?) := by
          have fin : ∀ g0 c0 i fo tl h2, ST h2 g0 im → RS h2 → RY h1 h2 → ev_X scr d cd_X6_read 147 (.ref 57 :: .int (nI y) :: .int l :: .int p :: .int (nI N) :: .int fo :: .int (nI c0) :: .int (nI i) :: tl) [] h2 (fun v h' => v = some (.int (nI c0)) ∧ ST h' g0 im ∧ MO h' n (ux q 11 fo) ∧ RS h' ∧ LA h' 70 57 ∧ h'.length = h.length ∧ ∀ j, j ≠ 57 → j ≠ 58 → j ≠ 59 → j ≠ 65 → j ≠ 66 → j ≠ 70 → h'[j]? = h[j]?) := by
            intro g0 c0 i fo tl h2 hS2 hR2 hY2
            have hM2 : MO h2 n q := (hY2.2 57 (by decide) (by decide) (by decide) (by decide)).trans (hB1.mo hM (by decide))
            refine ex_go 80 rfl ?_
            refine ex_pf rfl hM2 rfl rfl (fun h3 hO3 hB3 => ?_)
            have hH3 : LA h3 70 57 := (hH1.kept ((hB3.2 70 (by decide)).trans (hY2.2 70 (by decide) (by decide) (by decide) (by decide)))).la
            refine ex_go 80 rfl ?_
            exact ex_iret rfl (⟨rfl, hS2.sb hB3 (by decide), hO3, ⟨hR2.1.sb hB3 (by decide), hR2.2.1.sb hB3 (by decide), hR2.2.2.sb hB3 (by decide)⟩, hH3, (hB3.1.trans hY2.1).trans hB1.1, fun j a b c e k m => ((hB3.2 j a).trans (hY2.2 j b c e k)).trans (hB1.2 j m)⟩)
          intro k0
          induction k0 with
          | zero =>
            intro _ i g0 c0 h2 hi hS2 gg hR2 hg0 hY2
            refine ex_nop rfl ?_
            refine ex_go 80 rfl ?_
            refine ex_igeT rfl (nI_le (show N ≤ i by omega) (by omega)) ?_
            exact fin g0 c0 i 0 _ h2 hS2 hR2 hY2
          | succ k0 ih =>
            intro hkN i g0 c0 h2 hi hS2 gg hR2 hg0 hY2
            have e2 : ∀ j, j ≠ 58 → j ≠ 59 → j ≠ 65 → j ≠ 66 → j ≠ 70 → h2[j]? = h[j]? := fun j a b c e k => (hY2.2 j a b c e).trans (hB1.2 j k)
            have hM2 : MO h2 n q := (e2 57 (by decide) (by decide) (by decide) (by decide) (by decide)).trans hM
            have s12 := s1.kept (e2 67 (by decide) (by decide) (by decide) (by decide) (by decide))
            have s22 := s2.kept (e2 68 (by decide) (by decide) (by decide) (by decide) (by decide))
            have s32 := s3.kept (e2 69 (by decide) (by decide) (by decide) (by decide) (by decide))
            have hMo2 : MS h2 g0 := (hMo.kept (e2 61 (by decide) (by decide) (by decide) (by decide) (by decide))).congr (fun t _ hp => ⟨hp, by rw [hg0 _ (by omega)]⟩)
            have inner : ∀ c (hc2 : c < 2) t1 t2 (Q : Option Value → ev_H → Prop), ((t1 = .float 0 ∧ t2 = .float 0) ∨ ∃ r, t1 = .long r ∧ t2 = .double 0) → (∀ r, ev_X scr d cd_X6_read 42 [.ref 57, .int (nI y), .int l, .int p, .int (nI N), .int (flt (sv y) (ss y) (sl y) l (p + nI (2 * i) + nI c)), .int (nI c0), .int (nI i), .int (nI (c + 1)), .long r, .double 0] [] h2 Q) → ev_X scr d cd_X6_read 42 [.ref 57, .int (nI y), .int l, .int p, .int (nI N), .int 0, .int (nI c0), .int (nI i), .int (nI c), t1, t2] [] h2 Q := by
              intro c hc2 t1 t2 Q ht K
              have T : ev_X scr d cd_X6_read 59 [.ref 57, .int (nI y), .int l, .int p, .int (nI N), .int 0, .int (nI c0), .int (nI i), .int (nI c), .long (p.toInt64 + (nI (2 * i)).toInt64 + (nI c).toInt64), .double 0] [] h2 Q := by
                have em := rd_m (s := ss y) (i := i) (c := c) (p := p) hb2 (by omega) hc2
                have el := rd_l (i := i) (c := c) (p := p) (by omega) hc2
                generalize p.toInt64 + (nI (2 * i)).toInt64 + (nI c).toInt64 = X at *
                unfold flt at K
                refine ex_go 80 rfl ?_
                refine ex_getf rfl hM2 rfl rfl ?_
                refine ex_go 80 rfl ?_
                refine ex_ia _ rfl s12 rfl (by first | exact trivial | assumption | (show _ < _; omega)) (by omega) (by omega) rfl ?_
                refine ex_go 80 rfl ?_
                cases hv : sv y
                · rw [hv, if_neg (by decide)] at K
                  refine ex_ineF rfl (rfl) ?_
                  refine ex_go 80 rfl ?_
                  try dsimp only
                  try simp only [nI_inc, nI_1, nI_add, nI_mul2, tb_and, tb_or, tb_andn, nI_x5, nI_x2, nI_p0, nI_p2, nI_p3, nI_p4, nI_q45]
                  exact K _
                · rw [hv, if_pos rfl] at K
                  refine ex_ineT rfl (fun c => absurd ((szI_m4 (v := true) (s := sl y) (by omega)).mp c) (by decide)) ?_
                  refine ex_go 80 rfl ?_
                  refine ex_getf rfl hM2 rfl rfl ?_
                  refine ex_go 80 rfl ?_
                  refine ex_ia _ rfl s12 rfl (by first | exact trivial | assumption | (show _ < _; omega)) (by omega) (by omega) rfl ?_
                  refine ex_go 80 rfl ?_
                  rw [hv, show szI true (sl y) = nI (sl y) from rfl]
                  refine ex_ieq rfl (fun k1 => ?_) (fun k1 => ?_)
                  · rw [if_pos k1.symm] at K
                    refine ex_go 80 rfl ?_
                    try dsimp only
                    try simp only [nI_inc, nI_1, nI_add, nI_mul2, tb_and, tb_or, tb_andn, nI_x5, nI_x2, nI_p0, nI_p2, nI_p3, nI_p4, nI_q45]
                    refine ex_zlt rfl (fun k2 => ?_) (fun k2 => ?_)
                    · rw [lg_cmp_lt, Int64.lt_iff_toInt_lt, el, show (0 : Int64).toInt = 0 by decide] at k2
                      rw [em, decide_eq_false (by omega), if_neg (by decide)] at K
                      refine ex_go 80 rfl ?_
                      try dsimp only
                      try simp only [nI_inc, nI_1, nI_add, nI_mul2, tb_and, tb_or, tb_andn, nI_x5, nI_x2, nI_p0, nI_p2, nI_p3, nI_p4, nI_q45]
                      exact K _
                    · rw [lg_cmp_lt, Int64.lt_iff_toInt_lt, el, show (0 : Int64).toInt = 0 by decide] at k2
                      refine ex_go 80 rfl ?_
                      refine ex_getf rfl hM2 rfl rfl ?_
                      refine ex_go 80 rfl ?_
                      refine ex_ia _ rfl s22 rfl (by first | exact trivial | assumption | (show _ < _; omega)) (by omega) (by omega) rfl ?_
                      refine ex_go 80 rfl ?_
                      try dsimp only
                      try simp only [nI_inc, nI_1, nI_add, nI_mul2, tb_and, tb_or, tb_andn, nI_x5, nI_x2, nI_p0, nI_p2, nI_p3, nI_p4, nI_q45]
                      refine ex_zlt rfl (fun k3 => ?_) (fun k3 => ?_)
                      · rw [lg_cmp_lt, Int64.lt_iff_toInt_lt, el, Int32.toInt_toInt64, nI_toInt (by omega)] at k3
                        rw [em, decide_eq_true (by omega), if_pos rfl] at K
                        refine ex_go 80 rfl ?_
                        try dsimp only
                        try simp only [nI_inc, nI_1, nI_add, nI_mul2, tb_and, tb_or, tb_andn, nI_x5, nI_x2, nI_p0, nI_p2, nI_p3, nI_p4, nI_q45]
                        exact K _
                      · rw [lg_cmp_lt, Int64.lt_iff_toInt_lt, el, Int32.toInt_toInt64, nI_toInt (by omega)] at k3
                        rw [em, decide_eq_false (by omega), if_neg (by decide)] at K
                        refine ex_go 80 rfl ?_
                        try dsimp only
                        try simp only [nI_inc, nI_1, nI_add, nI_mul2, tb_and, tb_or, tb_andn, nI_x5, nI_x2, nI_p0, nI_p2, nI_p3, nI_p4, nI_q45]
                        exact K _
                  · rw [if_neg (fun c => k1 c.symm)] at K
                    refine ex_go 80 rfl ?_
                    try dsimp only
                    try simp only [nI_inc, nI_1, nI_add, nI_mul2, tb_and, tb_or, tb_andn, nI_x5, nI_x2, nI_p0, nI_p2, nI_p3, nI_p4, nI_q45]
                    exact K _
              refine ex_nop rfl ?_
              refine ex_go 80 rfl ?_
              refine ex_igeF rfl (nI_ge hc2 (by decide)) ?_
              refine ex_go 80 rfl ?_
              refine ex_zneF rfl (rfl) ?_
              rw [← nI_mul2] at T
              rcases ht with ⟨rfl, rfl⟩ | ⟨r, rfl, rfl⟩
              · exact ex_go 11 rfl T
              · exact ex_go 11 rfl T
            rw [rdr]
            refine ex_nop rfl ?_
            refine ex_go 80 rfl ?_
            refine ex_igeF rfl (nI_ge (show i < N by omega) (by omega)) ?_
            refine ex_go 80 rfl ?_
            refine ex_zneF rfl (rfl) ?_
            refine ex_go 80 rfl ?_
            have at93 : ∀ cc r, ev_X scr d cd_X6_read 93 [.ref 57, .int (nI y), .int l, .int p, .int (nI N), .int (fl2 (sv y) (ss y) (sl y) l (p + nI (2 * i))), .int (nI c0), .int (nI i), .int (nI cc), .long r, .double 0] [] h2 (fun v h' => v = some (.int (rdr n (sv y) (ss y) (sl y) l p (sc y) f (q 11) (k0 + 1) i g0 c0).1) ∧ ST h' (rdr n (sv y) (ss y) (sl y) l p (sc y) f (q 11) (k0 + 1) i g0 c0).2.1 im ∧ MO h' n (ux q 11 (rdr n (sv y) (ss y) (sl y) l p (sc y) f (q 11) (k0 + 1) i g0 c0).2.2) ∧ RS h' ∧ LA h' 70 57 ∧ h'.length = h.length ∧ ∀ j, j ≠ 57 → j ≠ 58 → j ≠ 59 → j ≠ 65 → j ≠ 66 → j ≠ 70 → h'[j]? = h[j]?) := by
              intro cc r
              rw [rdr]
              by_cases c1 : fl2 (sv y) (ss y) (sl y) l (p + nI (2 * i)) = 0
              · rw [if_pos c1]
                obtain ⟨z, hz, e1, e4, e3⟩ := fl2_0 hb2 c1
                rw [c1, e3]
                refine ex_go 80 rfl ?_
                refine ex_zneF rfl (rfl) ?_
                refine ex_go 80 rfl ?_
                dsimp only
                rw [show (40 : Int32) = nI 40 from rfl, show (2 : Int32) = nI 2 from rfl, nI_mul2, nI_mul2, Int32.add_assoc, e1, nI_add]
                refine ex_getf rfl hM2 rfl rfl ?_
                refine ex_go 80 rfl ?_
                refine ex_ia _ rfl s32 rfl (by first | exact trivial | assumption | (show _ < _; omega)) (by omega) (by omega) rfl ?_
                refine ex_go 80 rfl ?_
                refine ex_getf rfl hM2 rfl rfl ?_
                refine ex_go 80 rfl ?_
                try dsimp only
                try simp only [nI_inc, nI_1, nI_add, nI_mul2, tb_and, tb_or, tb_andn, nI_x5, nI_x2, nI_p0, nI_p2, nI_p3, nI_p4, nI_q45]
                refine ex_ia _ rfl s32 rfl (by first | exact trivial | assumption | (show _ < _; omega)) (by omega) (by omega) rfl ?_
                have d1 : (40 * y + z) / 40 = y := by omega
                have d2 : (40 * y + z) % 40 = z := by omega
                have d3 : (40 * y + z + 1) / 40 = y := by omega
                have d4 : (40 * y + z + 1) % 40 = z + 1 := by omega
                rw [d1, d2, d3, d4]
                refine ex_cvx rfl rfl rfl rfl hM2 rfl (d' := 3) (by omega) (c_moveR hM2 hS2 hR2 hMo2 gg (Nat.le_refl _)) ?_
                rintro v3 h3 ⟨rfl, hS3, hR3, hY3⟩
                have hM3 : MO h3 n q := (hY3.2 57 (by decide) (by decide) (by decide) (by decide)).trans hM2
                have hYY := hY2.tr hY3
                cases hm2 : mvok n g0 (sc y z) (sc y (z + 1))
                · rw [if_neg (by decide)]
                  have back : ev_X scr d cd_X6_read 124 [.ref 57, .int (nI y), .int l, .int p, .int (nI N), .int 0, .int (nI c0), .int (nI i), .int (nI (40 * y + z)), .int (a_move n g0 (sc y z) (sc y (z + 1))), .float 0] [] h3 (fun v h' => v = some (.int (-20 - nI i)) ∧ ST h' f im ∧ MO h' n (ux q 11 (q 11)) ∧ RS h' ∧ LA h' 70 57 ∧ h'.length = h.length ∧ ∀ j, j ≠ 57 → j ≠ 58 → j ≠ 59 → j ≠ 65 → j ≠ 66 → j ≠ 70 → h'[j]? = h[j]?) := by
                    rw [same]
                    have hH3 := hH1.kept (hYY.2 70 (by decide) (by decide) (by decide) (by decide))
                    refine ex_go 80 rfl ?_
                    refine ev_loop 57 (fun w => ∀ h4, IA h4 58 171 (fun _ => True) (fun j => if j < w then rv f j else rs (s_move n g0 (sc y z) (sc y (z + 1))) im j) → SB 58 h3 h4 → ev_X scr d cd_X6_read 126 [.ref 57, .int (nI y), .int l, .int p, .int (nI N), .int 0, .int (nI c0), .int (nI i), .int (nI (40 * y + z)), .int (a_move n g0 (sc y z) (sc y (z + 1))), .int (nI w)] [] h4 _) (fun w hw K h4 hA4 hB4 => ?_) (fun h4 hA4 hB4 => ?_) h3 (hS3.congr (fun j _ hp => ⟨hp, by rw [if_neg (by omega)]⟩)) SB.rf
                    · have hM4 := hB4.mo hM3 (by decide)
                      have hH4 := hH3.sb hB4 (by decide)
                      refine ex_nop rfl ?_
                      refine ex_go 80 rfl ?_
                      refine ex_igeF rfl (nI_ge hw (by decide)) ?_
                      refine ex_go 80 rfl ?_
                      refine ex_getf rfl hM4 rfl rfl ?_
                      refine ex_go 80 rfl ?_
                      refine ex_getf rfl hM4 rfl rfl ?_
                      refine ex_go 80 rfl ?_
                      refine ex_ia w rfl hH4 rfl trivial (by omega) (by omega) rfl ?_
                      refine ex_is w rfl hA4 rfl (by omega) (by omega) (fun h5 hA5 hB5 => ?_)
                      refine ex_go 80 rfl ?_
                      rw [nI_inc]
                      refine K h5 (hA5.congr (fun j _ _ => ⟨Or.inl trivial, ?_⟩)) (hB4.tr hB5)
                      by_cases c : j = w
                      · rw [if_pos c, if_pos (by omega), c]
                      · rw [if_neg c]
                        by_cases c2 : j < w
                        · rw [if_pos c2, if_pos (by omega)]
                        · rw [if_neg c2, if_neg (by omega)]
                    · have hM4 := hB4.mo hM3 (by decide)
                      have hS4 : ST h4 f im := hA4.congr (fun j _ hp => ⟨hp, by unfold rs; by_cases c : j < 57 <;> simp [c]⟩)
                      refine ex_nop rfl ?_
                      refine ex_go 80 rfl ?_
                      refine ex_igeT rfl (nI_le (Nat.le_refl 57) (by decide)) ?_
                      refine ex_go 80 rfl ?_
                      try dsimp only
                      try simp only [nI_inc, nI_1, nI_add, nI_mul2, tb_and, tb_or, tb_andn, nI_x5, nI_x2, nI_p0, nI_p2, nI_p3, nI_p4, nI_q45]
                      exact ex_iret rfl (⟨rfl, hS4, hM4, hR3.b8 hB4, (hH3.sb hB4 (by decide)).la, (hB4.1.trans hYY.1).trans hB1.1, fun j a b c e k m => ((hB4.2 j b).trans (hYY.2 j b c e k)).trans (hB1.2 j m)⟩)
                  rcases a_move_f hm2 with ea | ea
                  · refine ex_go 80 rfl ?_
                    rw [ea] at back ⊢
                    refine ex_ieqT rfl (rfl) ?_
                    exact back
                  · refine ex_go 80 rfl ?_
                    rw [ea] at back ⊢
                    refine ex_ieqF rfl (by decide) ?_
                    refine ex_go 80 rfl ?_
                    refine ex_ineF rfl (rfl) ?_
                    exact back
                · rw [if_pos rfl]
                  obtain ⟨ea, eb⟩ := a_move_t gg hm2
                  refine ex_go 80 rfl ?_
                  refine ex_ieqF rfl (ea) ?_
                  refine ex_go 80 rfl ?_
                  refine ex_ineT rfl (eb) ?_
                  refine ex_go 80 rfl ?_
                  try dsimp only
                  try simp only [nI_inc, nI_1, nI_add, nI_mul2, tb_and, tb_or, tb_andn, nI_x5, nI_x2, nI_p0, nI_p2, nI_p3, nI_p4, nI_q45]
                  exact ex_weak (ih (by omega) (i + 1) _ (c0 + 1) h3 (by omega) hS3 (gd_move gg _ _) hR3 (fun t ht => by rw [s_move_60 gg _ _ ht, hg0 t ht]) hYY) (by repeat (first | exact W_n | refine W_e ?_ | refine W_i ?_ | refine W_r ?_))
              · rw [if_neg c1]
                refine ex_go 80 rfl ?_
                refine ex_zneT rfl (c1) ?_
                refine ex_go 80 rfl ?_
                try dsimp only
                try simp only [nI_inc, nI_1, nI_add, nI_mul2, tb_and, tb_or, tb_andn, nI_x5, nI_x2, nI_p0, nI_p2, nI_p3, nI_p4, nI_q45]
                refine ex_nop rfl ?_
                refine ex_go 80 rfl ?_
                refine ex_ige rfl (fun k3 => ?_) (fun k3 => ?_)
                · exact fin g0 c0 (i + 1) _ _ h2 hS2 hR2 hY2
                · refine ex_go 80 rfl ?_
                  refine ex_zneT rfl (c1) ?_
                  exact fin g0 c0 (i + 1) _ _ h2 hS2 hR2 hY2
            rw [rdr] at at93
            refine inner 0 (by decide) _ _ _ (Or.inl ⟨rfl, rfl⟩) (fun r => ?_)
            rw [show p + nI (2 * i) + nI 0 = p + nI (2 * i) by rw [Int32.add_assoc, nI_add]; rfl]
            by_cases c1 : flt (sv y) (ss y) (sl y) l (p + nI (2 * i)) = 0
            · rw [c1]
              refine inner 1 (by decide) _ _ _ (Or.inr ⟨r, rfl, rfl⟩) (fun r2 => ?_)
              have ef : fl2 (sv y) (ss y) (sl y) l (p + nI (2 * i)) = flt (sv y) (ss y) (sl y) l (p + nI (2 * i) + nI 1) := by
                unfold fl2
                rw [if_pos c1]
                rfl
              rw [← ef]
              refine ex_nop rfl ?_
              refine ex_go 80 rfl ?_
              refine ex_igeT rfl (nI_le (Nat.le_refl 2) (by decide)) ?_
              exact at93 2 r2
            · have ef : fl2 (sv y) (ss y) (sl y) l (p + nI (2 * i)) = flt (sv y) (ss y) (sl y) l (p + nI (2 * i)) := by
                unfold fl2
                rw [if_neg c1]
              rw [← ef] at c1 ⊢
              refine ex_nop rfl ?_
              refine ex_go 80 rfl ?_
              refine ex_igeF rfl (nI_ge (show 1 < 2 by decide) (by decide)) ?_
              refine ex_go 80 rfl ?_
              refine ex_zneT rfl (c1) ?_
              exact at93 1 r
        exact key N (Nat.le_refl N) 0 f 0 h1 (by omega) (hS.sb hB1 (by decide)) g ⟨hR.1.sb hB1 (by decide), hR.2.1.sb hB1 (by decide), hR.2.2.sb hB1 (by decide)⟩ (fun _ _ => rfl) RY.rf
end READ
