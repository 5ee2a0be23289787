/-! fits. -/
def sokf (n : Nat) (f : Nat → Nat) (X : Nat) : Nat → Bool
  | 0 => true
  | k + 1 => sokf n f X k && decide (gd f (f (45 + 2 * k)) - (yr n f (gd f) X).1 (f (45 + 2 * k)) = f (46 + 2 * k))
theorem sokf_f {n : Nat} {f : Nat → Nat} {X k : Nat} (h : sokf n f X k = false) : ∀ j, k ≤ j → sokf n f X j = false
  | 0, hj => by rw [Nat.le_zero.mp hj] at h; exact h
  | j + 1, hj => by
    by_cases c : k = j + 1
    · rw [← c]; exact h
    · rw [sokf, sokf_f h j (by omega), Bool.false_and]
def okX (n : Nat) (f : Nat → Nat) (X : Nat) : Bool := decide (X &&& sa n f = 0) && sokf n f X (f 44)
def fts (n : Nat) (f : Nat → Nat) : Nat → Nat × Nat × Nat × Nat × Nat
  | 0 => (0, 0, 2 ^ n - 1, 0, 15)
  | X + 1 => if okX n f X = true then ((fts n f X).1 + 1, (if (fts n f X).1 = 0 then X else (fts n f X).2.1), (fts n f X).2.2.1 &&& X, (fts n f X).2.2.2.1 ||| X, (fts n f X).2.2.2.2 &&& tor f X n) else fts n f X
theorem fts_le (n : Nat) (f : Nat → Nat) : ∀ X, (fts n f X).1 ≤ X
  | 0 => Nat.le_refl _
  | X + 1 => by
    have := fts_le n f X
    rw [fts]
    split
    · dsimp only; omega
    · omega
def a_fits (n : Nat) (f : Nat → Nat) (w : Int32) : Int32 := if isM 5 w = true then (if ix w = 0 then nI (fts n f (2 ^ n)).1 else if (fts n f (2 ^ n)).1 = 0 then -4 else (match ix w with | 1 => nI (fts n f (2 ^ n)).2.1 | 2 => nI (fts n f (2 ^ n)).2.2.1 | 3 => nI (tb_wo (tb_wo (2 ^ n - 1) (sa n f)) (fts n f (2 ^ n)).2.2.2.1) | _ => nI (fts n f (2 ^ n)).2.2.2.2)) else -1
abbrev FO (h : ev_H) (a b c e k : Int32) : Prop := h[30]? = some (.inr (0, [.int a, .int b, .int c, .int e, .int k]))
def FB (h : ev_H) : Prop := ∃ a b c e k, FO h a b c e k
def FT (h h' : ev_H) : Prop := h'.length = h.length ∧ ∀ j, (j < 10 ∨ 18 < j) → j ≠ 30 → h'[j]? = h[j]?
theorem FT.rf {h : ev_H} : FT h h := ⟨rfl, fun _ _ _ => rfl⟩
theorem FT.tr {h h1 h2 : ev_H} (x : FT h h1) (y : FT h1 h2) : FT h h2 := ⟨y.1.trans x.1, fun j a b => (y.2 j a b).trans (x.2 j a b)⟩
theorem SB.ft {h h' : ev_H} (x : SB 30 h h') : FT h h' := ⟨x.1, fun j _ b => x.2 j b⟩
theorem FR.ft {h h' : ev_H} (x : FR 10 (10 + 8) h h') : FT h h' := ⟨x.1, fun j a _ => x.2 j a⟩
theorem TA.ft {h h' : ev_H} {n : Nat} {f : Nat → Nat} (t : TA h 1 n f) (x : FT h h') : TA h' 1 n f := by
  obtain ⟨hO, t1, t2, t3, t4, t5, t6, t7, t8⟩ := t
  exact ⟨(x.2 1 (by decide) (by decide)).trans hO, t1.kept (x.2 _ (by decide) (by decide)), t2.kept (x.2 _ (by decide) (by decide)), t3.kept (x.2 _ (by decide) (by decide)), t4.kept (x.2 _ (by decide) (by decide)), t5.kept (x.2 _ (by decide) (by decide)), t6.kept (x.2 _ (by decide) (by decide)), t7.kept (x.2 _ (by decide) (by decide)), t8.kept (x.2 _ (by decide) (by decide))⟩
section FITS
variable {scr : List Int32} {d : Nat} {h : ev_H} {n : Nat} {f u : Nat → Nat} {x : Nat → Int32} {q : Nat → Int32} {im : Nat → Int32}
theorem c_isAsSeen (hT : TA h 1 n f) (hU : TA h 10 n (wg f u)) (g : GD n f) {X : Nat} (hX : X < 256) (hd : 5 ≤ d) : ev_X scr d cd_X0_isAsSeen 0 [.ref 1, .ref 10, .int (nI X), .float 0, .float 0] [] h (fun v h' => v = some (.int (nI (tb_b (sokf n f X (f 44))))) ∧ TA h' 10 n (wg f (yr n f (gd f) X).1) ∧ FR 10 (10 + 8) h h') := by
  have hn := g.1
  have e : (fun m => f (5 * m + 2)) = gd f := rfl
  have h44 := g.2.2.2.2.2.2.2.1
  refine ex_go 80 rfl ?_
  refine ex_cvx rfl rfl rfl rfl hU.1 rfl (d' := 0) (by omega) (c_copyStock hU hT (by decide)) ?_
  rintro v1 h1 ⟨rfl, hU1, hF1⟩
  have hT1 := hT.kept hF1 (by decide)
  rw [wg_wg, e] at hU1
  refine ex_go 80 rfl ?_
  refine ex_cvx rfl rfl rfl rfl hU1.1 rfl (d' := 4) (by omega) (c_payAll hU1 g (gd_lt g) hX (Nat.le_refl _)) ?_
  rintro v2 h2 ⟨rfl, hU2, hF2⟩
  have hT2 := hT1.kept hF2 (by decide)
  have hF3 := hF1.tr hF2
  refine ex_go 80 rfl ?_
  refine ev_loop (f 44) (fun i => sokf n f X i = true → ev_X scr d cd_X0_isAsSeen 9 [.ref 1, .ref 10, .int (nI X), .int (nI i), .float 0] [] h2 _) (fun i hi K hs => ?_) (fun hs => ?_) rfl
  · obtain ⟨s1, s2⟩ := g.2.2.2.2.2.2.2.2.1 i hi
    have hgl := (g.2.1 _ s1).2.2.1
    have hyl := yr_le n f (gd f) X (f (45 + 2 * i))
    refine ex_nop rfl ?_
    refine ex_go 80 rfl ?_
    refine ex_getf rfl hT2.1 rfl rfl ?_
    refine ex_igeF rfl (nI_ge hi (by first | omega | decide)) ?_
    refine ex_go 80 rfl ?_
    refine ex_getf rfl hT2.1 rfl rfl ?_
    refine ex_go 80 rfl ?_
    refine ex_ia _ rfl hT2.2.2.2.2.2.2.2.1 rfl (by first | exact trivial | assumption | (show _ < _; omega)) (by omega) (by omega) rfl ?_
    refine ex_go 80 rfl ?_
    refine ex_getf rfl hT2.1 rfl rfl ?_
    refine ex_go 80 rfl ?_
    refine ex_ia _ rfl hT2.2.2.2.1 rfl (by first | exact trivial | assumption | (show _ < _; omega)) (by omega) (by omega) rfl ?_
    refine ex_go 80 rfl ?_
    refine ex_getf rfl hU2.1 rfl rfl ?_
    refine ex_go 80 rfl ?_
    refine ex_ia _ rfl hU2.2.2.2.1 rfl (by first | exact trivial | assumption | (show _ < _; omega)) (by omega) (by omega) rfl ?_
    refine ex_go 80 rfl ?_
    try dsimp only
    try simp only [nI_inc, nI_1, nI_add, nI_mul2, tb_and, tb_or, tb_andn]
    refine ex_getf rfl hT2.1 rfl rfl ?_
    refine ex_go 80 rfl ?_
    refine ex_ia _ rfl hT2.2.2.2.2.2.2.2.2 rfl (by first | exact trivial | assumption | (show _ < _; omega)) (by omega) (by omega) rfl ?_
    rw [wg_gd (by omega), show f (5 * f (45 + 2 * i) + 2) = gd f (f (45 + 2 * i)) from rfl, pk_sub hyl]
    have hgl2 : gd f (f (45 + 2 * i)) ≤ 99 := hgl
    refine ex_ieq rfl (fun hc => ?_) (fun hc => ?_)
    · rw [nI_eq (by omega) (by omega)] at hc
      refine ex_go 80 rfl ?_
      try dsimp only
      try simp only [nI_inc, nI_1, nI_add, nI_mul2, tb_and, tb_or, tb_andn]
      exact ex_weak (K (by rw [sokf, hs, decide_eq_true hc]; rfl)) (by repeat (first | exact W_n | refine W_e ?_ | refine W_i ?_ | refine W_r ?_))
    · rw [nI_eq (by omega) (by omega)] at hc
      have hf : sokf n f X (i + 1) = false := by rw [sokf, decide_eq_false hc, Bool.and_false]
      rw [sokf_f hf (f 44) (by omega)]
      refine ex_go 80 rfl ?_
      exact ex_tret rfl rfl (⟨rfl, hU2, hF3⟩)
  · rw [hs]
    refine ex_nop rfl ?_
    refine ex_go 80 rfl ?_
    refine ex_getf rfl hT2.1 rfl rfl ?_
    refine ex_igeT rfl (nI_le (Nat.le_refl _) (by first | omega | decide)) ?_
    refine ex_go 80 rfl ?_
    exact ex_tret rfl rfl (⟨rfl, hU2, hF3⟩)
theorem c_addSet {a b c e k t : Nat} {X : Nat} (hO : FO h (nI a) (nI b) (nI c) (nI e) (nI k)) (ha : a < 2 ^ 31) : ev_X scr d cd_X0_addSet 0 [.ref 30, .int (nI X), .int (nI t)] [] h (fun v h' => v = none ∧ FO h' (nI (a + 1)) (nI (if a = 0 then X else b)) (nI (c &&& X)) (nI (e ||| X)) (nI (k &&& t)) ∧ SB 30 h h') := by
  have tail : ∀ b' h1, FO h1 (nI a) (nI b') (nI c) (nI e) (nI k) → SB 30 h h1 → (if a = 0 then X else b) = b' → ev_X scr d cd_X0_addSet 6 [.ref 30, .int (nI X), .int (nI t)] [] h1 (fun v h' => v = none ∧ FO h' (nI (a + 1)) (nI (if a = 0 then X else b)) (nI (c &&& X)) (nI (e ||| X)) (nI (k &&& t)) ∧ SB 30 h h') := by
    intro b' h1 hO1 hB1 hb
    rw [hb]
    refine ex_go 80 rfl ?_
    refine ex_getf rfl hO1 rfl rfl ?_
    refine ex_go 80 rfl ?_
    try dsimp only
    try simp only [nI_inc, nI_1, nI_add, nI_mul2, tb_and, tb_or, tb_andn]
    refine ex_pf rfl hO1 rfl rfl (fun h2 hO2 hB2 => ?_)
    refine ex_go 80 rfl ?_
    refine ex_getf rfl hO2 rfl rfl ?_
    refine ex_go 80 rfl ?_
    try dsimp only
    try simp only [nI_inc, nI_1, nI_add, nI_mul2, tb_and, tb_or, tb_andn]
    refine ex_pf rfl hO2 rfl rfl (fun h3 hO3 hB3 => ?_)
    refine ex_go 80 rfl ?_
    refine ex_getf rfl hO3 rfl rfl ?_
    refine ex_go 80 rfl ?_
    try dsimp only
    try simp only [nI_inc, nI_1, nI_add, nI_mul2, tb_and, tb_or, tb_andn]
    refine ex_pf rfl hO3 rfl rfl (fun h4 hO4 hB4 => ?_)
    refine ex_go 80 rfl ?_
    refine ex_getf rfl hO4 rfl rfl ?_
    refine ex_go 80 rfl ?_
    try dsimp only
    try simp only [nI_inc, nI_1, nI_add, nI_mul2, tb_and, tb_or, tb_andn]
    refine ex_pf rfl hO4 rfl rfl (fun h5 hO5 hB5 => ?_)
    exact ex_vret rfl (⟨rfl, hO5, (((hB1.tr hB2).tr hB3).tr hB4).tr hB5⟩)
  refine ex_go 80 rfl ?_
  refine ex_getf rfl hO rfl rfl ?_
  refine ex_zne rfl (fun k1 => ?_) (fun k1 => ?_)
  · exact tail b h hO SB.rf (if_neg (fun z => k1 (by rw [z]; rfl)))
  · refine ex_go 80 rfl ?_
    refine ex_pf rfl hO rfl rfl (fun h1 hO1 hB1 => ?_)
    exact tail X h1 hO1 hB1 (if_pos ((nI_eq (b := 0) ha (by decide)).mp k1))
theorem c_searchF {a b c e k : Int32} (hO : FO h a b c e k) (hT : TA h 1 n f) (hL : TL h) (g : GD n f) (hd : 6 ≤ d) : ev_X scr d cd_X0_search 0 [.ref 30, .ref 1, .ref 10, .float 0, .float 0, .float 0] [] h (fun v h' => v = none ∧ FO h' (nI (fts n f (2 ^ n)).1) (nI (fts n f (2 ^ n)).2.1) (nI (fts n f (2 ^ n)).2.2.1) (nI (fts n f (2 ^ n)).2.2.2.1) (nI (fts n f (2 ^ n)).2.2.2.2) ∧ TL h' ∧ FT h h') := by
  have hn := g.1
  have h8 : 2 ^ n ≤ 2 ^ 8 := Nat.pow_le_pow_right (by decide) hn
  have h1p : 1 ≤ 2 ^ n := Nat.one_le_two_pow
  refine ex_go 80 rfl ?_
  refine ex_pf rfl hO rfl rfl (fun h1 hO1 hB1 => ?_)
  refine ex_go 80 rfl ?_
  refine ex_pf rfl hO1 rfl rfl (fun h2 hO2 hB2 => ?_)
  have hT2 := hT.ft (hB1.tr hB2).ft
  refine ex_go 80 rfl ?_
  refine ex_cv rfl rfl rfl rfl hT2.1 rfl (d' := 0) (by omega) (c_allMen hT2 hn) ?_
  refine ex_pf rfl hO2 rfl rfl (fun h3 hO3 hB3 => ?_)
  refine ex_go 80 rfl ?_
  refine ex_pf rfl hO3 rfl rfl (fun h4 hO4 hB4 => ?_)
  refine ex_go 80 rfl ?_
  refine ex_pf rfl hO4 rfl rfl (fun h5 hO5 hB5 => ?_)
  have hBB := (((hB1.tr hB2).tr hB3).tr hB4).tr hB5
  have hT5 := hT.ft hBB.ft
  obtain ⟨n2, f2, hU⟩ := hL
  have hU5 := hU.fr (hBB.fr (a := 30) (b := 30) (by decide) (by decide)) (by decide)
  refine ex_go 80 rfl ?_
  refine ex_cvx rfl rfl rfl rfl hU5.1 rfl (d' := 1) (by omega) (c_copyFrom hU5 hT5 (by decide) rfl (Nat.le_refl _)) ?_
  rintro v6 h6 ⟨rfl, hU6, hF6⟩
  have hT6 := hT5.kept hF6 (by decide)
  have hO6 : FO h6 (nI (fts n f 0).1) (nI (fts n f 0).2.1) (nI (fts n f 0).2.2.1) (nI (fts n f 0).2.2.2.1) (nI (fts n f 0).2.2.2.2) := (hF6.2 30 (by decide)).trans hO5
  rw [← wg_gdf f] at hU6
  refine ex_go 80 rfl ?_
  refine ex_cv rfl rfl rfl rfl hT6.1 rfl (d' := 0) (by omega) (c_menOfKind (k := 2) hT6 hn (by decide) (fun j hj => (g.2.1 j hj).1)) ?_
  refine ex_go 80 rfl ?_
  refine ex_cv rfl rfl rfl rfl hT6.1 rfl (d' := 0) (by omega) (c_allMen hT6 hn) ?_
  refine ex_go 80 rfl ?_
  show ev_X scr d cd_X0_search 28 [.ref 30, .ref 1, .ref 10, .int (nI (sa n f)), .int (nI (2 ^ n - 1)), .int (nI 0)] [] h6 _
  refine ev_loop (2 ^ n) (fun X => ∀ h7 u, FO h7 (nI (fts n f X).1) (nI (fts n f X).2.1) (nI (fts n f X).2.2.1) (nI (fts n f X).2.2.2.1) (nI (fts n f X).2.2.2.2) → TA h7 10 n (wg f u) → FT h h7 → ev_X scr d cd_X0_search 28 [.ref 30, .ref 1, .ref 10, .int (nI (sa n f)), .int (nI (2 ^ n - 1)), .int (nI X)] [] h7 _) (fun X hX K h7 u hO7 hU7 hF7 => ?_) (fun h7 u hO7 hU7 hF7 => ?_) h6 (gd f) hO6 hU6 (hBB.ft.tr hF6.ft)
  · have hT7 := hT.ft hF7
    refine ex_nop rfl ?_
    refine ex_go 80 rfl ?_
    refine ex_igtF rfl (fun z => absurd ((nI_ltI (by omega) (by omega)).mp z) (by omega)) ?_
    refine ex_go 80 rfl ?_
    try dsimp only
    try simp only [nI_inc, nI_1, nI_add, nI_mul2, tb_and, tb_or, tb_andn]
    have hXs : X &&& sa n f < 2 ^ 32 := Nat.lt_of_le_of_lt Nat.and_le_left (by omega)
    refine ex_zne rfl (fun hc => ?_) (fun hc => ?_)
    · rw [nI_z hXs] at hc
      rw [fts, if_neg (by unfold okX; rw [decide_eq_false hc, Bool.false_and]; decide)] at K
      refine ex_go 80 rfl ?_
      try dsimp only
      try simp only [nI_inc, nI_1, nI_add, nI_mul2, tb_and, tb_or, tb_andn]
      exact K h7 u hO7 hU7 hF7
    · rw [nI_z hXs] at hc
      refine ex_go 80 rfl ?_
      refine ex_csx rfl rfl rfl (d' := 5) (by omega) (c_isAsSeen hT7 hU7 g (by omega) (Nat.le_refl _)) ?_
      rintro v8 h8 ⟨rfl, hU8, hF8⟩
      have hT8 := hT7.kept hF8 (by decide)
      have hO8 := (hF8.2 30 (by decide)).trans hO7
      cases hs : sokf n f X (f 44)
      · rw [fts, if_neg (by unfold okX; rw [hs, Bool.and_false]; decide)] at K
        refine ex_zeqT rfl (by decide) ?_
        refine ex_go 80 rfl ?_
        try dsimp only
        try simp only [nI_inc, nI_1, nI_add, nI_mul2, tb_and, tb_or, tb_andn]
        exact K h8 _ hO8 hU8 (hF7.tr hF8.ft)
      · rw [fts, if_pos (by unfold okX; rw [hs, decide_eq_true hc]; rfl)] at K
        have hfl := fts_le n f X
        refine ex_zeqF rfl (by decide) ?_
        refine ex_go 80 rfl ?_
        refine ex_cv rfl rfl rfl rfl hT8.1 rfl (d' := 1) (by omega) (c_tensOf hT8 hn (by omega) (Nat.le_refl _)) ?_
        refine ex_cvx rfl rfl rfl rfl hO8 rfl (d' := 0) (by omega) (c_addSet hO8 (by omega)) ?_
        rintro v9 h9 ⟨rfl, hO9, hB9⟩
        refine ex_go 80 rfl ?_
        try dsimp only
        try simp only [nI_inc, nI_1, nI_add, nI_mul2, tb_and, tb_or, tb_andn]
        exact K h9 _ hO9 (hU8.fr (hB9.fr (a := 30) (b := 30) (by decide) (by decide)) (by decide)) (hF7.tr (hF8.ft.tr hB9.ft))
  · skip
    refine ex_nop rfl ?_
    refine ex_go 80 rfl ?_
    refine ex_igtT rfl ((nI_ltI (by omega) (by omega)).mpr (by omega)) ?_
    exact ex_vret rfl (⟨rfl, hO7, ⟨_, _, hU7⟩, hF7⟩)
theorem k_fits (hC : CO h x) (hT : TA h 1 n f) (hL : TL h) (hB : FB h) (g : GD n f) {w : Int32} (hd : 7 ≤ d) : ev_X scr d cd_X5_fits 0 [.ref 0, .int w] [] h (fun v h' => v = some (.int (a_fits n f w)) ∧ TL h' ∧ FB h' ∧ FT h h') := by
  have hn := g.1
  have h8 : 2 ^ n ≤ 2 ^ 8 := Nat.pow_le_pow_right (by decide) hn
  unfold a_fits
  refine ex_go 80 rfl ?_
  refine ex_cs rfl rfl rfl (d' := 0) (by omega) (c_isWithin (k := 4) (by decide)) ?_
  show ev_X scr d cd_X5_fits _ _ [.int (nI (tb_b (isM 5 w)))] _ _
  cases hw : isM 5 w
  · refine ex_zneF rfl (by decide) ?_
    refine ex_go 80 rfl ?_
    exact ex_iret rfl (⟨rfl, hL, hB, FT.rf⟩)
  · obtain ⟨j, hj, rfl⟩ := isM_of hw (by decide)
    rw [ix_nI (by omega), if_pos rfl]
    obtain ⟨a, b, c, e, k, hO⟩ := hB
    refine ex_zneT rfl (by decide) ?_
    refine ex_go 80 rfl ?_
    refine ex_getf rfl hC rfl rfl ?_
    refine ex_go 80 rfl ?_
    refine ex_getf rfl hC rfl rfl ?_
    refine ex_go 80 rfl ?_
    refine ex_getf rfl hC rfl rfl ?_
    refine ex_cvx rfl rfl rfl rfl hO rfl (d' := 6) (by omega) (c_searchF hO hT hL g (Nat.le_refl _)) ?_
    rintro v1 h1 ⟨rfl, hO1, hL1, hF1⟩
    have hC1 := (hF1.2 0 (by decide) (by decide)).trans hC
    have hT1 := hT.ft hF1
    have hfl := fts_le n f (2 ^ n)
    have fin : TL h1 ∧ FB h1 ∧ FT h h1 := ⟨hL1, ⟨_, _, _, _, _, hO1⟩, hF1⟩
    rcases (by omega : j = 0 ∨ 1 ≤ j) with rfl | hj1
    · refine ex_go 80 rfl ?_
      refine ex_zneF rfl (rfl) ?_
      refine ex_go 80 rfl ?_
      refine ex_getf rfl hC1 rfl rfl ?_
      refine ex_getf rfl hO1 rfl rfl ?_
      exact ex_iret rfl (⟨rfl, fin⟩)
    · rw [if_neg (by omega)]
      refine ex_go 80 rfl ?_
      refine ex_zneT rfl (nI_ne0 (by omega) (by omega)) ?_
      refine ex_go 80 rfl ?_
      refine ex_getf rfl hC1 rfl rfl ?_
      refine ex_getf rfl hO1 rfl rfl ?_
      by_cases c0 : (fts n f (2 ^ n)).1 = 0
      · rw [if_pos c0, c0]
        refine ex_zneF rfl (rfl) ?_
        refine ex_go 80 rfl ?_
        exact ex_iret rfl (⟨rfl, fin⟩)
      · rw [if_neg c0]
        refine ex_zneT rfl (nI_ne0 (by omega) (by omega)) ?_
        rcases (by omega : j = 1 ∨ j = 2 ∨ j = 3 ∨ j = 4) with rfl | rfl | rfl | rfl
        · refine ex_go 80 rfl ?_
          refine ex_tsw (t := 27) rfl (by decide) ?_
          refine ex_go 80 rfl ?_
          refine ex_getf rfl hC1 rfl rfl ?_
          refine ex_getf rfl hO1 rfl rfl ?_
          exact ex_iret rfl (⟨rfl, fin⟩)
        · refine ex_go 80 rfl ?_
          refine ex_tsw (t := 31) rfl (by decide) ?_
          refine ex_go 80 rfl ?_
          refine ex_getf rfl hC1 rfl rfl ?_
          refine ex_getf rfl hO1 rfl rfl ?_
          exact ex_iret rfl (⟨rfl, fin⟩)
        · refine ex_go 80 rfl ?_
          refine ex_tsw (t := 35) rfl (by decide) ?_
          refine ex_go 80 rfl ?_
          refine ex_getf rfl hC1 rfl rfl ?_
          refine ex_cv rfl rfl rfl rfl hT1.1 rfl (d' := 0) (by omega) (c_allMen hT1 hn) ?_
          refine ex_go 80 rfl ?_
          refine ex_getf rfl hC1 rfl rfl ?_
          refine ex_go 80 rfl ?_
          refine ex_cv rfl rfl rfl rfl hT1.1 rfl (d' := 0) (by omega) (c_menOfKind (k := 2) hT1 hn (by decide) (fun j hj => (g.2.1 j hj).1)) ?_
          refine ex_go 80 rfl ?_
          try dsimp only
          try simp only [nI_inc, nI_1, nI_add, nI_mul2, tb_and, tb_or, tb_andn]
          refine ex_getf rfl hC1 rfl rfl ?_
          refine ex_getf rfl hO1 rfl rfl ?_
          refine ex_go 80 rfl ?_
          try dsimp only
          try simp only [nI_inc, nI_1, nI_add, nI_mul2, tb_and, tb_or, tb_andn]
          exact ex_iret rfl (⟨rfl, fin⟩)
        · refine ex_go 80 rfl ?_
          refine ex_tsw (t := 52) rfl (by decide) ?_
          refine ex_go 80 rfl ?_
          refine ex_getf rfl hC1 rfl rfl ?_
          refine ex_getf rfl hO1 rfl rfl ?_
          exact ex_iret rfl (⟨rfl, fin⟩)
theorem c_isSo (hM : MO h n q) (hS : ST h f im) (hL : LA h 59 57) (hI : LA h 65 8) (g : GD n f) {X : Nat} (hX : X < 2 ^ n) (hd : 4 ≤ d) : ev_X scr d cd_X6_isSo 0 [.ref 57, .int (nI X), .float 0, .float 0, .float 0] [] h (fun v h' => v = some (.int (nI (tb_b (okX n f X)))) ∧ LA h' 59 57 ∧ LA h' 65 8 ∧ RZ h h') := by
  have hn := g.1
  have h8 : 2 ^ n ≤ 2 ^ 8 := Nat.pow_le_pow_right (by decide) hn
  have h44 := g.2.2.2.2.2.2.2.1
  refine ex_go 80 rfl ?_
  refine ex_cv rfl rfl rfl rfl hM rfl (d' := 2) (by omega) (c_isWrong hM hS g (Nat.le_refl _)) ?_
  rw [mdw_nI hn hX]
  refine ex_go 80 rfl ?_
  refine ex_cvx rfl rfl rfl rfl hM rfl (d' := 0) (by omega) (c_starts hM hS hL) ?_
  rintro v1 h1 ⟨rfl, hA1, hB1⟩
  have hM1 := hB1.mo hM (by decide)
  have hI1 := hI.sb hB1 (by decide)
  rw [← wg_gdf f] at hA1
  refine ex_go 80 rfl ?_
  refine ex_cvx rfl rfl rfl rfl hM1 rfl (d' := 3) (by omega) (c_yearGoes hM1 hA1 hI1 g.p (gd_lt g) (by omega) (Nat.le_refl _)) ?_
  rintro v2 h2 ⟨rfl, hA2, hFi2, hZ2⟩
  have hM2 := hZ2.mo hM1
  have hS2 := (hS.b9 hB1).z hZ2
  have hZZ := hB1.rz9.tr hZ2
  refine ex_go 80 rfl ?_
  show ev_X scr d cd_X6_isSo 12 [.ref 57, .int (nI X), .int (nI (tb_b (decide (X &&& sa n f = 0)))), .int 0, .float 0] [] h2 _
  have e0 : decide (X &&& sa n f = 0) = (decide (X &&& sa n f = 0) && sokf n f X 0) := (Bool.and_true _).symm
  rw [e0]
  refine ev_loop (f 44) (fun i => ev_X scr d cd_X6_isSo 12 [.ref 57, .int (nI X), .int (nI (tb_b (decide (X &&& sa n f = 0) && sokf n f X i))), .int (nI i), .float 0] [] h2 _) (fun i hi K => ?_) ?_
  · obtain ⟨s1, s2⟩ := g.2.2.2.2.2.2.2.2.1 i hi
    have hgl : gd f (f (45 + 2 * i)) ≤ 99 := (g.2.1 _ s1).2.2.1
    have hyl := yr_le n f (gd f) X (f (45 + 2 * i))
    rw [sokf, ← Bool.and_assoc] at K
    generalize (decide (X &&& sa n f = 0) && sokf n f X i) = b at *
    refine ex_nop rfl ?_
    refine ex_go 80 rfl ?_
    refine ex_getf rfl hM2 rfl rfl ?_
    refine ex_go 80 rfl ?_
    refine ex_ia 44 rfl hS2 rfl (by first | exact trivial | assumption | (show _ < _; omega)) (by omega) (by omega) rfl ?_
    simp (disch := omega) only [rs_lt, rv_0, rv_1, rv_2, rv_3, rv_4, rv_40, rv_41, rv_42, rv_43, rv_44]
    refine ex_igeF rfl (nI_ge hi (by first | omega | decide)) ?_
    refine ex_go 80 rfl ?_
    refine ex_getf rfl hM2 rfl rfl ?_
    refine ex_go 80 rfl ?_
    try dsimp only
    try simp only [nI_inc, nI_1, nI_add, nI_mul2, tb_and, tb_or, tb_andn, nI_x5, nI_x2, nI_p0, nI_p2, nI_p3, nI_p4, nI_q45]
    refine ex_ia _ rfl hS2 rfl (by first | exact trivial | assumption | (show _ < _; omega)) (by omega) (by omega) rfl ?_
    simp (disch := omega) only [rs_lt, rv_0, rv_1, rv_2, rv_3, rv_4, rv_40, rv_41, rv_42, rv_43, rv_44]
    refine ex_go 80 rfl ?_
    rw [rv_hi f (show 40 ≤ 45 + 2 * i by omega)]
    refine ex_zeq rfl (fun hc => ?_) (fun hc => ?_)
    · rw [tb_b0] at hc
      rw [hc, Bool.false_and] at K
      refine ex_go 80 rfl ?_
      try dsimp only
      try simp only [nI_inc, nI_1, nI_add, nI_mul2, tb_and, tb_or, tb_andn, nI_x5, nI_x2, nI_p0, nI_p2, nI_p3, nI_p4, nI_q45]
      exact ex_weak (K) (by repeat (first | exact W_n | refine W_e ?_ | refine W_i ?_ | refine W_r ?_))
    · have hb : b = true := by simpa [tb_b0] using hc
      rw [hb, Bool.true_and] at K
      refine ex_go 80 rfl ?_
      refine ex_getf rfl hM2 rfl rfl ?_
      refine ex_go 80 rfl ?_
      try dsimp only
      try simp only [nI_inc, nI_1, nI_add, nI_mul2, tb_and, tb_or, tb_andn, nI_x5, nI_x2, nI_p0, nI_p2, nI_p3, nI_p4, nI_q45]
      refine ex_ia _ rfl hS2 rfl (by first | exact trivial | assumption | (show _ < _; omega)) (by omega) (by omega) rfl ?_
      simp (disch := omega) only [rs_lt, rv_0, rv_1, rv_2, rv_3, rv_4, rv_40, rv_41, rv_42, rv_43, rv_44]
      refine ex_go 80 rfl ?_
      refine ex_cv rfl rfl rfl rfl hM2 rfl (d' := 0) (by omega) (c_of2 hM2 hA2 (by omega)) ?_
      rw [up_ne (by omega), wg_gd (by omega), show f (5 * f (45 + 2 * i) + 2) = gd f (f (45 + 2 * i)) from rfl]
      refine ex_go 80 rfl ?_
      try dsimp only
      try simp only [nI_inc, nI_1, nI_add, nI_mul2, tb_and, tb_or, tb_andn, nI_x5, nI_x2, nI_p0, nI_p2, nI_p3, nI_p4, nI_q45]
      refine ex_getf rfl hM2 rfl rfl ?_
      refine ex_go 80 rfl ?_
      try dsimp only
      try simp only [nI_inc, nI_1, nI_add, nI_mul2, tb_and, tb_or, tb_andn, nI_x5, nI_x2, nI_p0, nI_p2, nI_p3, nI_p4, nI_q45]
      refine ex_ia _ rfl hS2 rfl (by first | exact trivial | assumption | (show _ < _; omega)) (by omega) (by omega) rfl ?_
      simp (disch := omega) only [rs_lt, rv_0, rv_1, rv_2, rv_3, rv_4, rv_40, rv_41, rv_42, rv_43, rv_44]
      rw [pk_sub hyl, rv_hi f (show 40 ≤ 45 + 2 * i + 1 by omega), show 45 + 2 * i + 1 = 46 + 2 * i by omega]
      refine ex_ineM 1 2 57 (v := nI (tb_b (decide (gd f (f (45 + 2 * i)) - (yr n f (gd f) X).1 (f (45 + 2 * i)) = f (46 + 2 * i))))) rfl rfl rfl (if10 (nI_eq (by omega) (by omega))) ?_
      refine ex_go 80 rfl ?_
      try dsimp only
      try simp only [nI_inc, nI_1, nI_add, nI_mul2, tb_and, tb_or, tb_andn, nI_x5, nI_x2, nI_p0, nI_p2, nI_p3, nI_p4, nI_q45]
      exact ex_weak (K) (by repeat (first | exact W_n | refine W_e ?_ | refine W_i ?_ | refine W_r ?_))
  · refine ex_nop rfl ?_
    refine ex_go 80 rfl ?_
    refine ex_getf rfl hM2 rfl rfl ?_
    refine ex_go 80 rfl ?_
    refine ex_ia 44 rfl hS2 rfl (by first | exact trivial | assumption | (show _ < _; omega)) (by omega) (by omega) rfl ?_
    simp (disch := omega) only [rs_lt, rv_0, rv_1, rv_2, rv_3, rv_4, rv_40, rv_41, rv_42, rv_43, rv_44]
    refine ex_igeT rfl (nI_le (Nat.le_refl _) (by first | omega | decide)) ?_
    refine ex_go 80 rfl ?_
    refine ex_tret rfl ?_ ⟨rfl, hA2.la, hFi2.la, hZZ⟩
    show ev_nrw 0 (nI (tb_b (okX n f X))) = true
    cases okX n f X <;> rfl
theorem r_fits (hM : MO h n q) (hS : ST h f im) (hR : RS h) (g : GD n f) {w : Int32} (hd : 5 ≤ d) : ev_X scr d cd_X6_fits 0 [.ref 57, .int w, .float 0, .float 0, .float 0, .float 0, .float 0, .float 0, .float 0] [] h (RQ h f im (.int (a_fits n f w))) := by
  have hn := g.1
  have h8 : 2 ^ n ≤ 2 ^ 8 := Nat.pow_le_pow_right (by decide) hn
  have h1p : 1 ≤ 2 ^ n := Nat.one_le_two_pow
  unfold a_fits
  refine ex_go 80 rfl ?_
  try dsimp only
  try simp only [nI_inc, nI_1, nI_add, nI_mul2, tb_and, tb_or, tb_andn, nI_x5, nI_x2, nI_p0, nI_p2, nI_p3, nI_p4, nI_q45]
  refine ex_cs rfl rfl rfl (d' := 0) (by omega) (c_in0 5 (by decide)) ?_
  cases hw : isM 5 w
  · refine ex_zneF rfl (by decide) ?_
    refine ex_go 80 rfl ?_
    exact ex_iret rfl (rq_s hS hR)
  · obtain ⟨j, hj, rfl⟩ := isM_of hw (by decide)
    rw [ix_nI (by omega), if_pos rfl]
    refine ex_zneT rfl (by decide) ?_
    refine ex_go 80 rfl ?_
    refine ex_getf rfl hM rfl rfl ?_
    refine ex_go 80 rfl ?_
    try dsimp only
    try simp only [nI_inc, nI_1, nI_add, nI_mul2, tb_and, tb_or, tb_andn, nI_x5, nI_x2, nI_p0, nI_p2, nI_p3, nI_p4, nI_q45]
    rw [tb_sh1 n (by omega), show (1 : Int32) = nI 1 from rfl, pk_sub h1p]
    refine ev_loop (2 ^ n) (fun X => ∀ h2, LA h2 59 57 → LA h2 65 8 → RZ h h2 → ev_X scr d cd_X6_fits 27 [.ref 57, .int (nI j), .int (nI (2 ^ n - 1)), .int (nI (fts n f X).1), .int (if (fts n f X).1 = 0 then -4 else nI (fts n f X).2.1), .int (nI (fts n f X).2.2.1), .int (nI (fts n f X).2.2.2.1), .int (nI (fts n f X).2.2.2.2), .int (nI X)] [] h2 _) (fun X hX K h2 hL2 hI2 hZ2 => ?_) (fun h2 hL2 hI2 hZ2 => ?_) h hR.1 hR.2.1 RZ.rf
    · have hM2 := hZ2.mo hM
      have hS2 := hS.z hZ2
      have hfl := fts_le n f X
      refine ex_nop rfl ?_
      refine ex_go 80 rfl ?_
      refine ex_igtF rfl (fun z => absurd ((nI_ltI (by omega) (by omega)).mp z) (by omega)) ?_
      refine ex_go 80 rfl ?_
      refine ex_cvx rfl rfl rfl rfl hM2 rfl (d' := 4) (by omega) (c_isSo hM2 hS2 hL2 hI2 g hX (Nat.le_refl _)) ?_
      rintro v3 h3 ⟨rfl, hL3, hI3, hZ3⟩
      have hM3 := hZ3.mo hM2
      have hS3 := hS2.z hZ3
      rw [fts] at K
      cases ho : okX n f X
      · rw [ho, if_neg (by decide)] at K
        refine ex_zeqT rfl (by decide) ?_
        refine ex_go 80 rfl ?_
        try dsimp only
        try simp only [nI_inc, nI_1, nI_add, nI_mul2, tb_and, tb_or, tb_andn, nI_x5, nI_x2, nI_p0, nI_p2, nI_p3, nI_p4, nI_q45]
        exact K h3 hL3 hI3 (hZ2.tr hZ3)
      · rw [ho, if_pos rfl] at K
        dsimp only at K
        rw [if_neg (show ¬ (fts n f X).1 + 1 = 0 by omega)] at K
        refine ex_zeqF rfl (by decide) ?_
        have hmv : (if nI (fts n f X).1 = 0 then nI X else (if (fts n f X).1 = 0 then -4 else nI (fts n f X).2.1)) = nI (if (fts n f X).1 = 0 then X else (fts n f X).2.1) := by
          by_cases c : (fts n f X).1 = 0
          · rw [if_pos (show nI (fts n f X).1 = 0 by rw [c]; rfl), if_pos c]
          · rw [if_neg (nI_ne0 (by omega) (by omega)), if_neg c, if_neg c]
        refine ex_go 80 rfl ?_
        refine ex_zneM 1 2 40 (v := nI (if (fts n f X).1 = 0 then X else (fts n f X).2.1)) rfl rfl rfl (hmv) ?_
        refine ex_go 80 rfl ?_
        try dsimp only
        try simp only [nI_inc, nI_1, nI_add, nI_mul2, tb_and, tb_or, tb_andn, nI_x5, nI_x2, nI_p0, nI_p2, nI_p3, nI_p4, nI_q45]
        refine ex_cv rfl rfl rfl rfl hM3 rfl (d' := 1) (by omega) (c_tensOfR hM3 hS3 g (by omega) (Nat.le_refl _)) ?_
        refine ex_go 80 rfl ?_
        try dsimp only
        try simp only [nI_inc, nI_1, nI_add, nI_mul2, tb_and, tb_or, tb_andn, nI_x5, nI_x2, nI_p0, nI_p2, nI_p3, nI_p4, nI_q45]
        exact K h3 hL3 hI3 (hZ2.tr hZ3)
    · have hM2 := hZ2.mo hM
      have hS2 := hS.z hZ2
      have hfl := fts_le n f (2 ^ n)
      have fin : ∀ a, RQ h f im a (some a) h2 := fun a => ⟨rfl, hS2, ⟨hL2, hI2, hR.2.2.rz hZ2 (by decide) (by decide)⟩, hZ2.ry⟩
      refine ex_nop rfl ?_
      refine ex_go 80 rfl ?_
      refine ex_igtT rfl ((nI_ltI (by omega) (by omega)).mpr (by omega)) ?_
      rcases (by omega : j = 0 ∨ 1 ≤ j) with rfl | hj1
      · refine ex_go 80 rfl ?_
        refine ex_zeqT rfl (rfl) ?_
        refine ex_go 80 rfl ?_
        refine ex_zneF rfl (rfl) ?_
        refine ex_go 80 rfl ?_
        exact ex_iret rfl (fin _)
      · have hjn : ¬ nI j = 0 := nI_ne0 (by omega) (by omega)
        rw [if_neg (show ¬ j = 0 by omega)]
        refine ex_go 80 rfl ?_
        refine ex_zeqF rfl (hjn) ?_
        refine ex_go 80 rfl ?_
        by_cases c0 : (fts n f (2 ^ n)).1 = 0
        · rw [if_pos c0, if_pos c0, c0]
          refine ex_zneF rfl (rfl) ?_
          refine ex_go 80 rfl ?_
          refine ex_zneT rfl (hjn) ?_
          refine ex_go 80 rfl ?_
          exact ex_iret rfl (fin _)
        · rw [if_neg c0, if_neg c0]
          refine ex_zneT rfl (nI_ne0 (by omega) (by omega)) ?_
          rcases (by omega : j = 1 ∨ j = 2 ∨ j = 3 ∨ j = 4) with rfl | rfl | rfl | rfl
          · refine ex_go 80 rfl ?_
            refine ex_ineF rfl (rfl) ?_
            refine ex_go 80 rfl ?_
            exact ex_iret rfl (fin _)
          · refine ex_go 80 rfl ?_
            refine ex_ineT rfl (by decide) ?_
            refine ex_go 80 rfl ?_
            refine ex_ineF rfl (rfl) ?_
            refine ex_go 80 rfl ?_
            exact ex_iret rfl (fin _)
          · refine ex_go 80 rfl ?_
            refine ex_ineT rfl (by decide) ?_
            refine ex_go 80 rfl ?_
            refine ex_ineT rfl (by decide) ?_
            refine ex_go 80 rfl ?_
            refine ex_ineF rfl (rfl) ?_
            refine ex_go 80 rfl ?_
            try dsimp only
            try simp only [nI_inc, nI_1, nI_add, nI_mul2, tb_and, tb_or, tb_andn, nI_x5, nI_x2, nI_p0, nI_p2, nI_p3, nI_p4, nI_q45]
            refine ex_cv rfl rfl rfl rfl hM2 rfl (d' := 1) (by omega) (c_saints hM2 hS2 g (Nat.le_refl _)) ?_
            refine ex_go 80 rfl ?_
            try dsimp only
            try simp only [nI_inc, nI_1, nI_add, nI_mul2, tb_and, tb_or, tb_andn, nI_x5, nI_x2, nI_p0, nI_p2, nI_p3, nI_p4, nI_q45]
            rw [wo_comm]
            exact ex_iret rfl (fin _)
          · refine ex_go 80 rfl ?_
            refine ex_ineT rfl (by decide) ?_
            refine ex_go 80 rfl ?_
            refine ex_ineT rfl (by decide) ?_
            refine ex_go 80 rfl ?_
            refine ex_ineT rfl (by decide) ?_
            refine ex_go 80 rfl ?_
            exact ex_iret rfl (fin _)
end FITS
