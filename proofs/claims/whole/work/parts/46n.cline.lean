/-! text: the class's line. -/
section CLINE2
variable {scr : List Int32} {d : Nat} {h : ev_H} {tp : Nat → Nat} {tl p n mt km : Nat} {y : Nat → Int32} {f : Nat → Nat} {ft wt : Bool}
theorem c_putDown {w : Nat} {N : Nat → Nat} (hO : TO h y) (hT : TA h 10 n f) (hN : IA h 24 3 (fun j => j < nmL w) (fun j => nI (N j))) (hw : w < 8) (hn : w ≤ 3 → n < 8) (h6 : w = 6 → N 0 < 4) (h7 : w = 7 → N 0 < 8 ∧ N 1 < 8 ∧ N 0 ≠ N 1) (h2 : w < 2 → N 2 < 4) (h22 : w = 2 → N 1 < 4) (hft : y 8 = nI (tb_b ft)) (hwt : y 9 = nI (tb_b wt)) (hm : y 10 = nI mt) (hk : y 11 = nI km) (hd : 2 ≤ d) : ev_X scr d cd_X3_putDown 0 [.ref 23, .int (nI w), .float 0, .float 0] [] h (fun v h' => v = none ∧ CFr h h' ∧ TA h' 10 (pNn w n) (pFf w n f N) ∧ h'[24]? = h[24]? ∧ ∃ y', TO h' y' ∧ (∀ j, j < 8 → y' j = y j) ∧ y' 8 = nI (tb_b (ft || decide (w = 4))) ∧ y' 9 = nI (tb_b (wt || decide (w = 5))) ∧ y' 10 = nI (pMm w mt N) ∧ y' 11 = nI (pKk w km N)) := by
  have e8 : w ≠ 4 → y 8 = nI (tb_b (ft || decide (w = 4))) := fun z => by rw [hft, decide_eq_false z, Bool.or_false]
  have e9 : w ≠ 5 → y 9 = nI (tb_b (wt || decide (w = 5))) := fun z => by rw [hwt, decide_eq_false z, Bool.or_false]
  have e10 : w ≠ 6 → y 10 = nI (pMm w mt N) := fun z => by unfold pMm; rw [if_neg z]; exact hm
  have e11 : w ≠ 7 → y 11 = nI (pKk w km N) := fun z => by unfold pKk; rw [if_neg z]; exact hk
  refine ex_go 80 rfl ?_
  refine ex_getf rfl hO rfl rfl ?_
  refine ex_go 80 rfl ?_
  refine ex_iaw 0 rfl hN rfl (by omega) (by omega) (fun a ha => ?_)
  refine ex_go 80 rfl ?_
  refine ex_getf rfl hO rfl rfl ?_
  refine ex_go 80 rfl ?_
  refine ex_iaw 1 rfl hN rfl (by omega) (by omega) (fun b hb => ?_)
  refine ex_go 80 rfl ?_
  rcases w_8 hw with rfl | rfl | rfl | rfl | rfl | rfl | rfl | rfl
  · obtain rfl := ha (show 0 < nmL 0 by decide)
    obtain rfl := hb (show 1 < nmL 0 by decide)
    have hN' : IA h 24 3 (fun j => j < 3) (fun j => nI (N j)) := hN
    refine ex_tsw (t := 89) rfl (by decide) ?_
    refine ex_go 80 rfl ?_
    refine ex_getf rfl hO rfl rfl ?_
    refine ex_go 80 rfl ?_
    refine ex_getf rfl hO rfl rfl ?_
    refine ex_go 80 rfl ?_
    refine ex_ia 2 rfl hN' rfl (by first | exact trivial | assumption | (show _ < _; omega)) (by omega) (by omega) rfl ?_
    refine ex_cvx rfl rfl rfl rfl hT.1 rfl (d' := 0) (by omega) (c_addMan (k := 0) (o := N 0) (s := N 1) (t := N 2) hT (hn (by decide)) (show nI (N 2) = tv (N 2) from (if_pos (h2 (by decide))).symm)) ?_
    rintro v1 h1 ⟨rfl, hT1, hF1⟩
    exact ex_vret rfl (⟨rfl, hF1.cf, hT1, hF1.2 24 (by omega), y, (hF1.2 23 (by omega)).trans hO, fun _ _ => rfl, e8 (by decide), e9 (by decide), e10 (by decide), e11 (by decide)⟩)
  · obtain rfl := ha (show 0 < nmL 1 by decide)
    obtain rfl := hb (show 1 < nmL 1 by decide)
    have hN' : IA h 24 3 (fun j => j < 3) (fun j => nI (N j)) := hN
    refine ex_tsw (t := 78) rfl (by decide) ?_
    refine ex_go 80 rfl ?_
    refine ex_getf rfl hO rfl rfl ?_
    refine ex_go 80 rfl ?_
    refine ex_getf rfl hO rfl rfl ?_
    refine ex_go 80 rfl ?_
    refine ex_ia 2 rfl hN' rfl (by first | exact trivial | assumption | (show _ < _; omega)) (by omega) (by omega) rfl ?_
    refine ex_cvx rfl rfl rfl rfl hT.1 rfl (d' := 0) (by omega) (c_addMan (k := 1) (o := N 0) (s := N 1) (t := N 2) hT (hn (by decide)) (show nI (N 2) = tv (N 2) from (if_pos (h2 (by decide))).symm)) ?_
    rintro v1 h1 ⟨rfl, hT1, hF1⟩
    refine ex_go 80 rfl ?_
    exact ex_vret rfl (⟨rfl, hF1.cf, hT1, hF1.2 24 (by omega), y, (hF1.2 23 (by omega)).trans hO, fun _ _ => rfl, e8 (by decide), e9 (by decide), e10 (by decide), e11 (by decide)⟩)
  · obtain rfl := ha (show 0 < nmL 2 by decide)
    obtain rfl := hb (show 1 < nmL 2 by decide)
    refine ex_tsw (t := 62) rfl (by decide) ?_
    refine ex_go 80 rfl ?_
    refine ex_getf rfl hO rfl rfl ?_
    refine ex_go 80 rfl ?_
    refine ex_cvx rfl rfl rfl rfl hT.1 rfl (d' := 0) (by omega) (c_addMan (k := 2) (o := 0) (s := N 0) (t := N 1) hT (hn (by decide)) (show nI (N 1) = tv (N 1) from (if_pos (h22 rfl)).symm)) ?_
    rintro v1 h1 ⟨rfl, hT1, hF1⟩
    refine ex_go 80 rfl ?_
    exact ex_vret rfl (⟨rfl, hF1.cf, hT1, hF1.2 24 (by omega), y, (hF1.2 23 (by omega)).trans hO, fun _ _ => rfl, e8 (by decide), e9 (by decide), e10 (by decide), e11 (by decide)⟩)
  · obtain rfl := ha (show 0 < nmL 3 by decide)
    obtain rfl := hb (show 1 < nmL 3 by decide)
    refine ex_tsw (t := 70) rfl (by decide) ?_
    refine ex_go 80 rfl ?_
    refine ex_getf rfl hO rfl rfl ?_
    refine ex_go 80 rfl ?_
    refine ex_cvx rfl rfl rfl rfl hT.1 rfl (d' := 0) (by omega) (c_addMan (k := 3) (o := N 0) (s := N 1) (t := 4) hT (hn (by decide)) (show (-4 : Int32) = tv 4 from rfl)) ?_
    rintro v1 h1 ⟨rfl, hT1, hF1⟩
    refine ex_go 80 rfl ?_
    exact ex_vret rfl (⟨rfl, hF1.cf, hT1, hF1.2 24 (by omega), y, (hF1.2 23 (by omega)).trans hO, fun _ _ => rfl, e8 (by decide), e9 (by decide), e10 (by decide), e11 (by decide)⟩)
  · obtain rfl := ha (show 0 < nmL 4 by decide)
    refine ex_tsw (t := 12) rfl (by decide) ?_
    refine ex_go 80 rfl ?_
    refine ex_getf rfl hO rfl rfl ?_
    refine ex_go 80 rfl ?_
    refine ex_pf rfl hT.1 rfl rfl (fun h1 hO1 hB1 => ?_)
    have hT1 : TA h1 10 n (up f 41 (N 0)) := hT.f_41 (v := N 0) hO1 hB1 rfl
    have hOt : TO h1 y := (hB1.2 23 (by decide)).trans hO
    refine ex_go 80 rfl ?_
    refine ex_pz rfl hOt rfl rfl rfl (fun h3 hO3 hB3 => ?_)
    have hO3' : TO h3 (ux y 8 1) := hO3
    refine ex_go 80 rfl ?_
    exact ex_vret rfl (⟨rfl, (hB1.cf (by omega)).tr (hB3.cf (by omega)), hT1.same (fun j _ _ => hB3.2 j (by omega)), (hB3.2 24 (by decide)).trans (hB1.2 24 (by decide)), _, hO3', fun j hj => ux_ne (by omega), by rw [Bool.or_comm]; rfl, e9 (by decide), e10 (by decide), e11 (by decide)⟩)
  · obtain rfl := ha (show 0 < nmL 5 by decide)
    refine ex_tsw (t := 20) rfl (by decide) ?_
    refine ex_go 80 rfl ?_
    refine ex_getf rfl hO rfl rfl ?_
    refine ex_go 80 rfl ?_
    refine ex_pf rfl hT.1 rfl rfl (fun h1 hO1 hB1 => ?_)
    have hT1 : TA h1 10 n (up f 42 (N 0)) := hT.f_42 (v := N 0) hO1 hB1 rfl
    have hOt : TO h1 y := (hB1.2 23 (by decide)).trans hO
    refine ex_go 80 rfl ?_
    refine ex_pz rfl hOt rfl rfl rfl (fun h3 hO3 hB3 => ?_)
    have hO3' : TO h3 (ux y 9 1) := hO3
    refine ex_go 80 rfl ?_
    exact ex_vret rfl (⟨rfl, (hB1.cf (by omega)).tr (hB3.cf (by omega)), hT1.same (fun j _ _ => hB3.2 j (by omega)), (hB3.2 24 (by decide)).trans (hB1.2 24 (by decide)), _, hO3', fun j hj => ux_ne (by omega), e8 (by decide), by rw [Bool.or_comm]; rfl, e10 (by decide), e11 (by decide)⟩)
  · obtain rfl := ha (show 0 < nmL 6 by decide)
    obtain rfl := hb (show 1 < nmL 6 by decide)
    have hN4 := h6 rfl
    refine ex_tsw (t := 28) rfl (by decide) ?_
    refine ex_go 80 rfl ?_
    refine ex_getf rfl hO rfl rfl ?_
    refine ex_getf rfl hT.1 rfl rfl ?_
    refine ex_go 80 rfl ?_
    refine ex_is _ rfl hT.2.2.2.2.2.2.1 rfl (by omega) (by omega) (fun h1 hA1 hB1 => ?_)
    have hT1 : TA h1 10 n (up f (60 + N 0) (N 1)) := hT.u_mosts (v := N 1) hA1 hB1 hN4 rfl
    have hOt : TO h1 y := (hB1.2 23 (by decide)).trans hO
    refine ex_go 80 rfl ?_
    refine ex_getf rfl hOt rfl rfl ?_
    refine ex_go 80 rfl ?_
    try dsimp only
    try simp only [nI_inc, nI_1, nI_add, nI_mul2, tb_and, tb_or, tb_andn]
    rw [hm, tb_sh1 _ (by omega), tb_or]
    refine ex_pf rfl hOt rfl rfl (fun h3 hO3 hB3 => ?_)
    have hO3' : TO h3 (ux y 10 (nI (mt ||| 2 ^ N 0))) := hO3
    refine ex_go 80 rfl ?_
    exact ex_vret rfl (⟨rfl, (hB1.cf (by omega)).tr (hB3.cf (by omega)), hT1.same (fun j _ _ => hB3.2 j (by omega)), (hB3.2 24 (by decide)).trans (hB1.2 24 (by decide)), _, hO3', fun j hj => ux_ne (by omega), e8 (by decide), e9 (by decide), rfl, e11 (by decide)⟩)
  · obtain rfl := ha (show 0 < nmL 7 by decide)
    obtain rfl := hb (show 1 < nmL 7 by decide)
    obtain ⟨n0, n1, n01⟩ := h7 rfl
    refine ex_tsw (t := 43) rfl (by decide) ?_
    refine ex_go 80 rfl ?_
    refine ex_getf rfl hO rfl rfl ?_
    refine ex_go 80 rfl ?_
    refine ex_cvx rfl rfl rfl rfl hT.1 rfl (d' := 1) (by omega) (c_setKin hT n0 n1 n01 true (Nat.le_refl _)) ?_
    rintro v1 h1 ⟨rfl, hT1, hF1⟩
    have hOt : TO h1 y := (hF1.2 23 (by omega)).trans hO
    refine ex_go 80 rfl ?_
    refine ex_getf rfl hOt rfl rfl ?_
    refine ex_go 80 rfl ?_
    try dsimp only
    try simp only [nI_inc, nI_1, nI_add, nI_mul2, tb_and, tb_or, tb_andn]
    rw [hk, tb_sh1 _ (by omega), tb_sh1 _ (by omega), tb_or, tb_or]
    refine ex_pf rfl hOt rfl rfl (fun h3 hO3 hB3 => ?_)
    have hO3' : TO h3 (ux y 11 (nI (km ||| (2 ^ N 0 ||| 2 ^ N 1)))) := hO3
    refine ex_go 80 rfl ?_
    exact ex_vret rfl (⟨rfl, hF1.cf.tr (hB3.cf (by omega)), hT1.same (fun j _ _ => hB3.2 j (by omega)), (hB3.2 24 (by decide)).trans (hF1.2 24 (by omega)), _, hO3', fun j hj => ux_ne (by omega), e8 (by decide), e9 (by decide), e10 (by decide), rfl⟩)
theorem lnS_l {e : Nat × Nat} (hh : hdS tp tl n ft wt p = .inl e) : lnS tp tl n ft wt mt p = .inl e := by
  unfold lnS
  rw [hh]
  have := csS_l (tp := tp) (tl := tl) (w := lwS tp tl p) (mt := mt) (s := .inl e) (e := e) (i := 0) rfl (nmL (lwS tp tl p))
  rw [Nat.zero_add] at this
  rw [this]
  rfl
theorem csS_i {w i k r : Nat} {s : Sum (Nat × Nat) Nat} (hc : csS tp tl w mt s k = .inr r) (hi : i ≤ k) : ∃ r', csS tp tl w mt s i = .inr r' := by
  cases hs : csS tp tl w mt s i with
  | inl e =>
    have := csS_l hs (k - i)
    rw [show i + (k - i) = k by omega, hc] at this
    cases this
  | inr r' => exact ⟨r', rfl⟩
/-- a number of a line that is read -/
theorem csS_n {w i r : Nat} {s : Sum (Nat × Nat) Nat} (hc : csS tp tl w mt s (i + 1) = .inr r) : tO tp tl r = true ∧ tK tp tl r = 2 ∧ (loL.getD (3 * w + i) 0 ≤ tV tp tl r ∧ tV tp tl r ≤ hiL.getD (3 * w + i) 0) ∧ ¬ (w = 7 ∧ i = 1 ∧ tV tp tl r = v0S tp tl w s) ∧ ¬ (w = 6 ∧ i = 0 ∧ mt.testBit (tV tp tl r) = true) ∧ vlS tp tl (csS tp tl w mt s (i + 1)) = tV tp tl r := by
  obtain ⟨h1, h2, h3, h4, h5⟩ := lkC_r hc
  obtain ⟨p', _, _, ho⟩ := nxS_r h1
  refine ⟨ho, h2, h3, h4, h5, ?_⟩
  rw [hc]
  rfl
theorem v0_eq {w r : Nat} {s : Sum (Nat × Nat) Nat} (hc : csS tp tl w mt s 1 = .inr r) : v0S tp tl w s = vlS tp tl (csS tp tl w mt s 1) := by
  obtain ⟨h1, _⟩ := ndS_r hc
  obtain ⟨h2, _⟩ := ndS_r h1
  rw [hc]
  unfold v0S
  have h3 : lkS tp tl (nxS tp tl s) (loL.getD (3 * w + 0) 0) (hiL.getD (3 * w + 0) 0) = .inr r := h2
  rw [h3]
theorem csS_b {w i k r : Nat} {s : Sum (Nat × Nat) Nat} (hc : csS tp tl w mt s k = .inr r) (hi : i < k) : vlS tp tl (csS tp tl w mt s (i + 1)) ≤ hiL.getD (3 * w + i) 0 ∧ loL.getD (3 * w + i) 0 ≤ vlS tp tl (csS tp tl w mt s (i + 1)) := by
  obtain ⟨r', hr'⟩ := csS_i hc (i := i + 1) hi
  obtain ⟨_, _, h3, _, _, h6⟩ := csS_n hr'
  rw [h6]
  exact ⟨h3.2, h3.1⟩
theorem csS_k {k r : Nat} {s : Sum (Nat × Nat) Nat} (hc : csS tp tl 7 mt s k = .inr r) (hk : 1 < k) : vlS tp tl (csS tp tl 7 mt s 1) ≠ vlS tp tl (csS tp tl 7 mt s 2) := by
  obtain ⟨r1, hr1⟩ := csS_i hc (i := 1) (by omega)
  obtain ⟨r2, hr2⟩ := csS_i hc (i := 2) (by omega)
  obtain ⟨_, _, _, h4, _, h6⟩ := csS_n hr2
  intro z
  refine h4 ⟨rfl, rfl, ?_⟩
  rw [v0_eq hr1, z]
  exact h6.symm
theorem wne : ∀ w, w < 8 → ¬ nI w = -1 := by decide
theorem c_takeLine (hO : TO h y) (hB : TP h tl tp) (hT : TA h 10 n f) (hL : LA h 24 3) (ht : tl ≤ 160) (hb : ∀ i, i < tl → tp i < 128) (h3 : y 3 = nI tl) (hp : p ≤ tl) (h4 : y 4 = nI (tE tp tl p)) (h6 : y 6 = nI (tS tp tl p)) (h5 : y 5 = nI (tK tp tl p)) (hn : n ≤ 8) (hft : y 8 = nI (tb_b ft)) (hwt : y 9 = nI (tb_b wt)) (hm : y 10 = nI mt) (hmt : mt < 2 ^ 31) (hk : y 11 = nI km) (hd : 8 ≤ d) : ev_X scr d cd_X3_takeLine 0 [.ref 23, .float 0, .float 0] [] h (fun v h' => CFr h h' ∧ LA h' 24 3 ∧ TL h' ∧ ∃ y', TO h' y' ∧ (∀ c x, lnS tp tl n ft wt mt p = .inl (c, x) → v = some (.int 0) ∧ y' 1 = nI c ∧ y' 2 = nI x) ∧ ∀ r, lnS tp tl n ft wt mt p = .inr r → v = some (.int 1) ∧ (∀ j, j < 4 → y' j = y j) ∧ y' 4 = nI (tE tp tl r) ∧ y' 8 = nI (tb_b (ft || decide (lwS tp tl p = 4))) ∧ y' 9 = nI (tb_b (wt || decide (lwS tp tl p = 5))) ∧ y' 10 = nI (pMm (lwS tp tl p) mt (nbS tp tl n ft wt mt p)) ∧ y' 11 = nI (pKk (lwS tp tl p) km (nbS tp tl n ft wt mt p)) ∧ TA h' 10 (pNn (lwS tp tl p) n) (pFf (lwS tp tl p) n f (nbS tp tl n ft wt mt p))) := by
  generalize hQ : (fun (v : Option Value) (h' : ev_H) => CFr h h' ∧ LA h' 24 3 ∧ TL h' ∧ ∃ y', TO h' y' ∧ (∀ c x, lnS tp tl n ft wt mt p = .inl (c, x) → v = some (.int 0) ∧ y' 1 = nI c ∧ y' 2 = nI x) ∧ ∀ r, lnS tp tl n ft wt mt p = .inr r → v = some (.int 1) ∧ (∀ j, j < 4 → y' j = y j) ∧ y' 4 = nI (tE tp tl r) ∧ y' 8 = nI (tb_b (ft || decide (lwS tp tl p = 4))) ∧ y' 9 = nI (tb_b (wt || decide (lwS tp tl p = 5))) ∧ y' 10 = nI (pMm (lwS tp tl p) mt (nbS tp tl n ft wt mt p)) ∧ y' 11 = nI (pKk (lwS tp tl p) km (nbS tp tl n ft wt mt p)) ∧ TA h' 10 (pNn (lwS tp tl p) n) (pFf (lwS tp tl p) n f (nbS tp tl n ft wt mt p))) = Q
  have bad : ∀ {h2 : ev_H} {y2 : Nat → Int32} {c x : Nat}, lnS tp tl n ft wt mt p = .inl (c, x) → TO h2 y2 → y2 1 = nI c → y2 2 = nI x → FR 23 24 h h2 → LA h2 24 3 → Q (some (.int 0)) h2 := by
    intro h2 y2 c x e hO2 e1 e2 hF hL2
    rw [← hQ]
    refine ⟨⟨hF.1, fun j hj => hF.2 j (by omega)⟩, hL2, ⟨n, f, hT.same (fun j _ _ => hF.2 j (by omega))⟩, y2, hO2, fun c' x' e' => ?_, fun r e' => ?_⟩
    · rw [e] at e'
      cases e'
      exact ⟨rfl, e1, e2⟩
    · rw [e] at e'
      cases e'
  have ref : ∀ {h2 : ev_H} {c x : Nat}, lnS tp tl n ft wt mt p = .inl (c, x) → TO h2 (ux (ux y 1 (nI c)) 2 (nI x)) → SB 23 h h2 → Q (some (.int 0)) h2 := fun e hO2 hB2 => bad e hO2 (by rw [ux_ne (by decide), ux_eq]) ux_eq (hB2.fr (by omega) (by omega)) (hL.sb hB2 (by decide))
  obtain ⟨w, hw⟩ : ∃ w, lwS tp tl p = w := ⟨_, rfl⟩
  have M50 : w < 8 → (w ≤ 3 → n < 8) → hdS tp tl n ft wt p = .inr p → ev_X scr d cd_X3_takeLine 50 [.ref 23, .int (nI w), .float 0] [] h Q := by
    intro hw8 hn8 hH
    have hnm := nm_3 w hw8
    have eln : lnS tp tl n ft wt mt p = ndS tp tl (nxS tp tl (csS tp tl w mt (.inr p) (nmL w))) (fun p => decide (tK tp tl p = 3)) 2 := by
      unfold lnS
      rw [hH, hw]
    have L : ∀ h1 y1 r, csS tp tl w mt (.inr p) 0 = .inr r → r ≤ tl → TO h1 y1 → FR 23 24 h h1 → (∀ j, j < 4 ∨ 8 ≤ j → y1 j = y j) → y1 4 = nI (tE tp tl r) → IA h1 24 3 (fun j => j < 0) (fun j => nI (vlS tp tl (csS tp tl w mt (.inr p) (j + 1)))) → ev_X scr d cd_X3_takeLine 52 [.ref 23, .int (nI w), .int (nI 0)] [] h1 Q := by
      refine ev_loop (nmL w) (fun i => ∀ h1 y1 r, csS tp tl w mt (.inr p) i = .inr r → r ≤ tl → TO h1 y1 → FR 23 24 h h1 → (∀ j, j < 4 ∨ 8 ≤ j → y1 j = y j) → y1 4 = nI (tE tp tl r) → IA h1 24 3 (fun j => j < i) (fun j => nI (vlS tp tl (csS tp tl w mt (.inr p) (j + 1)))) → ev_X scr d cd_X3_takeLine 52 [.ref 23, .int (nI w), .int (nI i)] [] h1 Q) (fun i hi K h1 y1 r hc hr hO1 hF1 ey e4 hN1 => ?_) (fun h1 y1 r hc hr hO1 hF1 ey e4 hN1 => ?_)
      · have hBt := hB.kept (hF1.2 22 (by omega))
        obtain ⟨_, hEl⟩ := tE_le (tp := tp) hr
        have hcs : csS tp tl w mt (.inr p) (i + 1) = lkC tp tl w mt i (v0S tp tl w (.inr p)) (tkS tp tl (tE tp tl r)) := by
          show lkC tp tl w mt i (v0S tp tl w (.inr p)) (nxS tp tl (csS tp tl w mt (.inr p) i)) = _
          rw [hc]
          rfl
        refine ex_nop rfl ?_
        refine ex_go 80 rfl ?_
        refine ex_fald w rfl rfl rfl rfl hw8 (by omega) (nm_t _ hw8) ?_
        refine ex_igeF rfl (nI_ge hi (by omega)) ?_
        refine ex_go 80 rfl ?_
        refine ex_cvx rfl rfl rfl rfl hO1 rfl (d' := 3) (by omega) (c_takeNumber (w := w) (i := i) (a := v0S tp tl w (.inr p)) (N := fun j => vlS tp tl (csS tp tl w mt (.inr p) (j + 1))) hO1 hBt hN1 ht hb ((ey 3 (by omega)).trans h3) e4 hEl hw8 (by omega) ((ey 10 (by omega)).trans hm) hmt (fun z => by subst z; exact (v0_eq hc).symm) (fun z => by subst z; have := csS_b hc (i := 0) (by omega); have := hi_99 (3 * w + 0) (by omega); show vlS tp tl (csS tp tl w mt (.inr p) (0 + 1)) < 1000; omega) (Nat.le_refl _)) ?_
        rintro v2 h2 ⟨y2, hO2, hF2, e2, q2, hL2, hN2⟩
        rw [← hcs] at q2 hN2
        cases hs : csS tp tl w mt (.inr p) (i + 1) with
        | inl e =>
          obtain ⟨c, x⟩ := e
          obtain ⟨rfl, k1, k2⟩ := q2.1 c x hs
          refine ex_zneF rfl (rfl) ?_
          refine ex_go 80 rfl ?_
          refine ex_tret rfl rfl (bad ?_ hO2 k1 k2 (hF1.tr hF2) hL2)
          have := csS_l hs (nmL w - (i + 1))
          rw [show i + 1 + (nmL w - (i + 1)) = nmL w by omega] at this
          rw [eln, this]
          rfl
        | inr r2 =>
          obtain ⟨rfl, k0, ⟨k1, k2⟩, k4, k6, k5, k7⟩ := q2.2 r2 hs
          refine ex_zneT rfl (by decide) ?_
          refine ex_go 80 rfl ?_
          try dsimp only
          try simp only [nI_inc, nI_1, nI_add, nI_mul2, tb_and, tb_or, tb_andn]
          refine K h2 y2 r2 hs k1 hO2 (hF1.tr hF2) (fun j hj => (k0 j hj).trans (ey j hj)) k4 ((hN2 r2 hs).congr (fun j _ hj => ⟨hj, ?_⟩))
          by_cases ej : j = i
          · rw [if_pos ej, ej, hs]
            rfl
          · rw [if_neg ej]
      · have hBt := hB.kept (hF1.2 22 (by omega))
        obtain ⟨_, hEl⟩ := tE_le (tp := tp) hr
        rw [hc] at eln
        refine ex_nop rfl ?_
        refine ex_go 80 rfl ?_
        refine ex_fald w rfl rfl rfl rfl hw8 (by omega) (nm_t _ hw8) ?_
        refine ex_igeT rfl (nI_le (Nat.le_refl _) (by omega)) ?_
        refine ex_go 80 rfl ?_
        refine ex_cvx rfl rfl rfl rfl hO1 rfl (d' := 2) (by omega) (c_tokS hO1 hBt ht hb ((ey 3 (by omega)).trans h3) e4 hEl (Nat.le_refl _)) ?_
        rintro v2 h2 ⟨y2, hO2, hB2, e2, q2⟩
        have hF2 : FR 23 24 h h2 := hF1.tr (hB2.fr (by omega) (by omega))
        have hN2 := hN1.sb hB2 (by decide)
        cases hs : tkS tp tl (tE tp tl r) with
        | inl e =>
          obtain ⟨c, x⟩ := e
          obtain ⟨rfl, k1, k2⟩ := q2.1 c x hs
          refine ex_zneF rfl (rfl) ?_
          refine ex_go 80 rfl ?_
          refine ex_tret rfl rfl (bad ?_ hO2 k1 k2 hF2 hN2.la)
          rw [eln]
          show ndS tp tl (tkS tp tl (tE tp tl r)) _ _ = _
          rw [hs]
          rfl
        | inr r2 =>
          obtain ⟨rfl, k0, ⟨k1, k2⟩, k4, k6, k5, k7⟩ := q2.2 r2 hs
          have hK4 : tK tp tl r2 < 1000 := by
            unfold tK
            repeat' split
            all_goals decide
          have eln2 : lnS tp tl n ft wt mt p = ndS tp tl (.inr r2) (fun p => decide (tK tp tl p = 3)) 2 := by
            rw [eln]
            show ndS tp tl (tkS tp tl (tE tp tl r)) _ _ = _
            rw [hs]
          refine ex_zneT rfl (by decide) ?_
          refine ex_go 80 rfl ?_
          refine ex_getf rfl hO2 rfl rfl ?_
          refine ex_go 80 rfl ?_
          rw [k5]
          by_cases c3 : tK tp tl r2 = 3
          · rw [ndS_t (decide_eq_true c3)] at eln2
            have hT2 := hT.same (h' := h2) (fun j _ _ => hF2.2 j (by omega))
            have enb : ∀ j, nbS tp tl n ft wt mt p j = vlS tp tl (csS tp tl w mt (.inr p) (j + 1)) := fun j => by
              unfold nbS
              rw [hH, hw]
            have hN3 : IA h2 24 3 (fun j => j < nmL w) (fun j => nI (nbS tp tl n ft wt mt p j)) := hN2.congr (fun j _ hj => ⟨hj, by rw [enb]⟩)
            have hbd : ∀ i, i < nmL w → nbS tp tl n ft wt mt p i ≤ hiL.getD (3 * w + i) 0 := fun i hi => by
              rw [enb]
              exact (csS_b hc hi).1
            have z6 : w = 6 → nbS tp tl n ft wt mt p 0 < 4 := fun z => by
              subst z
              exact Nat.lt_succ_of_le (hbd 0 (by decide))
            have z7 : w = 7 → nbS tp tl n ft wt mt p 0 < 8 ∧ nbS tp tl n ft wt mt p 1 < 8 ∧ nbS tp tl n ft wt mt p 0 ≠ nbS tp tl n ft wt mt p 1 := fun z => by
              subst z
              refine ⟨Nat.lt_succ_of_le (hbd 0 (by decide)), Nat.lt_succ_of_le (hbd 1 (by decide)), ?_⟩
              rw [enb, enb]
              exact csS_k hc (by decide)
            have z2 : w < 2 → nbS tp tl n ft wt mt p 2 < 4 := fun z => by
              rcases (by omega : w = 0 ∨ w = 1) with e | e <;> subst e <;> exact Nat.lt_succ_of_le (hbd 2 (by decide))
            have z22 : w = 2 → nbS tp tl n ft wt mt p 1 < 4 := fun z => by
              subst z
              exact Nat.lt_succ_of_le (hbd 1 (by decide))
            have ey2 : ∀ j, j < 4 ∨ 8 ≤ j → y2 j = y j := fun j hj => (k0 j hj).trans (ey j hj)
            rw [c3]
            refine ex_ieqT rfl (rfl) ?_
            refine ex_go 80 rfl ?_
            refine ex_cvx rfl rfl rfl rfl hO2 rfl (d' := 2) (by omega) (c_putDown (w := w) (ft := ft) (wt := wt) (mt := mt) (km := km) hO2 hT2 hN3 hw8 hn8 z6 z7 z2 z22 ((ey2 8 (by omega)).trans hft) ((ey2 9 (by omega)).trans hwt) ((ey2 10 (by omega)).trans hm) ((ey2 11 (by omega)).trans hk) (Nat.le_refl _)) ?_
            rintro v3 h3' ⟨rfl, hC3, hT3, hL3, y3, hO3, f1, f2, f3, f4, f5⟩
            refine ex_go 80 rfl ?_
            refine ex_tret rfl rfl ?_
            rw [← hQ]
            refine ⟨⟨hC3.1.trans hF2.1, fun j hj => (hC3.2 j hj).trans (hF2.2 j (by omega))⟩, hN2.la.kept hL3, ⟨_, _, hT3⟩, y3, hO3, fun c' x' e' => ?_, fun r' e' => ?_⟩
            · rw [eln2] at e'
              cases e'
            · rw [eln2] at e'
              cases e'
              rw [hw]
              exact ⟨rfl, fun j hj => (f1 j (by omega)).trans (ey2 j (by omega)), (f1 4 (by omega)).trans k4, f2, f3, f4, f5, hT3⟩
          · rw [ndS_f (decide_eq_false c3)] at eln2
            refine ex_ieqF rfl (fun z => c3 ((nI_eq (b := 3) (by omega) (by decide)).mp z)) ?_
            refine ex_go 80 rfl ?_
            refine ex_getf rfl hO2 rfl rfl ?_
            rw [k6]
            refine ex_cvx rfl rfl rfl rfl hO2 rfl (d' := 0) (by omega) (c_refuse hO2) ?_
            rintro v3 h3' ⟨rfl, hO3, hB3⟩
            exact ex_tret rfl rfl (bad eln2 hO3 (by rw [ux_ne (by decide), ux_eq]; rfl) (by rw [ux_eq]) (hF2.tr (hB3.fr (by omega) (by omega))) (hN2.la.sb hB3 (by decide)))
    refine ex_go 80 rfl ?_
    exact L h y p rfl hp hO FR.rf (fun _ _ => rfl) h4 (hL.congr (fun j _ hj => absurd hj (Nat.not_lt_zero j)))
  have M36 : w < 8 → ¬ ((w = 4 ∧ ft = true) ∨ (w = 5 ∧ wt = true)) → ev_X scr d cd_X3_takeLine 36 [.ref 23, .int (nI w), .float 0] [] h Q := by
    intro hw8 hc4
    have eh : hdS tp tl n ft wt p = if w ≤ 3 ∧ 8 ≤ n then .inl (5, tS tp tl p) else .inr p := by
      unfold hdS
      rw [hw, if_neg (by omega), if_neg hc4]
    by_cases c3 : w ≤ 3
    · refine ex_go 80 rfl ?_
      refine ex_igtF rfl (fun z => absurd ((nI_ltI (by decide) (by omega)).mp z) (by omega : ¬ 3 < w)) ?_
      refine ex_go 80 rfl ?_
      refine ex_getf rfl hO rfl rfl ?_
      refine ex_getf rfl hT.1 rfl rfl ?_
      refine ex_go 80 rfl ?_
      by_cases c8 : n < 8
      · refine ex_iltT rfl (nI_lt c8 (by decide)) ?_
        exact M50 hw8 (fun _ => c8) (by rw [eh, if_neg (by omega)])
      · rw [if_pos (by omega)] at eh
        refine ex_iltF rfl (nI_nlt (b := 8) (by omega) (by omega)) ?_
        refine ex_go 80 rfl ?_
        refine ex_getf rfl hO rfl rfl ?_
        rw [h6]
        refine ex_cvx rfl rfl rfl rfl hO rfl (d' := 0) (by omega) (c_refuse hO) ?_
        rintro v3 h3' ⟨rfl, hO3, hB3⟩
        exact ex_tret rfl rfl (ref (lnS_l eh) hO3 hB3)
    · refine ex_go 80 rfl ?_
      refine ex_igtT rfl (nI_lt (by omega : 3 < w) (by omega)) ?_
      exact M50 hw8 (fun z => absurd z c3) (by rw [eh, if_neg (by omega)])
  have M30 : w < 8 → ((w = 4 ∧ ft = true) ∨ (w = 5 ∧ wt = true)) → ev_X scr d cd_X3_takeLine 30 [.ref 23, .int (nI w), .float 0] [] h Q := by
    intro hw8 hc4
    have eh : hdS tp tl n ft wt p = .inl (4, tS tp tl p) := by
      unfold hdS
      rw [hw, if_neg (by omega), if_pos hc4]
    refine ex_go 80 rfl ?_
    refine ex_getf rfl hO rfl rfl ?_
    rw [h6]
    refine ex_cvx rfl rfl rfl rfl hO rfl (d' := 0) (by omega) (c_refuse hO) ?_
    rintro v3 h3' ⟨rfl, hO3, hB3⟩
    exact ex_tret rfl rfl (ref (lnS_l eh) hO3 hB3)
  have M18 : w < 8 → ev_X scr d cd_X3_takeLine 18 [.ref 23, .int (nI w), .float 0] [] h Q := by
    intro hw8
    by_cases c4 : w = 4
    · subst c4
      refine ex_go 80 rfl ?_
      refine ex_ineF rfl (rfl) ?_
      refine ex_go 80 rfl ?_
      refine ex_getf rfl hO rfl rfl ?_
      rw [hft]
      cases cf : ft
      · refine ex_zneF rfl (rfl) ?_
        refine ex_go 80 rfl ?_
        refine ex_ineT rfl (by decide) ?_
        exact M36 hw8 (fun z => by rcases z with z | z; (rw [cf] at z; exact absurd z.2 (by decide)); exact absurd z.1 (by decide))
      · refine ex_zneT rfl (by decide) ?_
        exact M30 hw8 (Or.inl ⟨rfl, cf⟩)
    · refine ex_go 80 rfl ?_
      refine ex_ineT rfl (fun z => c4 ((nI_eq (b := 4) (by omega) (by decide)).mp z)) ?_
      by_cases c5 : w = 5
      · subst c5
        refine ex_go 80 rfl ?_
        refine ex_ineF rfl (rfl) ?_
        refine ex_go 80 rfl ?_
        refine ex_getf rfl hO rfl rfl ?_
        rw [hwt]
        cases cf : wt
        · refine ex_zeqT rfl (rfl) ?_
          exact M36 hw8 (fun z => by rcases z with z | z; exact absurd z.1 (by decide); (rw [cf] at z; exact absurd z.2 (by decide)))
        · refine ex_zeqF rfl (by decide) ?_
          exact M30 hw8 (Or.inr ⟨rfl, cf⟩)
      · refine ex_go 80 rfl ?_
        refine ex_ineT rfl (fun z => c5 ((nI_eq (b := 5) (by omega) (by decide)).mp z)) ?_
        exact M36 hw8 (fun z => by rcases z with z | z; exact c4 z.1; exact c5 z.1)
  have M8 : ev_X scr d cd_X3_takeLine 8 [.ref 23, .float 0, .float 0] [.int (wI w)] h Q := by
    by_cases c8 : w = 8
    · have eh : hdS tp tl n ft wt p = .inl (2, tS tp tl p) := by
        unfold hdS
        rw [hw, if_pos c8]
      rw [c8, show wI 8 = -1 from rfl]
      refine ex_go 80 rfl ?_
      refine ex_ineF rfl (rfl) ?_
      refine ex_go 80 rfl ?_
      refine ex_getf rfl hO rfl rfl ?_
      rw [h6]
      refine ex_cvx rfl rfl rfl rfl hO rfl (d' := 0) (by omega) (c_refuse hO) ?_
      rintro v3 h3' ⟨rfl, hO3, hB3⟩
      exact ex_tret rfl rfl (ref (lnS_l eh) hO3 hB3)
    · have hw8 : w < 8 := by
        have : lwS tp tl p ≤ 8 := by
          unfold lwS
          split
          · exact wd_le
          · decide
        omega
      rw [show wI w = nI w from if_neg c8]
      refine ex_go 80 rfl ?_
      refine ex_ineT rfl (wne w hw8) ?_
      exact M18 hw8
  rw [← hw] at M8
  have hK4 : tK tp tl p < 1000 := by
    unfold tK
    repeat' split
    all_goals decide
  obtain ⟨hE1, hE2⟩ := tE_le (tp := tp) hp
  refine ex_go 80 rfl ?_
  refine ex_getf rfl hO rfl rfl ?_
  refine ex_go 80 rfl ?_
  rw [h5]
  by_cases c1 : tK tp tl p = 1
  · rw [show lwS tp tl p = wdA tp (tS tp tl p) (tE tp tl p) from if_pos c1] at M8
    rw [c1]
    refine ex_ineF rfl (rfl) ?_
    refine ex_go 80 rfl ?_
    refine ex_cvx rfl rfl rfl rfl hO rfl (d' := 7) (by omega) (c_wordHere (s := tS tp tl p) (e := tE tp tl p) hO hB ht hb h4 h6 hE1 hE2 (Nat.le_refl _)) ?_
    rintro v1 h1 ⟨rfl, he⟩
    rw [he]
    refine ex_go 1 rfl ?_
    exact M8
  · rw [show lwS tp tl p = 8 from if_neg c1] at M8
    refine ex_ineT rfl (fun z => c1 ((nI_eq (b := 1) (by omega) (by decide)).mp z)) ?_
    refine ex_go 1 rfl ?_
    exact M8
end CLINE2
