/-! text: the class's next token. -/
def tS (tp : Nat → Nat) (tl p : Nat) : Nat := run tp tl qS p
def tK (tp : Nat → Nat) (tl p : Nat) : Nat := if tl ≤ tS tp tl p then 0 else if tp (tS tp tl p) = 59 then 3 else if qB 97 122 (tp (tS tp tl p)) = true then 1 else if qB 48 57 (tp (tS tp tl p)) = true then 2 else 4
def tE (tp : Nat → Nat) (tl p : Nat) : Nat := if tK tp tl p = 3 then tS tp tl p + 1 else if tK tp tl p = 1 then run tp tl (qB 97 122) (tS tp tl p) else if tK tp tl p = 2 then run tp tl (qB 48 57) (tS tp tl p) else tS tp tl p
def tO (tp : Nat → Nat) (tl p : Nat) : Bool := decide (tK tp tl p ≠ 4 ∧ ¬ (tK tp tl p = 2 ∧ 2 < tE tp tl p - tS tp tl p))
def tV (tp : Nat → Nat) (tl p : Nat) : Nat := vlu tp (tS tp tl p) (tE tp tl p - tS tp tl p)
/-- what the teller holds behind a token -/
def NT (tp : Nat → Nat) (tl p : Nat) (y y' : Nat → Int32) : Prop := (∀ j, j = 0 ∨ j = 3 ∨ 8 ≤ j → y' j = y j) ∧ y' 4 = nI (tE tp tl p) ∧ y' 6 = nI (tS tp tl p) ∧ (tO tp tl p = true → y' 1 = y 1 ∧ y' 2 = y 2 ∧ y' 5 = nI (tK tp tl p) ∧ (tK tp tl p = 2 → y' 7 = nI (tV tp tl p))) ∧ (tO tp tl p = false → y' 1 = 1 ∧ y' 2 = nI (tS tp tl p))
section CNEXT
variable {scr : List Int32} {d : Nat} {h : ev_H} {tp : Nat → Nat} {tl p : Nat} {y : Nat → Int32}
theorem c_refuse (hO : TO h y) {a b : Int32} : ev_X scr d cd_X3_refuse 0 [.ref 23, .int a, .int b] [] h (fun v h' => v = some (.int 0) ∧ TO h' (ux (ux y 1 a) 2 b) ∧ SB 23 h h') := by
  refine ex_go 80 rfl ?_
  refine ex_pf rfl hO rfl rfl (fun h1 hO1 hB1 => ?_)
  have hO1' : TO h1 (ux y 1 a) := hO1
  refine ex_go 80 rfl ?_
  refine ex_pf rfl hO1' rfl rfl (fun h2 hO2 hB2 => ?_)
  have hO2' : TO h2 (ux (ux y 1 a) 2 b) := hO2
  refine ex_go 80 rfl ?_
  exact ex_tret rfl rfl (⟨rfl, hO2', hB1.tr hB2⟩)
theorem c_isIn {c lo hi : Nat} (hc0 : c < 1000) (hlo : lo < 1000) (hhi : hi < 1000) : ev_V scr d cd_X3_isIn 0 [.int (nI c), .int (nI lo), .int (nI hi)] [] h (some (.int (nI (tb_b (qB lo hi c)))), h) := by
  unfold qB
  by_cases c1 : c < lo
  · rw [decide_eq_false (by omega)]
    refine ev_go 80 rfl ?_
    refine ev_iltT rfl (nI_lt c1 (by omega)) ?_
    refine ev_go 80 rfl ?_
    exact ev_tret rfl rfl
  · refine ev_go 80 rfl ?_
    refine ev_iltF rfl (nI_nlt (by omega) (by omega)) ?_
    by_cases c2 : hi < c
    · rw [decide_eq_false (by omega)]
      refine ev_go 80 rfl ?_
      refine ev_igtT rfl (nI_lt c2 (by omega)) ?_
      refine ev_go 80 rfl ?_
      exact ev_tret rfl rfl
    · rw [decide_eq_true (by omega)]
      refine ev_go 80 rfl ?_
      refine ev_igtF rfl (nI_nlt (by omega) (by omega)) ?_
      refine ev_go 80 rfl ?_
      exact ev_tret rfl rfl
theorem vlu_lt {tp : Nat → Nat} {b : Nat} : ∀ k, k ≤ 2 → (∀ j, j < k → 48 ≤ tp (b + j) ∧ tp (b + j) ≤ 57) → vlu tp b k ≤ 99
  | 0, _, _ => Nat.zero_le 99
  | 1, _, h => by
    have := h 0 (by decide)
    show 10 * 0 + (tp (b + 0) - 48) ≤ 99
    omega
  | 2, _, h => by
    have h0 := h 0 (by decide)
    have h1 := h 1 (by decide)
    show 10 * (10 * 0 + (tp (b + 0) - 48)) + (tp (b + 1) - 48) ≤ 99
    omega
theorem c_figures (hO : TO h y) (hB : TP h tl tp) (ht : tl ≤ 160) (hb : ∀ i, i < tl → tp i < 128) (h3 : y 3 = nI tl) {s : Nat} (h4 : y 4 = nI s) (h6 : y 6 = nI s) (hs : s ≤ tl) (hd : 1 ≤ d) : ev_X scr d cd_X3_takeFigures 0 [.ref 23, .float 0] [] h (fun v h' => ∃ y', v = some (.int (nI (tb_b (decide (run tp tl (qB 48 57) s - s ≤ 2))))) ∧ TO h' y' ∧ SB 23 h h' ∧ (∀ j, j = 0 ∨ j = 3 ∨ j = 6 ∨ 8 ≤ j → y' j = y j) ∧ y' 4 = nI (run tp tl (qB 48 57) s) ∧ (run tp tl (qB 48 57) s - s ≤ 2 → y' 1 = y 1 ∧ y' 2 = y 2 ∧ y' 5 = nI 2 ∧ y' 7 = nI (vlu tp s (run tp tl (qB 48 57) s - s))) ∧ (¬ run tp tl (qB 48 57) s - s ≤ 2 → y' 1 = 1 ∧ y' 2 = nI s)) := by
  obtain ⟨r1, r2⟩ := run_le (tp := tp) (Q := qB 48 57) hs
  have rin : ∀ j, s ≤ j → j < run tp tl (qB 48 57) s → 48 ≤ tp j ∧ tp j ≤ 57 := fun j a b => by
    have := run_in a b
    unfold qB at this
    rw [decide_eq_true_eq] at this
    exact this
  refine ex_go 80 rfl ?_
  refine ex_pf rfl hO rfl rfl (fun h1 hO1 hB1 => ?_)
  have hO1' : TO h1 (ux y 5 2) := hO1
  have hB1' := hB.kept (hB1.2 22 (by decide))
  refine ex_go 80 rfl ?_
  refine ex_cvx rfl rfl rfl rfl hO1' rfl (d' := 0) (by omega) (c_pass (p := s) (lo := 48) (hi := 57) hO1' hB1' ht hb (by rw [ux_ne (by decide)]; exact h3) (by rw [ux_ne (by decide)]; exact h4) hs (by decide) (by decide)) ?_
  rintro v2 h2 ⟨rfl, hO2, hB2⟩
  generalize run tp tl (qB 48 57) s = e at *
  have e6 : ux (ux y 5 2) 4 (nI e) 6 = nI s := by rw [ux_ne (by decide), ux_ne (by decide)]; exact h6
  have e4 : ux (ux y 5 2) 4 (nI e) 4 = nI e := ux_eq
  refine ex_go 80 rfl ?_
  refine ex_getf rfl hO2 rfl rfl ?_
  refine ex_go 80 rfl ?_
  refine ex_getf rfl hO2 rfl rfl ?_
  refine ex_go 80 rfl ?_
  try dsimp only
  try simp only [nI_inc, nI_1, nI_add, nI_mul2, tb_and, tb_or, tb_andn]
  rw [e6, e4, pk_sub r1]
  by_cases c : e - s ≤ 2
  · rw [decide_eq_true c]
    refine ex_ileT rfl (nI_le (b := 2) c (by decide)) ?_
    refine ex_go 80 rfl ?_
    refine ex_pf rfl hO2 rfl rfl (fun h3' hO3 hB3 => ?_)
    have hO3' : TO h3' (ux (ux (ux y 5 2) 4 (nI e)) 7 (nI 0)) := hO3
    have hB3' := hB1'.kept ((hB3.2 22 (by decide)).trans (hB2.2 22 (by decide)))
    refine ex_go 80 rfl ?_
    refine ex_getf rfl hO3' rfl rfl ?_
    refine ex_go 80 rfl ?_
    rw [ux_ne (by decide), e6]
    have L : ∀ h4', TO h4' (ux (ux (ux y 5 2) 4 (nI e)) 7 (nI (vlu tp s (s - s)))) → SB 23 h h4' → ev_X scr d cd_X3_takeFigures 26 [.ref 23, .int (nI s)] [] h4' (fun v h' => ∃ y', v = some (.int (nI (tb_b true))) ∧ TO h' y' ∧ SB 23 h h' ∧ (∀ j, j = 0 ∨ j = 3 ∨ j = 6 ∨ 8 ≤ j → y' j = y j) ∧ y' 4 = nI e ∧ (e - s ≤ 2 → y' 1 = y 1 ∧ y' 2 = y 2 ∧ y' 5 = nI 2 ∧ y' 7 = nI (vlu tp s (e - s))) ∧ (¬ e - s ≤ 2 → y' 1 = 1 ∧ y' 2 = nI s)) := by
      refine ev_loopF s e r1 (fun i => ∀ h4', TO h4' (ux (ux (ux y 5 2) 4 (nI e)) 7 (nI (vlu tp s (i - s)))) → SB 23 h h4' → ev_X scr d cd_X3_takeFigures 26 [.ref 23, .int (nI i)] [] h4' (fun v h' => ∃ y', v = some (.int (nI (tb_b true))) ∧ TO h' y' ∧ SB 23 h h' ∧ (∀ j, j = 0 ∨ j = 3 ∨ j = 6 ∨ 8 ≤ j → y' j = y j) ∧ y' 4 = nI e ∧ (e - s ≤ 2 → y' 1 = y 1 ∧ y' 2 = y 2 ∧ y' 5 = nI 2 ∧ y' 7 = nI (vlu tp s (e - s))) ∧ (¬ e - s ≤ 2 → y' 1 = 1 ∧ y' 2 = nI s))) (fun i hi1 hi2 K h4' hO4 hB4 => ?_) (fun h4' hO4 hB4 => ?_)
      · have hB4' := hB.kept (hB4.2 22 (by decide))
        obtain ⟨q1, q2⟩ := rin i hi1 hi2
        have e4' : ux (ux (ux y 5 2) 4 (nI e)) 7 (nI (vlu tp s (i - s))) 4 = nI e := by rw [ux_ne (by decide), ux_eq]
        have e7 : ux (ux (ux y 5 2) 4 (nI e)) 7 (nI (vlu tp s (i - s))) 7 = nI (vlu tp s (i - s)) := ux_eq
        have ev : vlu tp s (i + 1 - s) = 10 * vlu tp s (i - s) + (tp i - 48) := by
          rw [show i + 1 - s = (i - s) + 1 by omega, vlu, show s + (i - s) = i by omega]
        rw [ev] at K
        have hit : i < tl := by omega
        refine ex_nop rfl ?_
        refine ex_go 80 rfl ?_
        refine ex_getf rfl hO4 rfl rfl ?_
        rw [e4']
        refine ex_igeF rfl (nI_ge hi2 (by omega)) ?_
        refine ex_go 80 rfl ?_
        refine ex_getf rfl hO4 rfl rfl ?_
        refine ex_go 80 rfl ?_
        try dsimp only
        try simp only [nI_inc, nI_1, nI_add, nI_mul2, tb_and, tb_or, tb_andn]
        refine ex_getf rfl hO4 rfl rfl ?_
        refine ex_go 80 rfl ?_
        refine ex_ba _ rfl hB4' (by decide) rfl (by first | exact trivial | assumption | (show _ < _; omega)) (by omega) (by omega) rfl ?_
        refine ex_go 80 rfl ?_
        try dsimp only
        try simp only [nI_inc, nI_1, nI_add, nI_mul2, tb_and, tb_or, tb_andn]
        rw [e7, show (10 : Int32) = nI 10 from rfl, nI_mul2, nI_add, show (48 : Int32) = nI 48 from rfl, pk_sub (by omega), show 10 * vlu tp s (i - s) + tp i - 48 = 10 * vlu tp s (i - s) + (tp i - 48) by omega]
        refine ex_pf rfl hO4 rfl rfl (fun h5 hO5 hB5 => ?_)
        have hO5' : TO h5 (ux (ux (ux y 5 2) 4 (nI e)) 7 (nI (10 * vlu tp s (i - s) + (tp i - 48)))) := hO5
        refine ex_go 80 rfl ?_
        try dsimp only
        try simp only [nI_inc, nI_1, nI_add, nI_mul2, tb_and, tb_or, tb_andn]
        exact K h5 hO5' (hB4.tr hB5)
      · have e4' : ux (ux (ux y 5 2) 4 (nI e)) 7 (nI (vlu tp s (e - s))) 4 = nI e := by rw [ux_ne (by decide), ux_eq]
        refine ex_nop rfl ?_
        refine ex_go 80 rfl ?_
        refine ex_getf rfl hO4 rfl rfl ?_
        rw [e4']
        refine ex_igeT rfl (nI_le (Nat.le_refl _) (by omega)) ?_
        refine ex_go 80 rfl (ex_tret rfl rfl ⟨_, rfl, hO4, hB4, fun j hj => ?_, e4', fun _ => ⟨rfl, rfl, rfl, ux_eq⟩, fun z => absurd c z⟩)
        rw [ux_ne (by omega), ux_ne (by omega), ux_ne (by omega)]
    rw [Nat.sub_self] at L
    exact L h3' hO3' ((hB1.tr hB2).tr hB3)
  · rw [decide_eq_false c]
    refine ex_ileF rfl (fun z => c ((nI_leI (b := 2) (by omega) (by decide)).mp z)) ?_
    refine ex_go 80 rfl ?_
    refine ex_getf rfl hO2 rfl rfl ?_
    rw [e6]
    refine ex_cvx rfl rfl rfl rfl hO2 rfl (d' := 0) (by omega) (c_refuse hO2) ?_
    rintro v3 h3' ⟨rfl, hO3, hB3⟩
    refine ex_tret rfl rfl ⟨_, rfl, hO3, (hB1.tr hB2).tr hB3, fun j hj => ?_, ?_, fun z => absurd z c, fun _ => ⟨rfl, rfl⟩⟩
    · rw [ux_ne (by omega), ux_ne (by omega), ux_ne (by omega), ux_ne (by omega)]
    · rw [ux_ne (by decide), ux_ne (by decide), ux_eq]
theorem c_nextToken (hO : TO h y) (hB : TP h tl tp) (ht : tl ≤ 160) (hb : ∀ i, i < tl → tp i < 128) (h3 : y 3 = nI tl) (h4 : y 4 = nI p) (hp : p ≤ tl) (hd : 2 ≤ d) : ev_X scr d cd_X3_nextToken 0 [.ref 23, .float 0] [] h (fun v h' => ∃ y', v = some (.int (nI (tb_b (tO tp tl p)))) ∧ TO h' y' ∧ SB 23 h h' ∧ NT tp tl p y y') := by
  obtain ⟨r1, r2⟩ := run_le (tp := tp) (Q := qS) hp
  have r3 := run_end (tp := tp) (Q := qS) hp
  have e0 : ux y 4 (nI p) = y := by
    funext j
    unfold ux
    split
    · rename_i e; rw [e, h4]
    · rfl
  have M : ∀ h1, TO h1 (ux y 4 (nI (tS tp tl p))) → SB 23 h h1 → ev_X scr d cd_X3_nextToken 20 [.ref 23, .float 0] [] h1 (fun v h' => ∃ y', v = some (.int (nI (tb_b (tO tp tl p)))) ∧ TO h' y' ∧ SB 23 h h' ∧ NT tp tl p y y') := by
    intro h1 hO1 hB1
    have hBt := hB.kept (hB1.2 22 (by decide))
    have dS : tS tp tl p = run tp tl qS p := rfl
    refine ex_go 80 rfl ?_
    refine ex_getf rfl hO1 rfl rfl ?_
    refine ex_pf rfl hO1 rfl rfl (fun h2 hO2 hB2 => ?_)
    have hO2' : TO h2 (ux (ux y 4 (nI (tS tp tl p))) 6 (nI (tS tp tl p))) := hO2
    have hBt2 := hBt.kept (hB2.2 22 (by decide))
    have e4 : ux (ux y 4 (nI (tS tp tl p))) 6 (nI (tS tp tl p)) 4 = nI (tS tp tl p) := by rw [ux_ne (by decide), ux_eq]
    have e3 : ux (ux y 4 (nI (tS tp tl p))) 6 (nI (tS tp tl p)) 3 = nI tl := by rw [ux_ne (by decide), ux_ne (by decide)]; exact h3
    have e6 : ux (ux y 4 (nI (tS tp tl p))) 6 (nI (tS tp tl p)) 6 = nI (tS tp tl p) := ux_eq
    have hBB := hB1.tr hB2
    refine ex_go 80 rfl ?_
    refine ex_getf rfl hO2' rfl rfl ?_
    refine ex_go 80 rfl ?_
    refine ex_getf rfl hO2' rfl rfl ?_
    rw [e4, e3]
    by_cases c : tS tp tl p < tl
    · have hbs := hb _ c
      refine ex_iltT rfl (nI_lt c (by omega)) ?_
      refine ex_go 80 rfl ?_
      refine ex_getf rfl hO2' rfl rfl ?_
      refine ex_go 80 rfl ?_
      refine ex_getf rfl hO2' rfl rfl ?_
      refine ex_ba _ rfl hBt2 (by decide) rfl (by first | exact trivial | assumption | (show _ < _; omega)) (by omega) (by omega) rfl ?_
      refine ex_go 80 rfl ?_
      by_cases c59 : tp (tS tp tl p) = 59
      · have kK : tK tp tl p = 3 := by unfold tK; rw [if_neg (by omega), if_pos c59]
        have kE : tE tp tl p = tS tp tl p + 1 := by unfold tE; rw [if_pos kK]
        have kO : tO tp tl p = true := by unfold tO; rw [kK]; rfl
        rw [c59]
        refine ex_ineF rfl (rfl) ?_
        refine ex_go 80 rfl ?_
        refine ex_pf rfl hO2' rfl rfl (fun h5 hO5 hB5 => ?_)
        have hO5' : TO h5 (ux (ux (ux y 4 (nI (tS tp tl p))) 6 (nI (tS tp tl p))) 5 3) := hO5
        refine ex_go 80 rfl ?_
        refine ex_getf rfl hO5' rfl rfl ?_
        refine ex_go 80 rfl ?_
        try dsimp only
        try simp only [nI_inc, nI_1, nI_add, nI_mul2, tb_and, tb_or, tb_andn]
        rw [ux_ne (by decide), e4, nI_1]
        refine ex_pf rfl hO5' rfl rfl (fun h6 hO6 hB6 => ?_)
        have hO6' : TO h6 (ux (ux (ux (ux y 4 (nI (tS tp tl p))) 6 (nI (tS tp tl p))) 5 3) 4 (nI (tS tp tl p + 1))) := hO6
        rw [kO]
        refine ex_go 80 rfl (ex_tret rfl rfl ⟨_, rfl, hO6', (hBB.tr hB5).tr hB6, fun j hj => ?_, ?_, ?_, fun _ => ⟨rfl, rfl, ?_, fun z => ?_⟩, fun z => ?_⟩)
        · rw [ux_ne (by omega), ux_ne (by omega), ux_ne (by omega), ux_ne (by omega)]
        · rw [ux_eq, kE]
        · rw [ux_ne (by decide), ux_ne (by decide), ux_eq]
        · rw [ux_ne (by decide), ux_eq, kK]; rfl
        · rw [kK] at z; exact absurd z (by decide)
        · rw [kO] at z; exact absurd z (by decide)
      · refine ex_ineT rfl (fun z => c59 ((nI_eq (b := 59) (by omega) (by decide)).mp z)) ?_
        refine ex_go 80 rfl ?_
        refine ex_cs rfl rfl rfl (d' := 0) (by omega) (c_isIn (lo := 97) (hi := 122) (by omega) (by decide) (by decide)) ?_
        cases ca : qB 97 122 (tp (tS tp tl p))
        · refine ex_zeqT rfl (by decide) ?_
          refine ex_go 80 rfl ?_
          refine ex_cs rfl rfl rfl (d' := 0) (by omega) (c_isIn (lo := 48) (hi := 57) (by omega) (by decide) (by decide)) ?_
          cases cd : qB 48 57 (tp (tS tp tl p))
          · have kK : tK tp tl p = 4 := by unfold tK; rw [if_neg (by omega), if_neg c59, ca, if_neg (by decide), cd, if_neg (by decide)]
            have kE : tE tp tl p = tS tp tl p := by unfold tE; rw [kK, if_neg (by decide), if_neg (by decide), if_neg (by decide)]
            have kO : tO tp tl p = false := by unfold tO; rw [kK]; exact decide_eq_false (fun z => z.1 rfl)
            refine ex_zeqT rfl (by decide) ?_
            refine ex_go 80 rfl ?_
            refine ex_getf rfl hO2' rfl rfl ?_
            rw [e6]
            refine ex_cvx rfl rfl rfl rfl hO2' rfl (d' := 0) (by omega) (c_refuse hO2') ?_
            rintro v5 h5 ⟨rfl, hO5, hB5⟩
            rw [kO]
            refine ex_tret rfl rfl ⟨_, rfl, hO5, hBB.tr hB5, fun j hj => ?_, ?_, ?_, fun z => ?_, fun _ => ⟨rfl, rfl⟩⟩
            · rw [ux_ne (by omega), ux_ne (by omega), ux_ne (by omega), ux_ne (by omega)]
            · rw [ux_ne (by decide), ux_ne (by decide), e4, kE]
            · rw [ux_ne (by decide), ux_ne (by decide), e6]
            · rw [kO] at z; exact absurd z (by decide)
          · have kK : tK tp tl p = 2 := by unfold tK; rw [if_neg (by omega), if_neg c59, ca, if_neg (by decide), cd, if_pos rfl]
            have kE : tE tp tl p = run tp tl (qB 48 57) (tS tp tl p) := by unfold tE; rw [kK, if_neg (by decide), if_neg (by decide), if_pos rfl]
            refine ex_zeqF rfl (by decide) ?_
            refine ex_go 80 rfl ?_
            refine ex_cvx rfl rfl rfl rfl hO2' rfl (d' := 1) (by omega) (c_figures (s := tS tp tl p) hO2' hBt2 ht hb e3 e4 e6 (by omega) (Nat.le_refl _)) ?_
            rintro v5 h5 ⟨y5, rfl, hO5, hB5, q1, q2, q3, q4⟩
            have kO : tO tp tl p = decide (run tp tl (qB 48 57) (tS tp tl p) - tS tp tl p ≤ 2) := by
              unfold tO
              rw [kK, kE]
              refine decide_eq_decide.mpr ?_
              constructor
              · intro z
                apply Classical.byContradiction
                intro w
                exact z.2 ⟨rfl, by omega⟩
              · intro z
                exact ⟨by decide, fun w => by omega⟩
            rw [kO]
            refine ex_go 80 rfl ?_
            refine ex_tret rfl (by cases decide (run tp tl (qB 48 57) (tS tp tl p) - tS tp tl p ≤ 2) <;> rfl) ⟨y5, rfl, hO5, hBB.tr hB5, fun j hj => ?_, ?_, ?_, fun z => ?_, fun z => ?_⟩
            · rw [q1 j (by omega), ux_ne (by omega), ux_ne (by omega)]
            · rw [q2, kE]
            · rw [q1 6 (by omega), e6]
            · rw [kO, decide_eq_true_eq] at z
              obtain ⟨w1, w2, w3, w4⟩ := q3 z
              exact ⟨w1, w2, by rw [w3, kK], fun _ => by rw [w4]; unfold tV; rw [kE]⟩
            · rw [kO, decide_eq_false_iff_not] at z
              exact q4 z
        · have kK : tK tp tl p = 1 := by unfold tK; rw [if_neg (by omega), if_neg c59, ca, if_pos rfl]
          have kE : tE tp tl p = run tp tl (qB 97 122) (tS tp tl p) := by unfold tE; rw [kK, if_neg (by decide), if_pos rfl]
          have kO : tO tp tl p = true := by unfold tO; rw [kK]; exact decide_eq_true ⟨by decide, fun z => absurd z.1 (by decide)⟩
          refine ex_zeqF rfl (by decide) ?_
          refine ex_go 80 rfl ?_
          refine ex_pf rfl hO2' rfl rfl (fun h5 hO5 hB5 => ?_)
          have hO5' : TO h5 (ux (ux (ux y 4 (nI (tS tp tl p))) 6 (nI (tS tp tl p))) 5 1) := hO5
          have hBt5 := hBt2.kept (hB5.2 22 (by decide))
          refine ex_go 80 rfl ?_
          refine ex_cvx rfl rfl rfl rfl hO5' rfl (d' := 0) (by omega) (c_pass (p := tS tp tl p) (lo := 97) (hi := 122) hO5' hBt5 ht hb (by rw [ux_ne (by decide)]; exact e3) (by rw [ux_ne (by decide)]; exact e4) (by omega) (by decide) (by decide)) ?_
          rintro v6 h6 ⟨rfl, hO6, hB6⟩
          rw [kO]
          refine ex_go 80 rfl (ex_tret rfl rfl ⟨_, rfl, hO6, (hBB.tr hB5).tr hB6, fun j hj => ?_, ?_, ?_, fun _ => ⟨rfl, rfl, ?_, fun z => ?_⟩, fun z => ?_⟩)
          · rw [ux_ne (by omega), ux_ne (by omega), ux_ne (by omega), ux_ne (by omega)]
          · rw [ux_eq, kE]
          · rw [ux_ne (by decide), ux_ne (by decide), e6]
          · rw [ux_ne (by decide), ux_eq, kK]; rfl
          · rw [kK] at z; exact absurd z (by decide)
          · rw [kO] at z; exact absurd z (by decide)
    · have kK : tK tp tl p = 0 := by unfold tK; rw [if_pos (by omega)]
      have kE : tE tp tl p = tS tp tl p := by unfold tE; rw [kK, if_neg (by decide), if_neg (by decide), if_neg (by decide)]
      have kO : tO tp tl p = true := by unfold tO; rw [kK]; exact decide_eq_true ⟨by decide, fun z => absurd z.1 (by decide)⟩
      refine ex_iltF rfl (nI_nlt (by omega) (by omega)) ?_
      refine ex_go 80 rfl ?_
      refine ex_pf rfl hO2' rfl rfl (fun h5 hO5 hB5 => ?_)
      have hO5' : TO h5 (ux (ux (ux y 4 (nI (tS tp tl p))) 6 (nI (tS tp tl p))) 5 0) := hO5
      rw [kO]
      refine ex_go 80 rfl (ex_tret rfl rfl ⟨_, rfl, hO5', hBB.tr hB5, fun j hj => ?_, ?_, ?_, fun _ => ⟨rfl, rfl, ?_, fun z => ?_⟩, fun z => ?_⟩)
      · rw [ux_ne (by omega), ux_ne (by omega), ux_ne (by omega)]
      · rw [ux_ne (by decide), e4, kE]
      · rw [ux_ne (by decide), e6]
      · rw [ux_eq, kK]; rfl
      · rw [kK] at z; exact absurd z (by decide)
      · rw [kO] at z; exact absurd z (by decide)
  have L : ∀ h1, TO h1 (ux y 4 (nI p)) → SB 23 h h1 → ev_X scr d cd_X3_nextToken 0 [.ref 23, .float 0] [] h1 (fun v h' => ∃ y', v = some (.int (nI (tb_b (tO tp tl p)))) ∧ TO h' y' ∧ SB 23 h h' ∧ NT tp tl p y y') := by
    refine ev_loopF p (tl + 1) (by omega) (fun i => i ≤ tl → run tp tl qS i = run tp tl qS p → ∀ h1, TO h1 (ux y 4 (nI i)) → SB 23 h h1 → ev_X scr d cd_X3_nextToken 0 [.ref 23, .float 0] [] h1 (fun v h' => ∃ y', v = some (.int (nI (tb_b (tO tp tl p)))) ∧ TO h' y' ∧ SB 23 h h' ∧ NT tp tl p y y')) (fun i hi1 hi2 K hit hr h1 hO1 hB1 => ?_) (fun hit => absurd hit (by omega)) hp rfl
    · have hBt := hB.kept (hB1.2 22 (by decide))
      have e4 : ux y 4 (nI i) 4 = nI i := ux_eq
      have e3 : ux y 4 (nI i) 3 = nI tl := by rw [ux_ne (by decide)]; exact h3
      refine ex_nop rfl ?_
      refine ex_go 80 rfl ?_
      refine ex_getf rfl hO1 rfl rfl ?_
      refine ex_go 80 rfl ?_
      refine ex_getf rfl hO1 rfl rfl ?_
      rw [e4, e3]
      by_cases c : i < tl
      · have hbi := hb i c
        refine ex_igeF rfl (nI_ge c (by omega)) ?_
        refine ex_go 80 rfl ?_
        refine ex_getf rfl hO1 rfl rfl ?_
        refine ex_go 80 rfl ?_
        refine ex_getf rfl hO1 rfl rfl ?_
        refine ex_ba _ rfl hBt (by decide) rfl (by first | exact trivial | assumption | (show _ < _; omega)) (by omega) (by omega) rfl ?_
        refine ex_go 80 rfl ?_
        by_cases c1 : tp i = 32
        · rw [run_t c (by unfold qS; rw [decide_eq_true_eq]; exact c1)] at hr
          rw [c1]
          refine ex_ineF rfl (rfl) ?_
          refine ex_go 80 rfl ?_
          refine ex_getf rfl hO1 rfl rfl ?_
          refine ex_go 80 rfl ?_
          try dsimp only
          try simp only [nI_inc, nI_1, nI_add, nI_mul2, tb_and, tb_or, tb_andn]
          rw [e4, nI_1]
          refine ex_pf rfl hO1 rfl rfl (fun h2 hO2 hB2 => ?_)
          have hO3 : TO h2 (ux y 4 (nI (i + 1))) := by
            refine Eq.trans hO2 ?_
            rfl
          refine ex_go 80 rfl ?_
          exact K (by omega) hr h2 hO3 (hB1.tr hB2)
        · rw [run_f (fun z => by have := z.2; unfold qS at this; rw [decide_eq_true_eq] at this; exact c1 this)] at hr
          refine ex_ineT rfl (fun z => c1 ((nI_eq (b := 32) (by omega) (by decide)).mp z)) ?_
          have dS : tS tp tl p = run tp tl qS p := rfl
          rw [dS, ← hr] at M
          exact M h1 hO1 hB1
      · rw [run_f (fun z => c z.1)] at hr
        refine ex_igeT rfl (nI_le (by omega) (by omega)) ?_
        have dS : tS tp tl p = run tp tl qS p := rfl
        rw [dS, ← hr] at M
        exact M h1 hO1 hB1
  exact L h (by rw [e0]; exact hO) SB.rf
end CNEXT
