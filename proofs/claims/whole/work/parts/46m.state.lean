/-! text: a line, as both sides read it. -/
section LINE
variable (tp : Nat → Nat) (tl : Nat)
def ndS (s : Sum (Nat × Nat) Nat) (b : Nat → Bool) (c : Nat) : Sum (Nat × Nat) Nat := match s with
  | .inl e => .inl e
  | .inr p => if b p = true then .inr p else .inl (c, tS tp tl p)
def tkS (p : Nat) : Sum (Nat × Nat) Nat := if tO tp tl p = true then .inr p else .inl (1, tS tp tl p)
def nxS (s : Sum (Nat × Nat) Nat) : Sum (Nat × Nat) Nat := match s with
  | .inl e => .inl e
  | .inr p => tkS tp tl (tE tp tl p)
def vlS (s : Sum (Nat × Nat) Nat) : Nat := match s with
  | .inl _ => 0
  | .inr p => tV tp tl p
def lkS (s : Sum (Nat × Nat) Nat) (lo hi : Nat) : Sum (Nat × Nat) Nat := ndS tp tl (ndS tp tl s (fun p => decide (tK tp tl p = 2)) 2) (fun p => decide (lo ≤ tV tp tl p ∧ tV tp tl p ≤ hi)) 3
def loL : List Nat := [0, 0, 0, 0, 0, 0, 0, 0, 0, 0, 0, 0, 0, 0, 0, 0, 0, 0, 0, 1, 0, 0, 0, 0]
def hiL : List Nat := [9, 99, 3, 9, 99, 3, 99, 3, 0, 9, 99, 0, 99, 0, 0, 9, 0, 0, 3, 5, 0, 7, 7, 0]
def nmL (w : Nat) : Nat := [3, 3, 2, 2, 1, 1, 2, 2].getD w 0
def lkC (w mt i a : Nat) (s : Sum (Nat × Nat) Nat) : Sum (Nat × Nat) Nat := ndS tp tl (ndS tp tl (lkS tp tl s (loL.getD (3 * w + i) 0) (hiL.getD (3 * w + i) 0)) (fun p => !decide (w = 7 ∧ i = 1 ∧ tV tp tl p = a)) 3) (fun p => !decide (w = 6 ∧ i = 0 ∧ mt.testBit (tV tp tl p) = true)) 4
/-- the first number -/
def v0S (w : Nat) (s : Sum (Nat × Nat) Nat) : Nat := vlS tp tl (lkS tp tl (nxS tp tl s) (loL.getD (3 * w + 0) 0) (hiL.getD (3 * w + 0) 0))
def csS (w mt : Nat) (s : Sum (Nat × Nat) Nat) : Nat → Sum (Nat × Nat) Nat
  | 0 => s
  | i + 1 => lkC tp tl w mt i (v0S tp tl w s) (nxS tp tl (csS w mt s i))
def lwS (p : Nat) : Nat := if tK tp tl p = 1 then wdA tp (tS tp tl p) (tE tp tl p) else 8
def hdS (n : Nat) (ft wt : Bool) (p : Nat) : Sum (Nat × Nat) Nat := if lwS tp tl p = 8 then .inl (2, tS tp tl p) else if (lwS tp tl p = 4 ∧ ft = true) ∨ (lwS tp tl p = 5 ∧ wt = true) then .inl (4, tS tp tl p) else if lwS tp tl p ≤ 3 ∧ 8 ≤ n then .inl (5, tS tp tl p) else .inr p
def lnS (n : Nat) (ft wt : Bool) (mt p : Nat) : Sum (Nat × Nat) Nat := ndS tp tl (nxS tp tl (csS tp tl (lwS tp tl p) mt (hdS tp tl n ft wt p) (nmL (lwS tp tl p)))) (fun p => decide (tK tp tl p = 3)) 2
/-- the numbers of a line -/
def nbS (n : Nat) (ft wt : Bool) (mt p i : Nat) : Nat := vlS tp tl (csS tp tl (lwS tp tl p) mt (hdS tp tl n ft wt p) (i + 1))
/-- what the teller holds behind a step -/
def CQS (y : Nat → Int32) (s : Sum (Nat × Nat) Nat) (y' : Nat → Int32) (v : Option Value) : Prop := (∀ c x, s = .inl (c, x) → v = some (.int 0) ∧ y' 1 = nI c ∧ y' 2 = nI x) ∧ ∀ p, s = .inr p → v = some (.int 1) ∧ (∀ j, j < 4 ∨ 8 ≤ j → y' j = y j) ∧ (p ≤ tl ∧ tO tp tl p = true) ∧ y' 4 = nI (tE tp tl p) ∧ y' 6 = nI (tS tp tl p) ∧ y' 5 = nI (tK tp tl p) ∧ (tK tp tl p = 2 → y' 7 = nI (tV tp tl p))
end LINE
def pNn (w n : Nat) : Nat := if w ≤ 3 then n + 1 else n
def pFf (w n : Nat) (f N : Nat → Nat) : Nat → Nat := match w with
  | 0 => adF f n 0 (N 0) (N 1) (N 2)
  | 1 => adF f n 1 (N 0) (N 1) (N 2)
  | 2 => adF f n 2 0 (N 0) (N 1)
  | 3 => adF f n 3 (N 0) (N 1) 4
  | 4 => up f 41 (N 0)
  | 5 => up f 42 (N 0)
  | 6 => up f (60 + N 0) (N 1)
  | _ => kiF f (N 0) (N 1) true
def pMm (w mt : Nat) (N : Nat → Nat) : Nat := if w = 6 then mt ||| 2 ^ N 0 else mt
def pKk (w km : Nat) (N : Nat → Nat) : Nat := if w = 7 then km ||| (2 ^ N 0 ||| 2 ^ N 1) else km
def CFr (h h' : ev_H) : Prop := h'.length = h.length ∧ ∀ j, (j < 10 ∨ (18 < j ∧ j ≠ 23 ∧ j ≠ 24)) → h'[j]? = h[j]?
theorem CFr.rf {h : ev_H} : CFr h h := ⟨rfl, fun _ _ => rfl⟩
theorem CFr.tr {h h1 h2 : ev_H} (x : CFr h h1) (y : CFr h1 h2) : CFr h h2 := ⟨y.1.trans x.1, fun j a => (y.2 j a).trans (x.2 j a)⟩
theorem SB.cf {h h' : ev_H} {k : Nat} (x : SB k h h') (hk : 10 ≤ k ∧ k ≤ 18 ∨ k = 23 ∨ k = 24) : CFr h h' := ⟨x.1, fun j a => x.2 j (by omega)⟩
theorem FR.cf {h h' : ev_H} (x : FR 10 (10 + 8) h h') : CFr h h' := ⟨x.1, fun j a => x.2 j (by omega)⟩
section LINE2
variable {tp : Nat → Nat} {tl : Nat}
theorem ndS_t {p c : Nat} {b : Nat → Bool} (h : b p = true) : ndS tp tl (.inr p) b c = .inr p := if_pos h
theorem ndS_f {p c : Nat} {b : Nat → Bool} (h : b p = false) : ndS tp tl (.inr p) b c = .inl (c, tS tp tl p) := if_neg (by rw [h]; decide)
theorem ndS_r {s : Sum (Nat × Nat) Nat} {r c : Nat} {b : Nat → Bool} (h : ndS tp tl s b c = .inr r) : s = .inr r ∧ b r = true := by
  cases s with
  | inl e => cases h
  | inr p =>
    cases hb : b p
    · rw [ndS_f hb] at h; cases h
    · rw [ndS_t hb] at h
      cases h
      exact ⟨rfl, hb⟩
theorem tkS_r {p r : Nat} (h : tkS tp tl p = .inr r) : p = r ∧ tO tp tl r = true := by
  unfold tkS at h
  split at h
  · cases h
    rename_i c
    exact ⟨rfl, c⟩
  · cases h
theorem nxS_r {s : Sum (Nat × Nat) Nat} {r : Nat} (h : nxS tp tl s = .inr r) : ∃ p, s = .inr p ∧ tE tp tl p = r ∧ tO tp tl r = true := by
  cases s with
  | inl e => cases h
  | inr p => exact ⟨p, rfl, tkS_r h⟩
theorem csS_l {w mt : Nat} {s : Sum (Nat × Nat) Nat} {e : Nat × Nat} {i : Nat} (h : csS tp tl w mt s i = .inl e) : ∀ k, csS tp tl w mt s (i + k) = .inl e
  | 0 => h
  | k + 1 => by
    show lkC tp tl w mt (i + k) (v0S tp tl w s) (nxS tp tl (csS tp tl w mt s (i + k))) = .inl e
    rw [csS_l h k]
    rfl
theorem lkC_r {w mt i a r : Nat} {s : Sum (Nat × Nat) Nat} (h : lkC tp tl w mt i a s = .inr r) : s = .inr r ∧ tK tp tl r = 2 ∧ (loL.getD (3 * w + i) 0 ≤ tV tp tl r ∧ tV tp tl r ≤ hiL.getD (3 * w + i) 0) ∧ ¬ (w = 7 ∧ i = 1 ∧ tV tp tl r = a) ∧ ¬ (w = 6 ∧ i = 0 ∧ mt.testBit (tV tp tl r) = true) := by
  obtain ⟨h1, b1⟩ := ndS_r h
  obtain ⟨h2, b2⟩ := ndS_r h1
  obtain ⟨h3, b3⟩ := ndS_r h2
  obtain ⟨h4, b4⟩ := ndS_r h3
  rw [Bool.not_eq_true', decide_eq_false_iff_not] at b1 b2
  rw [decide_eq_true_eq] at b3 b4
  exact ⟨h4, b4, b3, b2, b1⟩
theorem tS_le {p : Nat} (hp : p ≤ tl) : p ≤ tS tp tl p ∧ tS tp tl p ≤ tl := run_le hp
theorem tE_le {p : Nat} (hp : p ≤ tl) : tS tp tl p ≤ tE tp tl p ∧ tE tp tl p ≤ tl := by
  obtain ⟨h1, h2⟩ := tS_le (tp := tp) hp
  unfold tE
  by_cases c3 : tK tp tl p = 3
  · rw [if_pos c3]
    have : ¬ tl ≤ tS tp tl p := fun z => by
      unfold tK at c3
      rw [if_pos z] at c3
      exact absurd c3 (by decide)
    omega
  · rw [if_neg c3]
    split
    · exact run_le h2
    · split
      · exact run_le h2
      · omega
theorem tE_st {p : Nat} (hp : p ≤ tl) (h3 : tK tp tl p = 3) : p < tE tp tl p := by
  obtain ⟨h1, h2⟩ := tS_le (tp := tp) hp
  unfold tE
  rw [if_pos h3]
  omega
theorem tV_99 {p : Nat} (ho : tO tp tl p = true) (h2 : tK tp tl p = 2) : tV tp tl p ≤ 99 := by
  unfold tO at ho
  rw [decide_eq_true_eq] at ho
  have hle : tE tp tl p - tS tp tl p ≤ 2 := by
    apply Classical.byContradiction
    intro c
    exact ho.2 ⟨h2, by omega⟩
  have hE : tE tp tl p = run tp tl (qB 48 57) (tS tp tl p) := by unfold tE; rw [h2, if_neg (by decide), if_neg (by decide), if_pos rfl]
  unfold tV
  refine vlu_lt _ hle (fun j hj => ?_)
  have := run_in (tp := tp) (tl := tl) (Q := qB 48 57) (p := tS tp tl p) (j := tS tp tl p + j) (by omega) (by omega)
  unfold qB at this
  rw [decide_eq_true_eq] at this
  exact this
theorem CQS.l {y y' : Nat → Int32} {c x : Nat} (h1 : y' 1 = nI c) (h2 : y' 2 = nI x) : CQS tp tl y (.inl (c, x)) y' (some (.int 0)) := by
  refine ⟨fun c' x' e => ?_, fun p e => by cases e⟩
  cases e
  exact ⟨rfl, h1, h2⟩
theorem CQS.r {y y' : Nat → Int32} {p : Nat} (h : (∀ j, j < 4 ∨ 8 ≤ j → y' j = y j) ∧ (p ≤ tl ∧ tO tp tl p = true) ∧ y' 4 = nI (tE tp tl p) ∧ y' 6 = nI (tS tp tl p) ∧ y' 5 = nI (tK tp tl p) ∧ (tK tp tl p = 2 → y' 7 = nI (tV tp tl p))) : CQS tp tl y (.inr p) y' (some (.int 1)) := by
  refine ⟨fun c' x' e => (by cases e), fun p' e => ?_⟩
  cases e
  exact ⟨rfl, h⟩
end LINE2
theorem lo_t : ∀ k, k < 24 → ([0, 0, 0, 0, 0, 0, 0, 0, 0, 0, 0, 0, 0, 0, 0, 0, 0, 0, 0, 1, 0, 0, 0, 0] : List Int32).getD k 0 = nI (loL.getD k 0) := by decide
theorem hi_t : ∀ k, k < 24 → ([9, 99, 3, 9, 99, 3, 99, 3, 0, 9, 99, 0, 99, 0, 0, 9, 0, 0, 3, 5, 0, 7, 7, 0] : List Int32).getD k 0 = nI (hiL.getD k 0) := by decide
theorem nm_t : ∀ k, k < 8 → ([3, 3, 2, 2, 1, 1, 2, 2] : List Int32).getD k 0 = nI (nmL k) := by decide
theorem nm_3 : ∀ k, k < 8 → nmL k ≤ 3 := by decide
theorem lo_1 : ∀ k, k < 24 → loL.getD k 0 ≤ 1 := by decide
theorem hi_99 : ∀ k, k < 24 → hiL.getD k 0 ≤ 99 := by decide
section CLINE
variable {scr : List Int32} {d : Nat} {h : ev_H} {tp : Nat → Nat} {tl p n mt km : Nat} {y : Nat → Int32} {f : Nat → Nat}
theorem c_tokS (hO : TO h y) (hB : TP h tl tp) (ht : tl ≤ 160) (hb : ∀ i, i < tl → tp i < 128) (h3 : y 3 = nI tl) (h4 : y 4 = nI p) (hp : p ≤ tl) (hd : 2 ≤ d) : ev_X scr d cd_X3_nextToken 0 [.ref 23, .float 0] [] h (fun v h' => ∃ y', TO h' y' ∧ SB 23 h h' ∧ (∀ j, j = 0 ∨ j = 3 ∨ 8 ≤ j → y' j = y j) ∧ CQS tp tl y (tkS tp tl p) y' v) := by
  refine ex_mono (c_nextToken hO hB ht hb h3 h4 hp hd) ?_
  rintro v h' ⟨y', rfl, hO', hB', n1, n2, n3, n4, n5⟩
  refine ⟨y', hO', hB', n1, ?_⟩
  unfold tkS
  cases ho : tO tp tl p
  · rw [if_neg (by decide)]
    exact CQS.l (n5 ho).1 (n5 ho).2
  · rw [if_pos rfl]
    obtain ⟨m1, m2, m3, m4⟩ := n4 ho
    refine CQS.r ⟨fun j hj => ?_, ⟨hp, ho⟩, n2, n3, m3, m4⟩
    rcases (by omega : j = 1 ∨ j = 2 ∨ (j = 0 ∨ j = 3 ∨ 8 ≤ j)) with rfl | rfl | hj
    · exact m1
    · exact m2
    · exact n1 j hj
theorem c_takeNumber {w i a : Nat} {N : Nat → Nat} (hO : TO h y) (hB : TP h tl tp) (hN : IA h 24 3 (fun j => j < i) (fun j => nI (N j))) (ht : tl ≤ 160) (hb : ∀ i, i < tl → tp i < 128) (h3 : y 3 = nI tl) (h4 : y 4 = nI p) (hp : p ≤ tl) (hw : w < 8) (hi : i < 3) (hm : y 10 = nI mt) (hmt : mt < 2 ^ 31) (ha : i = 1 → N 0 = a) (hNb : i = 1 → N 0 < 1000) (hd : 3 ≤ d) : ev_X scr d cd_X3_takeNumber 0 [.ref 23, .int (nI w), .int (nI i), .float 0] [] h (fun v h' => ∃ y', TO h' y' ∧ FR 23 24 h h' ∧ (∀ j, j = 0 ∨ j = 3 ∨ 8 ≤ j → y' j = y j) ∧ CQS tp tl y (lkC tp tl w mt i a (tkS tp tl p)) y' v ∧ LA h' 24 3 ∧ ∀ r, lkC tp tl w mt i a (tkS tp tl p) = .inr r → IA h' 24 3 (fun j => j < i + 1) (fun j => if j = i then nI (tV tp tl r) else nI (N j))) := by
  refine ex_go 80 rfl ?_
  refine ex_cvx rfl rfl rfl rfl hO rfl (d' := 2) (by omega) (c_tokS hO hB ht hb h3 h4 hp (Nat.le_refl _)) ?_
  rintro v1 h1 ⟨y1, hO1, hB1, e1, q1⟩
  have hF1 : FR 23 24 h h1 := hB1.fr (by omega) (by omega)
  have hN1 := hN.sb hB1 (by decide)
  have fail : ∀ {h2 : ev_H} {c x : Nat}, TO h2 (ux (ux y1 1 (nI c)) 2 (nI x)) → SB 23 h1 h2 → ∃ y', TO h2 y' ∧ FR 23 24 h h2 ∧ (∀ j, j = 0 ∨ j = 3 ∨ 8 ≤ j → y' j = y j) ∧ CQS tp tl y (.inl (c, x)) y' (some (.int 0)) ∧ LA h2 24 3 ∧ ∀ r, (.inl (c, x) : Sum (Nat × Nat) Nat) = .inr r → IA h2 24 3 (fun j => j < i + 1) (fun j => if j = i then nI (tV tp tl r) else nI (N j)) := by
    intro h2 c x hO2 hB2
    refine ⟨_, hO2, hF1.tr (hB2.fr (by omega) (by omega)), fun j hj => ?_, CQS.l (by rw [ux_ne (by decide), ux_eq]) ux_eq, (hN1.sb hB2 (by decide)).la, fun r e => by cases e⟩
    rw [ux_ne (by omega), ux_ne (by omega), e1 j hj]
  generalize hS : tkS tp tl p = S at q1 ⊢
  rcases S with ⟨c, x⟩ | r
  · obtain ⟨rfl, k1, k2⟩ := q1.1 c x rfl
    refine ex_zneF rfl (rfl) ?_
    refine ex_go 80 rfl ?_
    exact ex_tret rfl rfl ⟨y1, hO1, hF1, e1, CQS.l k1 k2, hN1.la, fun r e => by cases e⟩
  · obtain ⟨rfl, k0, ⟨k1, k2⟩, k4, k6, k5, k7⟩ := q1.2 r rfl
    have m10 : y1 10 = nI mt := (e1 10 (by omega)).trans hm
    refine ex_zneT rfl (by decide) ?_
    refine ex_go 80 rfl ?_
    refine ex_getf rfl hO1 rfl rfl ?_
    refine ex_go 80 rfl ?_
    rw [k5]
    have hK4 : tK tp tl r < 1000 := by
      unfold tK
      repeat' split
      all_goals decide
    by_cases c2 : tK tp tl r = 2
    · have hv := k7 c2
      have hv9 := tV_99 k2 c2
      have hl1 := lo_1 (3 * w + i) (by omega)
      have hh9 := hi_99 (3 * w + i) (by omega)
      rw [c2]
      refine ex_ieqT rfl (rfl) ?_
      refine ex_go 80 rfl ?_
      try dsimp only
      try simp only [nI_inc, nI_1, nI_add, nI_mul2, tb_and, tb_or, tb_andn]
      rw [show (3 : Int32) * nI w = nI (3 * w) from nI_mul2 3 w, nI_add]
      refine ex_getf rfl hO1 rfl rfl ?_
      refine ex_go 80 rfl ?_
      refine ex_fald (3 * w + i) rfl rfl rfl rfl (by show _ < 24; omega) (by omega) (lo_t _ (by omega)) ?_
      rw [hv]
      by_cases cl : tV tp tl r < loL.getD (3 * w + i) 0
      · have hE : lkC tp tl w mt i a (.inr r) = .inl (3, tS tp tl r) := by
          unfold lkC lkS
          rw [ndS_t (decide_eq_true c2), ndS_f (decide_eq_false (fun z => by omega))]
          rfl
        rw [hE]
        refine ex_iltT rfl (nI_lt cl (by omega)) ?_
        refine ex_go 80 rfl ?_
        refine ex_getf rfl hO1 rfl rfl ?_
        rw [k6]
        refine ex_cvx rfl rfl rfl rfl hO1 rfl (d' := 0) (by omega) (c_refuse hO1) ?_
        rintro v2 h2 ⟨rfl, hO2, hB2⟩
        exact ex_tret rfl rfl (fail hO2 hB2)
      · refine ex_iltF rfl (nI_nlt (by omega) (by omega)) ?_
        refine ex_go 80 rfl ?_
        refine ex_getf rfl hO1 rfl rfl ?_
        refine ex_go 80 rfl ?_
        refine ex_fald (3 * w + i) rfl rfl rfl rfl (by show _ < 24; omega) (by omega) (hi_t _ (by omega)) ?_
        rw [hv]
        by_cases ch : tV tp tl r ≤ hiL.getD (3 * w + i) 0
        · have bnd : decide (loL.getD (3 * w + i) 0 ≤ tV tp tl r ∧ tV tp tl r ≤ hiL.getD (3 * w + i) 0) = true := decide_eq_true ⟨by omega, ch⟩
          have M : ¬ (w = 7 ∧ i = 1 ∧ tV tp tl r = a) → ev_X scr d cd_X3_takeNumber 58 [.ref 23, .int (nI w), .int (nI i), .int (nI (3 * w + i))] [] h1 (fun v h' => ∃ y', TO h' y' ∧ FR 23 24 h h' ∧ (∀ j, j = 0 ∨ j = 3 ∨ 8 ≤ j → y' j = y j) ∧ CQS tp tl y (lkC tp tl w mt i a (.inr r)) y' v ∧ LA h' 24 3 ∧ ∀ r', lkC tp tl w mt i a (.inr r) = .inr r' → IA h' 24 3 (fun j => j < i + 1) (fun j => if j = i then nI (tV tp tl r') else nI (N j))) := by
            intro n7
            have M2 : ¬ (w = 6 ∧ i = 0 ∧ mt.testBit (tV tp tl r) = true) → ev_X scr d cd_X3_takeNumber 75 [.ref 23, .int (nI w), .int (nI i), .int (nI (3 * w + i))] [] h1 (fun v h' => ∃ y', TO h' y' ∧ FR 23 24 h h' ∧ (∀ j, j = 0 ∨ j = 3 ∨ 8 ≤ j → y' j = y j) ∧ CQS tp tl y (lkC tp tl w mt i a (.inr r)) y' v ∧ LA h' 24 3 ∧ ∀ r', lkC tp tl w mt i a (.inr r) = .inr r' → IA h' 24 3 (fun j => j < i + 1) (fun j => if j = i then nI (tV tp tl r') else nI (N j))) := by
              intro n6
              have hE : lkC tp tl w mt i a (.inr r) = .inr r := by
                unfold lkC lkS
                rw [ndS_t (decide_eq_true c2), ndS_t bnd, ndS_t (by rw [decide_eq_false n7]; rfl), ndS_t (by rw [decide_eq_false n6]; rfl)]
              rw [hE]
              refine ex_go 80 rfl ?_
              refine ex_getf rfl hO1 rfl rfl ?_
              refine ex_go 80 rfl ?_
              refine ex_getf rfl hO1 rfl rfl ?_
              refine ex_is _ rfl hN1 rfl (by omega) (by omega) (fun h2 hA2 hB2 => ?_)
              refine ex_go 80 rfl ?_
              refine ex_tret rfl rfl ⟨y1, (hB2.2 23 (by decide)).trans hO1, hF1.tr (hB2.fr (by omega) (by omega)), e1, CQS.r ⟨k0, ⟨k1, k2⟩, k4, k6, k5, k7⟩, hA2.la, fun r' e => ?_⟩
              cases e
              refine hA2.congr (fun j _ hj => ⟨by omega, ?_⟩)
              rw [hv]
            by_cases c6 : w = 6
            · rw [c6]
              by_cases ci : i = 0
              · rw [ci]
                refine ex_go 80 rfl ?_
                refine ex_ineF rfl (rfl) ?_
                refine ex_go 80 rfl ?_
                refine ex_zneF rfl (rfl) ?_
                refine ex_go 80 rfl ?_
                refine ex_getf rfl hO1 rfl rfl ?_
                refine ex_go 80 rfl ?_
                refine ex_getf rfl hO1 rfl rfl ?_
                rw [m10, hv]
                have ch3 : tV tp tl r ≤ 3 := by rw [c6, ci] at ch; exact ch
                refine ex_cs rfl rfl rfl (d' := 0) (by omega) (c_bitOf hmt (by omega)) ?_
                cases cb : mt.testBit (tV tp tl r)
                · rw [c6, ci] at M2
                  refine ex_zeqT rfl (by decide) ?_
                  exact M2 (fun z => by rw [cb] at z; exact absurd z.2.2 (by decide))
                · have hE : lkC tp tl 6 mt 0 a (.inr r) = .inl (4, tS tp tl r) := by
                    rw [c6, ci] at bnd n7
                    unfold lkC lkS
                    rw [ndS_t (decide_eq_true c2), ndS_t bnd, ndS_t (by rw [decide_eq_false n7]; rfl), ndS_f (by rw [decide_eq_true ⟨rfl, rfl, cb⟩]; rfl)]
                  rw [hE]
                  refine ex_zeqF rfl (by decide) ?_
                  refine ex_go 80 rfl ?_
                  refine ex_getf rfl hO1 rfl rfl ?_
                  rw [k6]
                  refine ex_cvx rfl rfl rfl rfl hO1 rfl (d' := 0) (by omega) (c_refuse hO1) ?_
                  rintro v2 h2 ⟨rfl, hO2, hB2⟩
                  rw [ci] at fail
                  exact ex_tret rfl rfl (fail hO2 hB2)
              · rw [c6] at M2
                refine ex_go 80 rfl ?_
                refine ex_ineF rfl (rfl) ?_
                refine ex_go 80 rfl ?_
                refine ex_zneT rfl (fun z => ci ((nI_z (by omega)).mp z)) ?_
                exact M2 (fun z => ci z.2.1)
            · refine ex_go 80 rfl ?_
              refine ex_ineT rfl (fun z => c6 ((nI_eq (b := 6) (by omega) (by decide)).mp z)) ?_
              exact M2 (fun z => c6 z.1)
          refine ex_ileT rfl (nI_le ch (by omega)) ?_
          by_cases c7 : w = 7
          · rw [c7]
            by_cases ci : i = 1
            · rw [ci]
              rw [ci] at hN1 ha hNb
              refine ex_go 80 rfl ?_
              refine ex_ineF rfl (rfl) ?_
              refine ex_go 80 rfl ?_
              refine ex_ineF rfl (rfl) ?_
              refine ex_go 80 rfl ?_
              refine ex_getf rfl hO1 rfl rfl ?_
              refine ex_go 80 rfl ?_
              refine ex_getf rfl hO1 rfl rfl ?_
              refine ex_go 80 rfl ?_
              refine ex_ia 0 rfl hN1 rfl (by first | exact trivial | assumption | (show _ < _; omega)) (by omega) (by omega) rfl ?_
              rw [hv]
              have hN0 := hNb rfl
              by_cases ce : tV tp tl r = N 0
              · have hE : lkC tp tl 7 mt 1 a (.inr r) = .inl (3, tS tp tl r) := by
                  rw [c7, ci] at bnd
                  unfold lkC lkS
                  rw [ndS_t (decide_eq_true c2), ndS_t bnd, ndS_f (by rw [decide_eq_true ⟨rfl, rfl, ce.trans (ha rfl)⟩]; rfl)]
                  rfl
                rw [hE]
                refine ex_ineF rfl (by rw [ce]) ?_
                refine ex_go 80 rfl ?_
                refine ex_getf rfl hO1 rfl rfl ?_
                rw [k6]
                refine ex_cvx rfl rfl rfl rfl hO1 rfl (d' := 0) (by omega) (c_refuse hO1) ?_
                rintro v2 h2 ⟨rfl, hO2, hB2⟩
                rw [ci] at fail
                exact ex_tret rfl rfl (fail hO2 hB2)
              · rw [c7, ci] at M
                refine ex_ineT rfl (fun z => ce ((nI_eq (by omega) (by omega)).mp z)) ?_
                exact M (fun z => ce (z.2.2.trans (ha rfl).symm))
            · rw [c7] at M
              refine ex_go 80 rfl ?_
              refine ex_ineF rfl (rfl) ?_
              refine ex_go 80 rfl ?_
              refine ex_ineT rfl (fun z => ci ((nI_eq (b := 1) (by omega) (by decide)).mp z)) ?_
              exact M (fun z => ci z.2.1)
          · refine ex_go 80 rfl ?_
            refine ex_ineT rfl (fun z => c7 ((nI_eq (b := 7) (by omega) (by decide)).mp z)) ?_
            exact M (fun z => c7 z.1)
        · have hE : lkC tp tl w mt i a (.inr r) = .inl (3, tS tp tl r) := by
            unfold lkC lkS
            rw [ndS_t (decide_eq_true c2), ndS_f (decide_eq_false (fun z => by omega))]
            rfl
          rw [hE]
          refine ex_ileF rfl (fun z => ch ((nI_leI (by omega) (by omega)).mp z)) ?_
          refine ex_go 80 rfl ?_
          refine ex_getf rfl hO1 rfl rfl ?_
          rw [k6]
          refine ex_cvx rfl rfl rfl rfl hO1 rfl (d' := 0) (by omega) (c_refuse hO1) ?_
          rintro v2 h2 ⟨rfl, hO2, hB2⟩
          exact ex_tret rfl rfl (fail hO2 hB2)
    · have hE : lkC tp tl w mt i a (.inr r) = .inl (2, tS tp tl r) := by
        unfold lkC lkS
        rw [ndS_f (decide_eq_false c2)]
        rfl
      rw [hE]
      refine ex_ieqF rfl (fun z => c2 ((nI_eq (b := 2) (by omega) (by decide)).mp z)) ?_
      refine ex_go 80 rfl ?_
      refine ex_getf rfl hO1 rfl rfl ?_
      rw [k6]
      refine ex_cvx rfl rfl rfl rfl hO1 rfl (d' := 0) (by omega) (c_refuse hO1) ?_
      rintro v2 h2 ⟨rfl, hO2, hB2⟩
      exact ex_tret rfl rfl (fail hO2 hB2)
end CLINE
