/-! The calls, one side and the other: what a call answers, and what the town is then. -/
def ix (m : Int32) : Nat := m.toNatClampNeg
theorem ix_nI {j : Nat} (h : j < 2 ^ 31) : ix (nI j) = j := nI_clamp h
def cob (x : Nat → Int32) : List Value := [.ref 1, .ref 10, .ref 19, .ref 20, .ref 21, .ref 22, .ref 23, .ref 25, .ref 30, .int (x 0), .int (x 1), .int (x 2)]
abbrev CO (h : ev_H) (x : Nat → Int32) : Prop := h[0]? = some (.inr (5, cob x))
def TL (h : ev_H) : Prop := ∃ n f, TA h 10 n f
abbrev CQ (h : ev_H) (n : Nat) (f : Nat → Nat) (a : Value) : Option Value → ev_H → Prop := fun v h' => v = some a ∧ TA h' 1 n f ∧ TL h' ∧ FR 1 18 h h'
def LA (h : ev_H) (k L : Nat) : Prop := IA h k L (fun _ => False) (fun _ => 0)
theorem IA.la {h : ev_H} {k L : Nat} {P : Nat → Prop} {g : Nat → Int32} (x : IA h k L P g) : LA h k L := x.congr (fun _ _ q => q.elim)
def RS (h : ev_H) : Prop := LA h 59 57 ∧ LA h 65 8 ∧ LA h 66 8
def RY (h h' : ev_H) : Prop := h'.length = h.length ∧ ∀ j, j ≠ 58 → j ≠ 59 → j ≠ 65 → j ≠ 66 → h'[j]? = h[j]?
theorem RY.rf {h : ev_H} : RY h h := ⟨rfl, fun _ _ _ _ _ => rfl⟩
theorem RY.tr {h h1 h2 : ev_H} (x : RY h h1) (y : RY h1 h2) : RY h h2 := ⟨y.1.trans x.1, fun j a b c e => (y.2 j a b c e).trans (x.2 j a b c e)⟩
theorem RX.ry {h h' : ev_H} (x : RX h h') : RY h h' := ⟨x.1, fun j _ a b c => x.2 j a b c⟩
theorem SB.ry8 {h h' : ev_H} (x : SB 58 h h') : RY h h' := ⟨x.1, fun j a _ _ _ => x.2 j a⟩
theorem SB.ry9 {h h' : ev_H} (x : SB 59 h h') : RY h h' := ⟨x.1, fun j _ a _ _ => x.2 j a⟩
theorem RZ.ry {h h' : ev_H} (x : RZ h h') : RY h h' := x.rx.ry
abbrev RQ (h : ev_H) (f : Nat → Nat) (im : Nat → Int32) (a : Value) : Option Value → ev_H → Prop := fun v h' => v = some a ∧ ST h' f im ∧ RS h' ∧ RY h h'
theorem RS.b8 {h h' : ev_H} (x : RS h) (y : SB 58 h h') : RS h' := ⟨x.1.sb y (by decide), x.2.1.sb y (by decide), x.2.2.sb y (by decide)⟩
theorem RS.b9 {h h' : ev_H} {P : Nat → Prop} {z : Nat → Int32} (x : RS h) (y : SB 59 h h') (w : IA h' 59 57 P z) : RS h' := ⟨w.la, x.2.1.sb y (by decide), x.2.2.sb y (by decide)⟩
theorem RS.z {h h' : ev_H} {P P2 : Nat → Prop} {z z2 : Nat → Int32} (x : RS h) (y : RZ h h') (w : IA h' 59 57 P z) (w2 : IA h' 65 8 P2 z2) : RS h' := ⟨w.la, w2.la, x.2.2.rz y (by decide) (by decide)⟩
theorem ST.b9 {h h' : ev_H} {f : Nat → Nat} {im : Nat → Int32} (x : ST h f im) (y : SB 59 h h') : ST h' f im := x.sb y (by decide)
theorem ST.z {h h' : ev_H} {f : Nat → Nat} {im : Nat → Int32} (x : ST h f im) (y : RZ h h') : ST h' f im := x.rz y (by decide) (by decide)
theorem TL.fr {h h' : ev_H} (x : TL h) (y : FR 1 (1 + 8) h h') : TL h' := by
  obtain ⟨n, f, t⟩ := x
  exact ⟨n, f, t.kept y (by decide)⟩
theorem cq_s {h : ev_H} {n : Nat} {f : Nat → Nat} {a : Value} (hT : TA h 1 n f) (hR : TL h) : CQ h n f a (some a) h := ⟨rfl, hT, hR, FR.rf⟩
theorem cq_t {h h' : ev_H} {n : Nat} {f : Nat → Nat} {a : Value} (hR : TL h) (hT : TA h' 1 n f) (hF : FR 1 (1 + 8) h h') : CQ h n f a (some a) h' := ⟨rfl, hT, hR.fr hF, hF.wide (by decide) (by decide)⟩
theorem cq_r {h h' : ev_H} {n n2 : Nat} {f f2 : Nat → Nat} {a : Value} (hT : TA h 1 n f) (hR : TA h' 10 n2 f2) (hF : FR 10 (10 + 8) h h') : CQ h n f a (some a) h' := ⟨rfl, hT.kept hF (by decide), ⟨n2, f2, hR⟩, hF.wide (by decide) (by decide)⟩
theorem rq_s {h : ev_H} {f : Nat → Nat} {im : Nat → Int32} {a : Value} (hS : ST h f im) (hR : RS h) : RQ h f im a (some a) h := ⟨rfl, hS, hR, RY.rf⟩
theorem rq_9 {h h' : ev_H} {f : Nat → Nat} {im : Nat → Int32} {a : Value} {P : Nat → Prop} {z : Nat → Int32} (hS : ST h f im) (hR : RS h) (hB : SB 59 h h') (w : IA h' 59 57 P z) : RQ h f im a (some a) h' := ⟨rfl, hS.b9 hB, hR.b9 hB w, hB.ry9⟩
theorem rq_8 {h h' : ev_H} {f : Nat → Nat} {im : Nat → Int32} {a : Value} (hS : ST h' f im) (hR : RS h) (hB : SB 58 h h') : RQ h f im a (some a) h' := ⟨rfl, hS, hR.b8 hB, hB.ry8⟩
theorem up_comm {f : Nat → Nat} {k k' v v' : Nat} (h : k ≠ k') : up (up f k v) k' v' = up (up f k' v') k v := funext (fun j => by
  unfold up
  by_cases c : j = k'
  · rw [if_pos c, if_neg (by omega), if_pos c]
  · rw [if_neg c]
    by_cases c2 : j = k
    · rw [if_pos c2, if_pos c2]
    · rw [if_neg c2, if_neg c2, if_neg c])
theorem up_self (f : Nat → Nat) (k : Nat) : up f k (f k) = f := funext (fun j => by
  unfold up
  by_cases c : j = k
  · rw [if_pos c, c]
  · rw [if_neg c])
theorem tsw_d {w : Int32} {k : Nat} {lo hi d0 : Int} {offs : Array Int} (hw : isM (k + 1) w = false) (hlo : lo = 0) (hhi : hi = (k : Int)) : (if w.toInt < lo ∨ hi < w.toInt then d0.toNat else (offs.toList.getD (w.toInt - lo).toNat d0).toNat) = d0.toNat := by
  refine if_pos ?_
  rw [hlo, hhi]
  simp only [isM, Bool.and_eq_false_iff, decide_eq_false_iff_not] at hw
  omega
def gd (f : Nat → Nat) : Nat → Nat := fun m => f (5 * m + 2)
theorem wg_gdf (f : Nat → Nat) : wg f (gd f) = f := wg_self f
/-! answers -/
def a_rule (n : Nat) (f : Nat → Nat) (w : Int32) : Int32 := if isM 6 w = true then (match ix w with | 0 => nI n | 1 => nI (f 41) | 2 => nI (f 42) | 3 => nI (f 43) | 4 => nI (f 40) | _ => nI (bs (fun m => decide (f (5 * m) = 3)) n)) else -1
def a_man (n : Nat) (f : Nat → Nat) (m w : Int32) : Int32 := if (isM n m && isM 6 w) = true then (if ix w < 5 then rv f (5 * ix m + ix w) else nI (od n f (ix m))) else -1
def tb (n : Nat) (f : Nat → Nat) (t : Nat) : Nat := bs (fun m => decide (f (5 * m + 3) = t)) n
def a_ten (n : Nat) (f : Nat → Nat) (t w : Int32) : Int32 := if (isM 4 t && isM 4 w) = true then (match ix w with | 0 => nI (tb n f (ix t)) | 1 => nI (f (60 + ix t)) | 2 => nI (hm n f (ix t)) | _ => nI (sm (gsg f (tb n f (ix t))) n)) else -1
def a_move (n : Nat) (f : Nat → Nat) (m t : Int32) : Int32 := if (isM n m && isM 4 t) = true then (if wns n f (ix m) (ix t) = 0 then tv (f (5 * ix m + 3)) else -3) else -1
def s_move (n : Nat) (f : Nat → Nat) (m t : Int32) : Nat → Nat := if (isM n m && isM 4 t) = true then (if wns n f (ix m) (ix t) = 0 then seF f (ix m) (ix t) else f) else f
def rit (n : Nat) (f : Nat → Nat) (m : Int32) : Int32 := if isM n m = true then (if f (5 * ix m + 3) < 4 then 0 else -2) else -1
def a_leave (n : Nat) (f : Nat → Nat) (m : Int32) : Int32 := if rit n f m = 0 then tv (f (5 * ix m + 3)) else rit n f m
def s_leave (n : Nat) (f : Nat → Nat) (m : Int32) : Nat → Nat := if rit n f m = 0 then gvF f (ix m) else f
def prm (n : Nat) (m k : Int32) : Bool := isM n m && (isM n k && decide (m ≠ k))
def msw (f : Nat → Nat) (i j : Nat) : Bool := decide (f (5 * i + 3) < 4 ∧ f (5 * j + 3) < 4 ∧ f (5 * i + 3) ≠ f (5 * j + 3))
def a_swap (n : Nat) (f : Nat → Nat) (m k : Int32) : Int32 := if prm n m k = true then (if msw f (ix m) (ix k) = true then tv (f (5 * ix k + 3)) else -2) else -1
def s_swap (n : Nat) (f : Nat → Nat) (m k : Int32) : Nat → Nat := if prm n m k = true then (if msw f (ix m) (ix k) = true then exF f (ix m) (ix k) else f) else f
def a_watch (n : Nat) (f : Nat → Nat) (m : Int32) : Int32 := if rit n f m = 0 then nI (tb_b ((f 40).testBit (ix m))) else rit n f m
def s_watch (n : Nat) (f : Nat → Nat) (m : Int32) (b : Bool) : Nat → Nat := if rit n f m = 0 then up f 40 (wb b (f 40) (ix m)) else f
def a_kin (n : Nat) (f : Nat → Nat) (m k : Int32) : Int32 := if prm n m k = true then nI (tb_b ((f (5 * ix m + 4)).testBit (ix k))) else -1
def s_kin (n : Nat) (f : Nat → Nat) (m k : Int32) (b : Bool) : Nat → Nat := if prm n m k = true then kiF f (ix m) (ix k) b else f
def a_odd (n : Nat) (f : Nat → Nat) (m v : Int32) : Int32 := if (isM n m && isM 10 v) = true then (if f (5 * ix m) = 2 then -2 else nI (f (5 * ix m + 1))) else -1
def s_odd (n : Nat) (f : Nat → Nat) (m v : Int32) : Nat → Nat := if (isM n m && isM 10 v) = true then (if f (5 * ix m) = 2 then f else up f (5 * ix m + 1) (ix v)) else f
def a_law (f : Nat → Nat) (w v : Int32) : Int32 := if (decide (w = 0) && isM 100 v) = true then nI (f 41) else if (decide (w = 1) && isM 10 v) = true then nI (f 42) else -1
def s_law (f : Nat → Nat) (w v : Int32) : Nat → Nat := if (decide (w = 0) && isM 100 v) = true then up f 41 (ix v) else if (decide (w = 1) && isM 10 v) = true then up f 42 (ix v) else f
def a_goods (n : Nat) (f : Nat → Nat) (m v : Int32) : Int32 := if (isM n m && isM 100 v) = true then nI (f (5 * ix m + 2)) else -1
def s_goods (n : Nat) (f : Nat → Nat) (m v : Int32) : Nat → Nat := if (isM n m && isM 100 v) = true then up f (5 * ix m + 2) (ix v) else f
section CALLS
variable {scr : List Int32} {d : Nat} {h : ev_H} {n : Nat} {f : Nat → Nat} {x : Nat → Int32} {q : Nat → Int32} {im : Nat → Int32}
theorem k_rule (hC : CO h x) (hT : TA h 1 n f) (hL : TL h) (g : GD n f) {w : Int32} (hd : 1 ≤ d) : ev_X scr d cd_X5_rule 0 [.ref 0, .int w] [] h (CQ h n f (.int (a_rule n f w))) := by
  unfold a_rule
  cases hw : isM 6 w
  · refine ex_go 80 rfl ?_
    refine ex_tsw (t := 27) rfl (tsw_d (k := 5) hw rfl rfl) ?_
    refine ex_go 80 rfl ?_
    exact ex_iret rfl (cq_s hT hL)
  · obtain ⟨j, hj, rfl⟩ := isM_of hw (by decide)
    rw [ix_nI (by omega), if_pos rfl]
    rcases (by omega : j = 0 ∨ j = 1 ∨ j = 2 ∨ j = 3 ∨ j = 4 ∨ j = 5) with rfl | rfl | rfl | rfl | rfl | rfl
    · refine ex_go 80 rfl ?_
      refine ex_tsw (t := 2) rfl (by decide) ?_
      refine ex_go 80 rfl ?_
      refine ex_getf rfl hC rfl rfl ?_
      refine ex_getf rfl hT.1 rfl rfl ?_
      exact ex_iret rfl (cq_s hT hL)
    · refine ex_go 80 rfl ?_
      refine ex_tsw (t := 6) rfl (by decide) ?_
      refine ex_go 80 rfl ?_
      refine ex_getf rfl hC rfl rfl ?_
      refine ex_getf rfl hT.1 rfl rfl ?_
      exact ex_iret rfl (cq_s hT hL)
    · refine ex_go 80 rfl ?_
      refine ex_tsw (t := 10) rfl (by decide) ?_
      refine ex_go 80 rfl ?_
      refine ex_getf rfl hC rfl rfl ?_
      refine ex_getf rfl hT.1 rfl rfl ?_
      exact ex_iret rfl (cq_s hT hL)
    · refine ex_go 80 rfl ?_
      refine ex_tsw (t := 14) rfl (by decide) ?_
      refine ex_go 80 rfl ?_
      refine ex_getf rfl hC rfl rfl ?_
      refine ex_getf rfl hT.1 rfl rfl ?_
      exact ex_iret rfl (cq_s hT hL)
    · refine ex_go 80 rfl ?_
      refine ex_tsw (t := 18) rfl (by decide) ?_
      refine ex_go 80 rfl ?_
      refine ex_getf rfl hC rfl rfl ?_
      refine ex_getf rfl hT.1 rfl rfl ?_
      exact ex_iret rfl (cq_s hT hL)
    · refine ex_go 80 rfl ?_
      refine ex_tsw (t := 22) rfl (by decide) ?_
      refine ex_go 80 rfl ?_
      refine ex_getf rfl hC rfl rfl ?_
      refine ex_go 80 rfl ?_
      refine ex_cv rfl rfl rfl rfl hT.1 rfl (d' := 0) (by omega) (c_menOfKind (k := 3) hT g.1 (by decide) (fun j hj => (g.2.1 j hj).1)) ?_
      exact ex_iret rfl (cq_s hT hL)
theorem k_man (hC : CO h x) (hT : TA h 1 n f) (hL : TL h) (g : GD n f) {m w : Int32} (hd : 4 ≤ d) : ev_X scr d cd_X5_man 0 [.ref 0, .int m, .int w] [] h (CQ h n f (.int (a_man n f m w))) := by
  have hn := g.1
  unfold a_man
  refine ex_go 80 rfl ?_
  refine ex_getf rfl hC rfl rfl ?_
  refine ex_go 80 rfl ?_
  refine ex_cv rfl rfl rfl rfl hT.1 rfl (d' := 0) (by omega) (c_hasMan hT hn) ?_
  cases hm : isM n m
  · refine ex_zneF rfl (by decide) ?_
    refine ex_go 80 rfl ?_
    exact ex_iret rfl (cq_s hT hL)
  · obtain ⟨i, hi, rfl⟩ := isM_of hm (by omega)
    refine ex_zneT rfl (by decide) ?_
    cases hw : isM 6 w
    · refine ex_go 80 rfl ?_
      refine ex_tsw (t := 44) rfl (tsw_d (k := 5) hw rfl rfl) ?_
      refine ex_go 80 rfl ?_
      exact ex_iret rfl (cq_s hT hL)
    · obtain ⟨j, hj, rfl⟩ := isM_of hw (by decide)
      rw [ix_nI (by omega), ix_nI (by omega), Bool.true_and, if_pos rfl]
      rcases (by omega : j = 0 ∨ j = 1 ∨ j = 2 ∨ j = 3 ∨ j = 4 ∨ j = 5) with rfl | rfl | rfl | rfl | rfl | rfl
      · rw [if_pos (by decide), show 5 * i + 0 = 5 * i from rfl, rv_0]
        refine ex_go 80 rfl ?_
        refine ex_tsw (t := 9) rfl (by decide) ?_
        refine ex_go 80 rfl ?_
        refine ex_getf rfl hC rfl rfl ?_
        refine ex_getf rfl hT.1 rfl rfl ?_
        refine ex_go 80 rfl ?_
        refine ex_ia _ rfl hT.2.1 rfl (by first | exact trivial | assumption | (show _ < _; omega)) (by omega) (by omega) rfl ?_
        exact ex_iret rfl (cq_s hT hL)
      · rw [if_pos (by decide), rv_1]
        refine ex_go 80 rfl ?_
        refine ex_tsw (t := 15) rfl (by decide) ?_
        refine ex_go 80 rfl ?_
        refine ex_getf rfl hC rfl rfl ?_
        refine ex_getf rfl hT.1 rfl rfl ?_
        refine ex_go 80 rfl ?_
        refine ex_ia _ rfl hT.2.2.1 rfl (by first | exact trivial | assumption | (show _ < _; omega)) (by omega) (by omega) rfl ?_
        exact ex_iret rfl (cq_s hT hL)
      · rw [if_pos (by decide), rv_2]
        refine ex_go 80 rfl ?_
        refine ex_tsw (t := 21) rfl (by decide) ?_
        refine ex_go 80 rfl ?_
        refine ex_getf rfl hC rfl rfl ?_
        refine ex_getf rfl hT.1 rfl rfl ?_
        refine ex_go 80 rfl ?_
        refine ex_ia _ rfl hT.2.2.2.1 rfl (by first | exact trivial | assumption | (show _ < _; omega)) (by omega) (by omega) rfl ?_
        exact ex_iret rfl (cq_s hT hL)
      · rw [if_pos (by decide), rv_3 f (by omega)]
        refine ex_go 80 rfl ?_
        refine ex_tsw (t := 27) rfl (by decide) ?_
        refine ex_go 80 rfl ?_
        refine ex_getf rfl hC rfl rfl ?_
        refine ex_getf rfl hT.1 rfl rfl ?_
        refine ex_go 80 rfl ?_
        refine ex_ia _ rfl hT.2.2.2.2.1 rfl (by first | exact trivial | assumption | (show _ < _; omega)) (by omega) (by omega) rfl ?_
        exact ex_iret rfl (cq_s hT hL)
      · rw [if_pos (by decide), rv_4]
        refine ex_go 80 rfl ?_
        refine ex_tsw (t := 33) rfl (by decide) ?_
        refine ex_go 80 rfl ?_
        refine ex_getf rfl hC rfl rfl ?_
        refine ex_getf rfl hT.1 rfl rfl ?_
        refine ex_go 80 rfl ?_
        refine ex_ia _ rfl hT.2.2.2.2.2.1 rfl (by first | exact trivial | assumption | (show _ < _; omega)) (by omega) (by omega) rfl ?_
        exact ex_iret rfl (cq_s hT hL)
      · refine ex_go 80 rfl ?_
        refine ex_tsw (t := 39) rfl (by decide) ?_
        refine ex_go 80 rfl ?_
        refine ex_getf rfl hC rfl rfl ?_
        refine ex_go 80 rfl ?_
        refine ex_cv rfl rfl rfl rfl hT.1 rfl (d' := 3) (by omega) (c_oddsInTen hT g hi (Nat.le_refl _)) ?_
        exact ex_iret rfl (cq_s hT hL)
theorem k_ten (hC : CO h x) (hT : TA h 1 n f) (hL : TL h) (g : GD n f) {t w : Int32} (hd : 5 ≤ d) : ev_X scr d cd_X5_ten 0 [.ref 0, .int t, .int w] [] h (CQ h n f (.int (a_ten n f t w))) := by
  have hn := g.1
  unfold a_ten
  refine ex_go 80 rfl ?_
  refine ex_cs rfl rfl rfl (d' := 0) (by omega) (c_isTen) ?_
  cases ht : isM 4 t
  · refine ex_zneF rfl (by decide) ?_
    refine ex_go 80 rfl ?_
    exact ex_iret rfl (cq_s hT hL)
  · obtain ⟨i, hi, rfl⟩ := isM_of ht (by omega)
    refine ex_zneT rfl (by decide) ?_
    cases hw : isM 4 w
    · refine ex_go 80 rfl ?_
      refine ex_tsw (t := 31) rfl (tsw_d (k := 3) hw rfl rfl) ?_
      refine ex_go 80 rfl ?_
      exact ex_iret rfl (cq_s hT hL)
    · obtain ⟨j, hj, rfl⟩ := isM_of hw (by decide)
      rw [ix_nI (by omega), ix_nI (by omega), Bool.true_and, if_pos rfl]
      rcases (by omega : j = 0 ∨ j = 1 ∨ j = 2 ∨ j = 3) with rfl | rfl | rfl | rfl
      · refine ex_go 80 rfl ?_
        refine ex_tsw (t := 7) rfl (by decide) ?_
        refine ex_go 80 rfl ?_
        refine ex_getf rfl hC rfl rfl ?_
        refine ex_go 80 rfl ?_
        refine ex_cv rfl rfl rfl rfl hT.1 rfl (d' := 0) (by omega) (c_menOfTen hT hn hi) ?_
        exact ex_iret rfl (cq_s hT hL)
      · refine ex_go 80 rfl ?_
        refine ex_tsw (t := 12) rfl (by decide) ?_
        refine ex_go 80 rfl ?_
        refine ex_getf rfl hC rfl rfl ?_
        refine ex_getf rfl hT.1 rfl rfl ?_
        refine ex_go 80 rfl ?_
        refine ex_ia _ rfl hT.2.2.2.2.2.2.1 rfl (by first | exact trivial | assumption | (show _ < _; omega)) (by omega) (by omega) rfl ?_
        exact ex_iret rfl (cq_s hT hL)
      · refine ex_go 80 rfl ?_
        refine ex_tsw (t := 18) rfl (by decide) ?_
        refine ex_go 80 rfl ?_
        refine ex_getf rfl hC rfl rfl ?_
        refine ex_go 80 rfl ?_
        refine ex_cv rfl rfl rfl rfl hT.1 rfl (d' := 4) (by omega) (c_harmOfTen hT g hi (Nat.le_refl _)) ?_
        exact ex_iret rfl (cq_s hT hL)
      · refine ex_go 80 rfl ?_
        refine ex_tsw (t := 23) rfl (by decide) ?_
        refine ex_go 80 rfl ?_
        refine ex_getf rfl hC rfl rfl ?_
        refine ex_go 80 rfl ?_
        refine ex_getf rfl hC rfl rfl ?_
        refine ex_go 80 rfl ?_
        refine ex_cv rfl rfl rfl rfl hT.1 rfl (d' := 0) (by omega) (c_menOfTen hT hn hi) ?_
        refine ex_cv rfl rfl rfl rfl hT.1 rfl (d' := 1) (by omega) (c_stockOf hT hn (Nat.lt_trans (bs_256 _ hn) (by decide)) (Nat.le_refl _)) ?_
        exact ex_iret rfl (cq_s hT hL)
theorem wns_or (n : Nat) (f : Nat → Nat) (i t : Nat) : wns n f i t = 0 ∨ wns n f i t = -3 := by
  unfold wns
  split
  · exact Or.inr rfl
  · exact Or.inl rfl
theorem k_move (hC : CO h x) (hT : TA h 1 n f) (hL : TL h) (g : GD n f) {m t : Int32} (hd : 3 ≤ d) : ev_X scr d cd_X5_move 0 [.ref 0, .int m, .int t, .float 0] [] h (CQ h n (s_move n f m t) (.int (a_move n f m t))) := by
  have hn := g.1
  unfold a_move s_move
  cases hb : isM n m && isM 4 t
  · refine ex_go 80 rfl ?_
    refine ex_getf rfl hC rfl rfl ?_
    refine ex_go 80 rfl ?_
    refine ex_cv rfl rfl rfl rfl hT.1 rfl (d' := 1) (by omega) (c_whyBad hT hn hb (Nat.le_refl _)) ?_
    refine ex_go 80 rfl ?_
    refine ex_zeqF rfl (by decide) ?_
    refine ex_go 80 rfl ?_
    exact ex_iret rfl (cq_s hT hL)
  · rw [Bool.and_eq_true] at hb
    obtain ⟨i, hi, rfl⟩ := isM_of hb.1 (by omega)
    obtain ⟨j, hj, rfl⟩ := isM_of hb.2 (by omega)
    rw [ix_nI (by omega), ix_nI (by omega), if_pos rfl, if_pos rfl]
    refine ex_go 80 rfl ?_
    refine ex_getf rfl hC rfl rfl ?_
    refine ex_go 80 rfl ?_
    refine ex_cv rfl rfl rfl rfl hT.1 rfl (d' := 2) (by omega) (c_whyNoSeat hT g hi hj (Nat.le_refl _)) ?_
    rcases wns_or n f i j with e | e
    · rw [e, if_pos rfl, if_pos rfl]
      refine ex_go 80 rfl ?_
      refine ex_zeqT rfl (rfl) ?_
      refine ex_go 80 rfl ?_
      refine ex_getf rfl hC rfl rfl ?_
      refine ex_go 80 rfl ?_
      refine ex_cvx rfl rfl rfl rfl hT.1 rfl (d' := 0) (by omega) (c_seat hT hn hi hj (g.2.1 i hi).1) ?_
      rintro v1 h1 ⟨rfl, hT1, hF1⟩
      exact ex_iret rfl (cq_t hL hT1 hF1)
    · rw [e, if_neg (by decide), if_neg (by decide)]
      refine ex_go 80 rfl ?_
      refine ex_zeqF rfl (by decide) ?_
      refine ex_go 80 rfl ?_
      exact ex_iret rfl (cq_s hT hL)
theorem c_refusalInTen (hC : CO h x) (hT : TA h 1 n f) (hn : n ≤ 8) {m : Int32} (hd : 1 ≤ d) : ev_V scr d cd_X5_refusalInTen 0 [.ref 0, .int m] [] h (some (.int (rit n f m)), h) := by
  unfold rit
  refine ev_go 80 rfl ?_
  refine ev_getf rfl hC rfl rfl ?_
  refine ev_go 80 rfl ?_
  refine ev_cv rfl rfl rfl rfl hT.1 rfl (d' := 0) (by omega) (c_hasMan hT hn) ?_
  cases hm : isM n m
  · refine ev_zneF rfl (by decide) ?_
    refine ev_go 80 rfl ?_
    exact ev_iret rfl
  · obtain ⟨i, hi, rfl⟩ := isM_of hm (by omega)
    refine ev_zneT rfl (by decide) ?_
    rw [ix_nI (by omega), if_pos rfl]
    refine ev_go 80 rfl ?_
    refine ev_getf rfl hC rfl rfl ?_
    refine ev_getf rfl hT.1 rfl rfl ?_
    refine ev_go 80 rfl ?_
    refine ev_ia _ rfl hT.2.2.2.2.1 rfl (by first | exact trivial | assumption | (show _ < _; omega)) (by omega) (by omega) rfl ?_
    refine ev_zge rfl (fun hc => ?_) (fun hc => ?_)
    · rw [if_pos (Classical.not_not.mp (fun q => absurd hc (Int32.not_le.mpr ((tv_neg _).mpr q))))]
      refine ev_go 80 rfl ?_
      exact ev_iret rfl
    · rw [if_neg ((tv_neg _).mp (Int32.not_le.mp hc))]
      refine ev_go 80 rfl ?_
      exact ev_iret rfl
theorem rit_0 {n : Nat} {f : Nat → Nat} {m : Int32} (hn : n ≤ 8) (h : rit n f m = 0) : ∃ i, i < n ∧ m = nI i ∧ f (5 * i + 3) < 4 ∧ ix m = i := by
  unfold rit at h
  by_cases c : isM n m = true
  · rw [if_pos c] at h
    obtain ⟨i, hi, rfl⟩ := isM_of c (by omega)
    rw [ix_nI (by omega)] at h
    refine ⟨i, hi, rfl, Classical.not_not.mp (fun q => ?_), ix_nI (by omega)⟩
    rw [if_neg q] at h
    exact absurd h (by decide)
  · rw [if_neg c] at h
    exact absurd h (by decide)
theorem k_leave (hC : CO h x) (hT : TA h 1 n f) (hL : TL h) (g : GD n f) {m : Int32} (hd : 2 ≤ d) : ev_X scr d cd_X5_leave 0 [.ref 0, .int m, .float 0, .float 0] [] h (CQ h n (s_leave n f m) (.int (a_leave n f m))) := by
  have hn := g.1
  unfold a_leave s_leave
  refine ex_go 80 rfl ?_
  refine ex_cv rfl rfl rfl rfl hC rfl (d' := 1) (by omega) (c_refusalInTen hC hT hn (Nat.le_refl _)) ?_
  by_cases c : rit n f m = 0
  · obtain ⟨i, hi, rfl, ht, e⟩ := rit_0 hn c
    rw [if_pos c, if_pos c, e, c]
    refine ex_go 80 rfl ?_
    refine ex_zeqT rfl (rfl) ?_
    refine ex_go 80 rfl ?_
    refine ex_getf rfl hC rfl rfl ?_
    refine ex_getf rfl hT.1 rfl rfl ?_
    refine ex_go 80 rfl ?_
    refine ex_ia _ rfl hT.2.2.2.2.1 rfl (by first | exact trivial | assumption | (show _ < _; omega)) (by omega) (by omega) rfl ?_
    refine ex_go 80 rfl ?_
    refine ex_getf rfl hC rfl rfl ?_
    refine ex_go 80 rfl ?_
    refine ex_cvx rfl rfl rfl rfl hT.1 rfl (d' := 1) (by omega) (c_giveUp hT hn hi (Nat.le_refl _)) ?_
    rintro v1 h1 ⟨rfl, hT1, hF1⟩
    refine ex_go 80 rfl ?_
    exact ex_iret rfl (cq_t hL hT1 hF1)
  · rw [if_neg c, if_neg c]
    refine ex_go 80 rfl ?_
    refine ex_zeqF rfl (c) ?_
    refine ex_go 80 rfl ?_
    exact ex_iret rfl (cq_s hT hL)
theorem c_isPair (hC : CO h x) (hT : TA h 1 n f) (hn : n ≤ 8) {m k : Int32} (hd : 1 ≤ d) : ev_V scr d cd_X5_isPair 0 [.ref 0, .int m, .int k] [] h (some (.int (nI (tb_b (prm n m k)))), h) := by
  unfold prm
  refine ev_go 80 rfl ?_
  refine ev_getf rfl hC rfl rfl ?_
  refine ev_go 80 rfl ?_
  refine ev_cv rfl rfl rfl rfl hT.1 rfl (d' := 0) (by omega) (c_hasMan hT hn) ?_
  cases hm : isM n m
  · refine ev_zeqT rfl (by decide) ?_
    refine ev_go 80 rfl ?_
    exact ev_tret rfl rfl
  · refine ev_zeqF rfl (by decide) ?_
    refine ev_go 80 rfl ?_
    refine ev_getf rfl hC rfl rfl ?_
    refine ev_go 80 rfl ?_
    refine ev_cv rfl rfl rfl rfl hT.1 rfl (d' := 0) (by omega) (c_hasMan hT hn) ?_
    cases hk : isM n k
    · refine ev_zeqT rfl (by decide) ?_
      refine ev_go 80 rfl ?_
      exact ev_tret rfl rfl
    · refine ev_zeqF rfl (by decide) ?_
      refine ev_go 80 rfl ?_
      refine ev_ieq rfl (fun hc => ?_) (fun hc => ?_)
      · rw [decide_eq_false (fun q => q hc)]
        refine ev_go 80 rfl ?_
        exact ev_tret rfl rfl
      · rw [decide_eq_true hc]
        refine ev_go 80 rfl ?_
        exact ev_tret rfl rfl
theorem prm_of {n : Nat} {m k : Int32} (hn : n ≤ 8) (h : prm n m k = true) : ∃ i j, i < n ∧ j < n ∧ i ≠ j ∧ m = nI i ∧ k = nI j ∧ ix m = i ∧ ix k = j := by
  unfold prm at h
  rw [Bool.and_eq_true, Bool.and_eq_true, decide_eq_true_eq] at h
  obtain ⟨i, hi, rfl⟩ := isM_of h.1 (by omega)
  obtain ⟨j, hj, rfl⟩ := isM_of h.2.1 (by omega)
  exact ⟨i, j, hi, hj, fun e => h.2.2 (by rw [e]), rfl, rfl, ix_nI (by omega), ix_nI (by omega)⟩
theorem k_swap (hC : CO h x) (hT : TA h 1 n f) (hL : TL h) (g : GD n f) {m k : Int32} (hd : 2 ≤ d) : ev_X scr d cd_X5_swap 0 [.ref 0, .int m, .int k] [] h (CQ h n (s_swap n f m k) (.int (a_swap n f m k))) := by
  have hn := g.1
  unfold a_swap s_swap
  refine ex_go 80 rfl ?_
  refine ex_cv rfl rfl rfl rfl hC rfl (d' := 1) (by omega) (c_isPair hC hT hn (Nat.le_refl _)) ?_
  cases hp : prm n m k
  · refine ex_zneF rfl (by decide) ?_
    refine ex_go 80 rfl ?_
    exact ex_iret rfl (cq_s hT hL)
  · obtain ⟨i, j, hi, hj, hij, rfl, rfl, ei, ej⟩ := prm_of hn hp
    rw [ei, ej, if_pos rfl, if_pos rfl]
    refine ex_zneT rfl (by decide) ?_
    refine ex_go 80 rfl ?_
    refine ex_getf rfl hC rfl rfl ?_
    refine ex_go 80 rfl ?_
    refine ex_cv rfl rfl rfl rfl hT.1 rfl (d' := 0) (by omega) (c_maySwap hT g hi hj) ?_
    show ev_X scr d cd_X5_swap _ _ [.int (nI (tb_b (msw f i j)))] _ _
    cases hs : msw f i j
    · refine ex_zneF rfl (by decide) ?_
      refine ex_go 80 rfl ?_
      exact ex_iret rfl (cq_s hT hL)
    · refine ex_zneT rfl (by decide) ?_
      refine ex_go 80 rfl ?_
      refine ex_getf rfl hC rfl rfl ?_
      refine ex_go 80 rfl ?_
      refine ex_cvx rfl rfl rfl rfl hT.1 rfl (d' := 0) (by omega) (c_exchange hT hn hi hj) ?_
      rintro v1 h1 ⟨rfl, hT1, hF1⟩
      have hC1 := (hF1.2 0 (by decide)).trans hC
      have e : exF f i j (5 * i + 3) = f (5 * j + 3) := by unfold exF; rw [up_ne (by omega), up_eq]
      rw [if_pos rfl, if_pos rfl, ← e]
      refine ex_go 80 rfl ?_
      refine ex_getf rfl hC1 rfl rfl ?_
      refine ex_getf rfl hT1.1 rfl rfl ?_
      refine ex_go 80 rfl ?_
      refine ex_ia _ rfl hT1.2.2.2.2.1 rfl (by first | exact trivial | assumption | (show _ < _; omega)) (by omega) (by omega) rfl ?_
      exact ex_iret rfl (cq_t hL hT1 hF1)
theorem k_watch (hC : CO h x) (hT : TA h 1 n f) (hL : TL h) (g : GD n f) {m : Int32} (b : Bool) (hd : 2 ≤ d) : ev_X scr d cd_X5_watch 0 [.ref 0, .int m, .int (nI (tb_b b)), .float 0, .float 0] [] h (CQ h n (s_watch n f m b) (.int (a_watch n f m))) := by
  have hn := g.1
  have hw := g.w
  unfold a_watch s_watch
  refine ex_go 80 rfl ?_
  refine ex_cv rfl rfl rfl rfl hC rfl (d' := 1) (by omega) (c_refusalInTen hC hT hn (Nat.le_refl _)) ?_
  by_cases c : rit n f m = 0
  · obtain ⟨i, hi, rfl, ht, e⟩ := rit_0 hn c
    rw [if_pos c, if_pos c, e, c]
    refine ex_go 80 rfl ?_
    refine ex_zeqT rfl (rfl) ?_
    refine ex_go 80 rfl ?_
    refine ex_getf rfl hC rfl rfl ?_
    refine ex_getf rfl hT.1 rfl rfl ?_
    refine ex_go 80 rfl ?_
    refine ex_cs rfl rfl rfl (d' := 0) (by omega) (c_bitOf (by omega) (by omega)) ?_
    refine ex_go 80 rfl ?_
    refine ex_getf rfl hC rfl rfl ?_
    refine ex_go 80 rfl ?_
    refine ex_getf rfl hC rfl rfl ?_
    refine ex_getf rfl hT.1 rfl rfl ?_
    refine ex_go 80 rfl ?_
    refine ex_cs rfl rfl rfl (d' := 0) (by omega) (c_withBit b (by omega)) ?_
    refine ex_pf rfl hT.1 rfl rfl (fun h1 hO1 hB1 => ?_)
    have hT1 := hT.f_40 (v := wb b (f 40) i) hO1 hB1 rfl
    refine ex_go 80 rfl ?_
    exact ex_iret rfl (cq_t hL hT1 (hB1.fr (by decide) (by decide)))
  · rw [if_neg c, if_neg c]
    refine ex_go 80 rfl ?_
    refine ex_zeqF rfl (c) ?_
    refine ex_go 80 rfl ?_
    exact ex_iret rfl (cq_s hT hL)
theorem k_kin (hC : CO h x) (hT : TA h 1 n f) (hL : TL h) (g : GD n f) {m k : Int32} (b : Bool) (hd : 2 ≤ d) : ev_X scr d cd_X5_kin 0 [.ref 0, .int m, .int k, .int (nI (tb_b b)), .float 0] [] h (CQ h n (s_kin n f m k b) (.int (a_kin n f m k))) := by
  have hn := g.1
  have hw := g.w
  unfold a_kin s_kin
  refine ex_go 80 rfl ?_
  refine ex_cv rfl rfl rfl rfl hC rfl (d' := 1) (by omega) (c_isPair hC hT hn (Nat.le_refl _)) ?_
  cases hp : prm n m k
  · refine ex_zneF rfl (by decide) ?_
    refine ex_go 80 rfl ?_
    exact ex_iret rfl (cq_s hT hL)
  · obtain ⟨i, j, hi, hj, hij, rfl, rfl, ei, ej⟩ := prm_of hn hp
    have hk := g.2.2.2.2.2.1 i (by omega)
    rw [ei, ej, if_pos rfl, if_pos rfl]
    refine ex_zneT rfl (by decide) ?_
    refine ex_go 80 rfl ?_
    refine ex_getf rfl hC rfl rfl ?_
    refine ex_getf rfl hT.1 rfl rfl ?_
    refine ex_go 80 rfl ?_
    refine ex_ia _ rfl hT.2.2.2.2.2.1 rfl (by first | exact trivial | assumption | (show _ < _; omega)) (by omega) (by omega) rfl ?_
    refine ex_go 80 rfl ?_
    refine ex_cs rfl rfl rfl (d' := 0) (by omega) (c_bitOf (by omega) (by omega)) ?_
    refine ex_go 80 rfl ?_
    refine ex_getf rfl hC rfl rfl ?_
    refine ex_go 80 rfl ?_
    refine ex_cvx rfl rfl rfl rfl hT.1 rfl (d' := 1) (by omega) (c_setKin hT (by omega) (by omega) hij b (Nat.le_refl _)) ?_
    rintro v1 h1 ⟨rfl, hT1, hF1⟩
    refine ex_go 80 rfl ?_
    exact ex_iret rfl (cq_t hL hT1 hF1)
theorem k_odd (hC : CO h x) (hT : TA h 1 n f) (hL : TL h) (g : GD n f) {m v : Int32} (hd : 1 ≤ d) : ev_X scr d cd_X5_odd 0 [.ref 0, .int m, .int v, .float 0] [] h (CQ h n (s_odd n f m v) (.int (a_odd n f m v))) := by
  have hn := g.1
  unfold a_odd s_odd
  refine ex_go 80 rfl ?_
  refine ex_getf rfl hC rfl rfl ?_
  refine ex_go 80 rfl ?_
  refine ex_cv rfl rfl rfl rfl hT.1 rfl (d' := 0) (by omega) (c_hasMan hT hn) ?_
  cases hm : isM n m
  · refine ex_zeqT rfl (by decide) ?_
    refine ex_go 80 rfl ?_
    exact ex_iret rfl (cq_s hT hL)
  · obtain ⟨i, hi, rfl⟩ := isM_of hm (by omega)
    have gi := (g.2.1 i hi).1
    refine ex_zeqF rfl (by decide) ?_
    refine ex_go 80 rfl ?_
    refine ex_cs rfl rfl rfl (d' := 0) (by omega) (c_isWithin (k := 9) (by decide)) ?_
    show ev_X scr d cd_X5_odd _ _ [.int (nI (tb_b (isM 10 v)))] _ _
    cases hv : isM 10 v
    · refine ex_zneF rfl (by decide) ?_
      refine ex_go 80 rfl ?_
      exact ex_iret rfl (cq_s hT hL)
    · obtain ⟨j, hj, rfl⟩ := isM_of hv (by omega)
      rw [ix_nI (by omega), ix_nI (by omega), Bool.true_and, if_pos rfl, if_pos rfl]
      refine ex_zneT rfl (by decide) ?_
      refine ex_go 80 rfl ?_
      refine ex_getf rfl hC rfl rfl ?_
      refine ex_getf rfl hT.1 rfl rfl ?_
      refine ex_go 80 rfl ?_
      refine ex_ia _ rfl hT.2.1 rfl (by first | exact trivial | assumption | (show _ < _; omega)) (by omega) (by omega) rfl ?_
      refine ex_go 80 rfl ?_
      refine ex_ine rfl (fun hc => ?_) (fun hc => ?_)
      · have h2 : ¬ f (5 * i) = 2 := fun q => hc (by rw [q]; rfl)
        rw [if_neg h2, if_neg h2]
        refine ex_go 80 rfl ?_
        refine ex_getf rfl hC rfl rfl ?_
        refine ex_getf rfl hT.1 rfl rfl ?_
        refine ex_go 80 rfl ?_
        refine ex_ia _ rfl hT.2.2.1 rfl (by first | exact trivial | assumption | (show _ < _; omega)) (by omega) (by omega) rfl ?_
        refine ex_go 80 rfl ?_
        refine ex_getf rfl hC rfl rfl ?_
        refine ex_getf rfl hT.1 rfl rfl ?_
        refine ex_go 80 rfl ?_
        refine ex_is _ rfl hT.2.2.1 rfl (by omega) (by omega) (fun h1 hA1 hB1 => ?_)
        have hT1 := hT.u_odds hA1 hB1 (by omega) rfl
        refine ex_go 80 rfl ?_
        exact ex_iret rfl (cq_t hL hT1 (hB1.fr (by decide) (by decide)))
      · have h2 : f (5 * i) = 2 := (nI_eq (b := 2) (by omega) (by decide)).mp hc
        rw [if_pos h2, if_pos h2]
        refine ex_go 80 rfl ?_
        exact ex_iret rfl (cq_s hT hL)
theorem k_law (hC : CO h x) (hT : TA h 1 n f) (hL : TL h) (g : GD n f) {w v : Int32} (hd : 1 ≤ d) : ev_X scr d cd_X5_law 0 [.ref 0, .int w, .int v, .float 0] [] h (CQ h n (s_law f w v) (.int (a_law f w v))) := by
  have hn := g.1
  unfold a_law s_law
  have two : ¬ (decide (w = 0) && isM 100 v) = true → ev_X scr d cd_X5_law 16 [.ref 0, .int w, .int v, .float 0] [] h (CQ h n (if (decide (w = 1) && isM 10 v) = true then up f 42 (ix v) else f) (.int (if (decide (w = 1) && isM 10 v) = true then nI (f 42) else -1))) := by
    intro _
    refine ex_go 80 rfl ?_
    refine ex_ine rfl (fun hc => ?_) (fun hc => ?_)
    · rw [decide_eq_false hc]
      refine ex_go 80 rfl ?_
      exact ex_iret rfl (cq_s hT hL)
    · rw [decide_eq_true hc]
      refine ex_go 80 rfl ?_
      refine ex_cs rfl rfl rfl (d' := 0) (by omega) (c_isWithin (k := 9) (by decide)) ?_
      show ev_X scr d cd_X5_law _ _ [.int (nI (tb_b (isM 10 v)))] _ _
      cases hv : isM 10 v
      · refine ex_zeqT rfl (by decide) ?_
        refine ex_go 80 rfl ?_
        exact ex_iret rfl (cq_s hT hL)
      · obtain ⟨j, hj, rfl⟩ := isM_of hv (by omega)
        rw [ix_nI (by omega)]
        refine ex_zeqF rfl (by decide) ?_
        refine ex_go 80 rfl ?_
        refine ex_getf rfl hC rfl rfl ?_
        refine ex_getf rfl hT.1 rfl rfl ?_
        refine ex_go 80 rfl ?_
        refine ex_getf rfl hC rfl rfl ?_
        refine ex_go 80 rfl ?_
        refine ex_pf rfl hT.1 rfl rfl (fun h1 hO1 hB1 => ?_)
        have hT1 := hT.f_42 (v := j) hO1 hB1 rfl
        refine ex_go 80 rfl ?_
        exact ex_iret rfl (cq_t hL hT1 (hB1.fr (by decide) (by decide)))
  refine ex_go 80 rfl ?_
  refine ex_zne rfl (fun hc => ?_) (fun hc => ?_)
  · have e : ¬ (decide (w = 0) && isM 100 v) = true := by simp [hc]
    rw [if_neg e, if_neg e]
    exact two e
  · rw [decide_eq_true hc]
    refine ex_go 80 rfl ?_
    refine ex_cs rfl rfl rfl (d' := 0) (by omega) (c_isWithin (k := 99) (by decide)) ?_
    show ev_X scr d cd_X5_law _ _ [.int (nI (tb_b (isM 100 v)))] _ _
    cases hv : isM 100 v
    · have e : ¬ (decide (w = 0) && isM 100 v) = true := by simp [hv]
      refine ex_zeqT rfl (by decide) ?_
      exact two e
    · obtain ⟨j, hj, rfl⟩ := isM_of hv (by omega)
      rw [ix_nI (by omega)]
      refine ex_zeqF rfl (by decide) ?_
      refine ex_go 80 rfl ?_
      refine ex_getf rfl hC rfl rfl ?_
      refine ex_getf rfl hT.1 rfl rfl ?_
      refine ex_go 80 rfl ?_
      refine ex_getf rfl hC rfl rfl ?_
      refine ex_go 80 rfl ?_
      refine ex_pf rfl hT.1 rfl rfl (fun h1 hO1 hB1 => ?_)
      have hT1 := hT.f_41 (v := j) hO1 hB1 rfl
      refine ex_go 80 rfl ?_
      exact ex_iret rfl (cq_t hL hT1 (hB1.fr (by decide) (by decide)))
theorem k_goods (hC : CO h x) (hT : TA h 1 n f) (hL : TL h) (g : GD n f) {m v : Int32} (hd : 1 ≤ d) : ev_X scr d cd_X5_goods 0 [.ref 0, .int m, .int v, .float 0] [] h (CQ h n (s_goods n f m v) (.int (a_goods n f m v))) := by
  have hn := g.1
  unfold a_goods s_goods
  refine ex_go 80 rfl ?_
  refine ex_getf rfl hC rfl rfl ?_
  refine ex_go 80 rfl ?_
  refine ex_cv rfl rfl rfl rfl hT.1 rfl (d' := 0) (by omega) (c_hasMan hT hn) ?_
  cases hm : isM n m
  · refine ex_zeqT rfl (by decide) ?_
    refine ex_go 80 rfl ?_
    exact ex_iret rfl (cq_s hT hL)
  · obtain ⟨i, hi, rfl⟩ := isM_of hm (by omega)
    refine ex_zeqF rfl (by decide) ?_
    refine ex_go 80 rfl ?_
    refine ex_cs rfl rfl rfl (d' := 0) (by omega) (c_isWithin (k := 99) (by decide)) ?_
    show ev_X scr d cd_X5_goods _ _ [.int (nI (tb_b (isM 100 v)))] _ _
    cases hv : isM 100 v
    · refine ex_zneF rfl (by decide) ?_
      refine ex_go 80 rfl ?_
      exact ex_iret rfl (cq_s hT hL)
    · obtain ⟨j, hj, rfl⟩ := isM_of hv (by omega)
      rw [ix_nI (by omega), ix_nI (by omega), Bool.true_and, if_pos rfl, if_pos rfl]
      refine ex_zneT rfl (by decide) ?_
      refine ex_go 80 rfl ?_
      refine ex_getf rfl hC rfl rfl ?_
      refine ex_getf rfl hT.1 rfl rfl ?_
      refine ex_go 80 rfl ?_
      refine ex_ia _ rfl hT.2.2.2.1 rfl (by first | exact trivial | assumption | (show _ < _; omega)) (by omega) (by omega) rfl ?_
      refine ex_go 80 rfl ?_
      refine ex_getf rfl hC rfl rfl ?_
      refine ex_getf rfl hT.1 rfl rfl ?_
      refine ex_go 80 rfl ?_
      refine ex_is _ rfl hT.2.2.2.1 rfl (by omega) (by omega) (fun h1 hA1 hB1 => ?_)
      have hT1 := hT.u_stock hA1 hB1 (by omega) rfl
      refine ex_go 80 rfl ?_
      exact ex_iret rfl (cq_t hL hT1 (hB1.fr (by decide) (by decide)))
end CALLS
