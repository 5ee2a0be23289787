/-! text: the words. -/
def wl : Nat → List Nat
  | 0 => [99, 97, 108, 109]
  | 1 => [113, 117, 97, 114, 114, 101, 108]
  | 2 => [115, 97, 105, 110, 116]
  | 3 => [119, 97, 110, 100, 101, 114]
  | 4 => [102, 105, 110, 101]
  | 5 => [119, 97, 116, 99, 104]
  | 6 => [109, 111, 115, 116]
  | _ => [107, 105, 110]
def wmA (tp : Nat → Nat) : Nat → List Nat → Bool
  | _, [] => true
  | s, c :: cs => decide (tp s = c) && wmA tp (s + 1) cs
def whA (tp : Nat → Nat) (s e w : Nat) : Bool := decide ((wl w).length = e - s) && wmA tp s (wl w)
def wdf (tp : Nat → Nat) (s e : Nat) : Nat → Nat → Nat
  | 0, _ => 8
  | k + 1, w => if whA tp s e w = true then w else wdf tp s e k (w + 1)
def wdA (tp : Nat → Nat) (s e : Nat) : Nat := wdf tp s e 8 0
def wI (x : Nat) : Int32 := if x = 8 then -1 else nI x
theorem w_8 {w : Nat} (hw : w < 8) : w = 0 ∨ w = 1 ∨ w = 2 ∨ w = 3 ∨ w = 4 ∨ w = 5 ∨ w = 6 ∨ w = 7 := by omega
theorem wl_7 {w : Nat} (hw : w < 8) : (wl w).length ≤ 7 := by
  rcases w_8 hw with rfl | rfl | rfl | rfl | rfl | rfl | rfl | rfl <;> decide
theorem wl_b {w : Nat} (hw : w < 8) : (Nat.blt 9 (w + 10) && Nat.blt (w + 10) 18) = true := by
  rcases w_8 hw with rfl | rfl | rfl | rfl | rfl | rfl | rfl | rfl <;> decide
theorem wl_c {w i : Nat} (hw : w < 8) (hi : i < 7) : (wl w).getD i 0 < 128 := by
  rcases w_8 hw with rfl | rfl | rfl | rfl | rfl | rfl | rfl | rfl <;> rcases (by omega : i = 0 ∨ i = 1 ∨ i = 2 ∨ i = 3 ∨ i = 4 ∨ i = 5 ∨ i = 6) with rfl | rfl | rfl | rfl | rfl | rfl | rfl <;> decide
theorem wdf_le {tp : Nat → Nat} {s e : Nat} : ∀ k w, k + w = 8 → wdf tp s e k w ≤ 8
  | 0, _, _ => Nat.le_refl _
  | k + 1, w, h => by
    rw [wdf]
    split
    · omega
    · exact wdf_le k (w + 1) (by omega)
theorem wd_le {tp : Nat → Nat} {s e : Nat} : wdA tp s e ≤ 8 := wdf_le 8 0 rfl
section WORD
variable {scr : List Int32} {d : Nat} {h : ev_H} {tp : Nat → Nat} {tl p : Nat} {y : Nat → Int32}
theorem c_slen {w : Nat} (hw : w < 8) : ev_V scr 3 cd_J0_length_8abf5 0 [.retAddr (w + 10)] [] h (some (.int (nI (wl w).length)), h) := by
  rcases w_8 hw with rfl | rfl | rfl | rfl | rfl | rfl | rfl | rfl <;> exact ⟨40, rfl⟩
theorem c_schar {w i : Nat} (hw : w < 8) (hi : i < (wl w).length) : ev_V scr 5 cd_J0_charAt_5068e 0 [.retAddr (w + 10), .int (nI i)] [] h (some (.int (nI ((wl w).getD i 0))), h) := by
  have h7 := wl_7 hw
  rcases w_8 hw with rfl | rfl | rfl | rfl | rfl | rfl | rfl | rfl <;> rcases (by omega : i = 0 ∨ i = 1 ∨ i = 2 ∨ i = 3 ∨ i = 4 ∨ i = 5 ∨ i = 6) with rfl | rfl | rfl | rfl | rfl | rfl | rfl <;> first | exact absurd hi (by decide) | exact ⟨60, rfl⟩
theorem c_wordOf {w : Nat} (hw : w < 8) : ev_V scr d cd_X3_wordOf 0 [.int (nI w)] [] h (some (.retAddr (w + 10)), h) := by
  rcases w_8 hw with rfl | rfl | rfl | rfl | rfl | rfl | rfl | rfl <;> exact ⟨10, rfl⟩
theorem wl_drop {w i : Nat} (hi : i < (wl w).length) : (wl w).drop i = (wl w).getD i 0 :: (wl w).drop (i + 1) := by
  rw [List.drop_eq_getElem_cons hi, List.getD_eq_getElem?_getD, List.getElem?_eq_getElem hi]
  rfl
theorem c_isHere (hO : TO h y) (hB : TP h tl tp) (ht : tl ≤ 160) (hb : ∀ i, i < tl → tp i < 128) {s e : Nat} (h4 : y 4 = nI e) (h6 : y 6 = nI s) (hse : s ≤ e) (he : e ≤ tl) {w : Nat} (hw : w < 8) (hd : 6 ≤ d) : ev_X scr d cd_X3_isHere 0 [.ref 23, .retAddr (w + 10), .float 0] [] h (fun v h' => v = some (.int (nI (tb_b (whA tp s e w)))) ∧ h' = h) := by
  have h7 := wl_7 hw
  have hbw := wl_b hw
  have L : e - s = (wl w).length → ev_X scr d cd_X3_isHere 12 [.ref 23, .retAddr (w + 10), .int (nI 0)] [] h (fun v h' => v = some (.int (nI (tb_b (wmA tp (s + 0) ((wl w).drop 0))))) ∧ h' = h) := by
    intro hes
    refine ev_loop (wl w).length (fun i => ev_X scr d cd_X3_isHere 12 [.ref 23, .retAddr (w + 10), .int (nI i)] [] h (fun v h' => v = some (.int (nI (tb_b (wmA tp (s + i) ((wl w).drop i))))) ∧ h' = h)) (fun i hi K => ?_) ?_
    · refine ex_nop rfl ?_
      refine ex_go 80 rfl ?_
      refine ex_ct rfl rfl rfl rfl hbw (d' := 3) (by omega) (c_slen hw) ?_
      refine ex_igeF rfl (nI_ge hi (by omega)) ?_
      refine ex_go 80 rfl ?_
      refine ex_getf rfl hO rfl rfl ?_
      refine ex_go 80 rfl ?_
      refine ex_getf rfl hO rfl rfl ?_
      rw [h6]
      refine ex_go 80 rfl ?_
      try dsimp only
      rw [nI_add]
      refine ex_ba (s + i) rfl hB (by decide) rfl (by show _ < _; omega) (by omega) (by omega) rfl ?_
      refine ex_go 80 rfl ?_
      refine ex_ct rfl rfl rfl rfl hbw (d' := 5) (by omega) (c_schar hw hi) ?_
      have hbi := hb (s + i) (by omega)
      have hci := wl_c hw (i := i) (by omega)
      rw [wl_drop hi, wmA]
      by_cases c : tp (s + i) = (wl w).getD i 0
      · rw [decide_eq_true c, Bool.true_and]
        refine ex_ieqT rfl (by rw [c]) ?_
        refine ex_go 80 rfl ?_
        try dsimp only
        try simp only [nI_inc, nI_1, nI_add, nI_mul2, tb_and, tb_or, tb_andn]
        exact K
      · rw [decide_eq_false c, Bool.false_and]
        refine ex_ieqF rfl (fun z => c ((nI_eq (by omega) (by omega)).mp z)) ?_
        refine ex_go 80 rfl ?_
        exact ex_tret rfl rfl (⟨rfl, rfl⟩)
    · refine ex_nop rfl ?_
      refine ex_go 80 rfl ?_
      refine ex_ct rfl rfl rfl rfl hbw (d' := 3) (by omega) (c_slen hw) ?_
      refine ex_igeT rfl (nI_le (Nat.le_refl _) (by omega)) ?_
      refine ex_go 80 rfl ?_
      refine ex_tret rfl rfl ⟨?_, rfl⟩
      rw [List.drop_length]
      rfl
  unfold whA
  refine ex_go 80 rfl ?_
  refine ex_ct rfl rfl rfl rfl hbw (d' := 3) (by omega) (c_slen hw) ?_
  refine ex_go 80 rfl ?_
  refine ex_getf rfl hO rfl rfl ?_
  refine ex_go 80 rfl ?_
  refine ex_getf rfl hO rfl rfl ?_
  refine ex_go 80 rfl ?_
  try dsimp only
  try simp only [nI_inc, nI_1, nI_add, nI_mul2, tb_and, tb_or, tb_andn]
  rw [h4, h6, pk_sub hse]
  by_cases c : (wl w).length = e - s
  · rw [decide_eq_true c, Bool.true_and]
    refine ex_ieqT rfl (by rw [c]) ?_
    refine ex_go 80 rfl ?_
    exact L c.symm
  · rw [decide_eq_false c, Bool.false_and]
    refine ex_ieqF rfl (fun z => c ((nI_eq (by omega) (by omega)).mp z)) ?_
    refine ex_go 80 rfl ?_
    exact ex_tret rfl rfl (⟨rfl, rfl⟩)
theorem c_wordHere (hO : TO h y) (hB : TP h tl tp) (ht : tl ≤ 160) (hb : ∀ i, i < tl → tp i < 128) {s e : Nat} (h4 : y 4 = nI e) (h6 : y 6 = nI s) (hse : s ≤ e) (he : e ≤ tl) (hd : 7 ≤ d) : ev_X scr d cd_X3_wordHere 0 [.ref 23, .float 0] [] h (fun v h' => v = some (.int (wI (wdA tp s e))) ∧ h' = h) := by
  have L : ev_X scr d cd_X3_wordHere 2 [.ref 23, .int (nI 0)] [] h (fun v h' => v = some (.int (wI (wdf tp s e (8 - 0) 0))) ∧ h' = h) := by
    refine ev_loop 8 (fun i => ev_X scr d cd_X3_wordHere 2 [.ref 23, .int (nI i)] [] h (fun v h' => v = some (.int (wI (wdf tp s e (8 - i) i))) ∧ h' = h)) (fun i hi K => ?_) ?_
    · skip
      refine ex_nop rfl ?_
      refine ex_go 80 rfl ?_
      refine ex_igeF rfl (nI_ge hi (by first | omega | decide)) ?_
      refine ex_go 80 rfl ?_
      refine ex_cs rfl rfl rfl (d' := 0) (by omega) (c_wordOf hi) ?_
      refine ex_cvx rfl rfl rfl rfl hO rfl (d' := 6) (by omega) (c_isHere (e := e) (s := s) hO hB ht hb h4 h6 hse he hi (Nat.le_refl _)) ?_
      rintro v1 h1 ⟨rfl, rfl⟩
      rw [show 8 - i = (8 - (i + 1)) + 1 by omega, wdf]
      cases c : whA tp s e i
      · rw [if_neg (by decide)]
        refine ex_zeqT rfl (by decide) ?_
        refine ex_go 80 rfl ?_
        try dsimp only
        try simp only [nI_inc, nI_1, nI_add, nI_mul2, tb_and, tb_or, tb_andn]
        exact K
      · rw [if_pos rfl]
        refine ex_zeqF rfl (by decide) ?_
        refine ex_go 80 rfl ?_
        refine ex_iret rfl ⟨?_, rfl⟩
        unfold wI
        rw [if_neg (by omega)]
    · refine ex_nop rfl ?_
      refine ex_go 80 rfl ?_
      refine ex_igeT rfl (nI_le (Nat.le_refl _) (by first | omega | decide)) ?_
      refine ex_go 80 rfl ?_
      exact ex_iret rfl (⟨rfl, rfl⟩)
  refine ex_go 80 rfl ?_
  exact L
end WORD
