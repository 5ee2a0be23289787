/-! text: the model's next token. -/
def bA (tp : Nat → Nat) (tl p : Nat) : Int32 := if p < tl then nI (tp p) else -1
section MNEXT
variable {scr : List Int32} {d : Nat} {h : ev_H} {n : Nat} {q : Nat → Int32} {tp : Nat → Nat} {tl p : Nat}
theorem c_byteAt (hM : MO h n q) (hTp : IA h 64 160 (fun i => i < tl) (fun i => nI (tp i))) (hq : q 4 = nI tl) (ht : tl ≤ 160) (hp : p < 2 ^ 30) : ev_V scr d cd_X6_byteAt 0 [.ref 57, .int (nI p)] [] h (some (.int (bA tp tl p)), h) := by
  unfold bA
  refine ev_go 80 rfl ?_
  refine ev_getf rfl hM rfl rfl ?_
  rw [hq]
  by_cases c : p < tl
  · rw [if_pos c]
    refine ev_igeF rfl (nI_ge c (by omega)) ?_
    refine ev_go 80 rfl ?_
    refine ev_getf rfl hM rfl rfl ?_
    refine ev_go 80 rfl ?_
    refine ev_ia _ rfl hTp rfl (by first | exact trivial | assumption | (show _ < _; omega)) (by omega) (by omega) rfl ?_
    refine ev_go 80 rfl ?_
    exact ev_iret rfl
  · rw [if_neg c]
    refine ev_igeT rfl (nI_le (by omega) (by omega)) ?_
    refine ev_go 80 rfl ?_
    exact ev_iret rfl
def ndq (q : Nat → Int32) (b : Bool) (c : Int32) : Nat → Int32 := if b = false ∧ q 9 = 0 then ux (ux q 9 c) 10 (q 6) else q
theorem c_needs (hM : MO h n q) (b : Bool) {c : Int32} : ev_X scr d cd_X6_needs 0 [.ref 57, .int (nI (tb_b b)), .int c] [] h (fun v h' => v = none ∧ MO h' n (ndq q b c) ∧ SB 57 h h') := by
  unfold ndq
  cases b
  · refine ex_go 80 rfl ?_
    refine ex_zneF rfl (rfl) ?_
    refine ex_go 80 rfl ?_
    refine ex_getf rfl hM rfl rfl ?_
    by_cases c9 : q 9 = 0
    · rw [if_pos ⟨rfl, c9⟩]
      refine ex_zneF rfl (c9) ?_
      refine ex_go 80 rfl ?_
      refine ex_pf rfl hM rfl rfl (fun h1 hO1 hB1 => ?_)
      have hM1 : MO h1 n (ux q 9 c) := hO1
      refine ex_go 80 rfl ?_
      refine ex_getf rfl hM1 rfl rfl ?_
      refine ex_pf rfl hM1 rfl rfl (fun h2 hO2 hB2 => ?_)
      have hM2 : MO h2 n (ux (ux q 9 c) 10 (q 6)) := hO2
      exact ex_vret rfl (⟨rfl, hM2, hB1.tr hB2⟩)
    · rw [if_neg (fun z => c9 z.2)]
      refine ex_zneT rfl (c9) ?_
      exact ex_vret rfl (⟨rfl, hM, SB.rf⟩)
  · rw [if_neg (fun z => absurd z.1 (by decide))]
    refine ex_go 80 rfl ?_
    refine ex_zneT rfl (by decide) ?_
    exact ex_vret rfl (⟨rfl, hM, SB.rf⟩)
theorem c_inB (ht : tl ≤ 160) (hb : ∀ i, i < tl → tp i < 128) {lo hi : Nat} {l1 l2 : Int64} (e1 : l1.toInt = (lo : Int)) (e2 : l2.toInt = (hi : Int)) : ev_V scr d cd_X6_in 0 [.long (bA tp tl p).toInt64, .double 0, .long l1, .double 0, .long l2, .double 0] [] h (some (.int (nI (tb_b (decide (p < tl) && qB lo hi (tp p))))), h) := by
  have key : decide (l1 ≤ (bA tp tl p).toInt64 ∧ (bA tp tl p).toInt64 ≤ l2) = (decide (p < tl) && qB lo hi (tp p)) := by
    unfold bA qB
    by_cases c : p < tl
    · have := hb p c
      rw [if_pos c, decide_eq_true c, Bool.true_and]
      refine decide_eq_decide.mpr ?_
      rw [Int64.le_iff_toInt_le, Int64.le_iff_toInt_le, Int32.toInt_toInt64, nI_toInt (by omega), e1, e2]
      omega
    · rw [if_neg c, decide_eq_false c, Bool.false_and]
      refine decide_eq_false (fun z => ?_)
      have := z.1
      rw [Int64.le_iff_toInt_le, Int32.toInt_toInt64, e1, show (-1 : Int32).toInt = -1 by decide] at this
      omega
  rw [← key]
  exact c_in
theorem c_next0 (hM : MO h n q) (hf : 0 < q 9) : ev_X scr d cd_X6_next 0 [.ref 57, .float 0] [] h (fun v h' => v = none ∧ MO h' n q ∧ SB 57 h h') := by
  refine ex_go 80 rfl ?_
  refine ex_getf rfl hM rfl rfl ?_
  refine ex_zleF rfl (Int32.not_le.mpr hf) ?_
  exact ex_vret rfl (⟨rfl, hM, SB.rf⟩)
end MNEXT
