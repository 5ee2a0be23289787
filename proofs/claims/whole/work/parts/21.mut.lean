/-! What changes a town. -/
theorem SB.tr {k : Nat} {h h1 h2 : ev_H} (x : SB k h h1) (y : SB k h1 h2) : SB k h h2 := ⟨y.1.trans x.1, fun j hj => (y.2 j hj).trans (x.2 j hj)⟩
theorem SB.rf {k : Nat} {h : ev_H} : SB k h h := ⟨rfl, fun _ _ => rfl⟩
def seF (f : Nat → Nat) (m t : Nat) : Nat → Nat := if f (5 * m) = 3 then up (up f (5 * m + 3) t) (5 * m) 0 else up f (5 * m + 3) t
def gvF (f : Nat → Nat) (m : Nat) : Nat → Nat := up (up (up f (5 * m + 3) 4) (5 * m) 3) 40 (tb_wo (f 40) (2 ^ m))
def exF (f : Nat → Nat) (i j : Nat) : Nat → Nat := up (up f (5 * i + 3) (f (5 * j + 3))) (5 * j + 3) (f (5 * i + 3))
def wb (b : Bool) (x i : Nat) : Nat := if b = true then x ||| 2 ^ i else tb_wo x (2 ^ i)
def kiF (f : Nat → Nat) (i j : Nat) (b : Bool) : Nat → Nat := up (up f (5 * i + 4) (wb b (f (5 * i + 4)) j)) (5 * j + 4) (wb b (f (5 * j + 4)) i)
def adF (f : Nat → Nat) (n k o s t : Nat) : Nat → Nat := up (up (up (up f (5 * n) k) (5 * n + 1) o) (5 * n + 2) s) (5 * n + 3) t
section MUT
variable {scr : List Int32} {d : Nat} {h : ev_H} {a n : Nat} {f : Nat → Nat}
theorem c_seat (hT : TA h a n f) (hn : n ≤ 8) {m t : Nat} (hm : m < n) (ht : t < 4) (gk : f (5 * m) ≤ 3) : ev_X scr d cd_X4_seat 0 [.ref a, .int (nI m), .int (nI t), .float 0] [] h (fun v h' => v = some (.int (tv (f (5 * m + 3)))) ∧ TA h' a n (seF f m t) ∧ FR a (a + 8) h h') := by
  refine ex_go 80 rfl ?_
  refine ex_getf rfl hT.1 rfl rfl ?_
  refine ex_go 80 rfl ?_
  refine ex_ia _ rfl hT.2.2.2.2.1 rfl (by first | exact trivial | assumption | (show _ < _; omega)) (by omega) (by omega) rfl ?_
  refine ex_go 80 rfl ?_
  refine ex_getf rfl hT.1 rfl rfl ?_
  refine ex_go 80 rfl ?_
  refine ex_is _ rfl hT.2.2.2.2.1 rfl (by omega) (by omega) (fun h1 hA1 hB1 => ?_)
  have hT1 := hT.u_tens hA1 hB1 (by omega) (tv_lt ht).symm
  have hF1 := hB1.fr (a := a) (b := a + 8) (by omega) (by omega)
  unfold seF
  refine ex_go 80 rfl ?_
  refine ex_getf rfl hT1.1 rfl rfl ?_
  refine ex_go 80 rfl ?_
  refine ex_ia _ rfl hT1.2.1 rfl (by first | exact trivial | assumption | (show _ < _; omega)) (by omega) (by omega) rfl ?_
  refine ex_go 80 rfl ?_
  refine ex_ine rfl (fun hc => ?_) (fun hc => ?_)
  · rw [up_ne (by omega)] at hc
    rw [if_neg (fun q => hc (by rw [q]; rfl))]
    refine ex_go 80 rfl ?_
    exact ex_iret rfl (⟨rfl, hT1, hF1⟩)
  · rw [up_ne (by omega)] at hc
    rw [if_pos ((nI_eq (b := 3) (by omega) (by decide)).mp hc)]
    refine ex_go 80 rfl ?_
    refine ex_getf rfl hT1.1 rfl rfl ?_
    refine ex_go 80 rfl ?_
    refine ex_is _ rfl hT1.2.1 rfl (by omega) (by omega) (fun h2 hA2 hB2 => ?_)
    have hT2 := hT1.u_kinds (v := 0) hA2 hB2 (by omega) rfl
    refine ex_go 80 rfl ?_
    exact ex_iret rfl (⟨rfl, hT2, hF1.tr (hB2.fr (by omega) (by omega))⟩)
theorem c_giveUp (hT : TA h a n f) (hn : n ≤ 8) {m : Nat} (hm : m < n) (hd : 1 ≤ d) : ev_X scr d cd_X4_giveUp 0 [.ref a, .int (nI m)] [] h (fun v h' => v = none ∧ TA h' a n (gvF f m) ∧ FR a (a + 8) h h') := by
  refine ex_go 80 rfl ?_
  refine ex_getf rfl hT.1 rfl rfl ?_
  refine ex_go 80 rfl ?_
  refine ex_is _ rfl hT.2.2.2.2.1 rfl (by omega) (by omega) (fun h1 hA1 hB1 => ?_)
  have hT1 := hT.u_tens (v := 4) hA1 hB1 (by omega) (by decide)
  have hF1 := hB1.fr (a := a) (b := a + 8) (by omega) (by omega)
  refine ex_go 80 rfl ?_
  refine ex_getf rfl hT1.1 rfl rfl ?_
  refine ex_go 80 rfl ?_
  refine ex_is _ rfl hT1.2.1 rfl (by omega) (by omega) (fun h2 hA2 hB2 => ?_)
  have hT2 := hT1.u_kinds (v := 3) hA2 hB2 (by omega) rfl
  have hF2 := hF1.tr (hB2.fr (by omega) (by omega))
  have e40 : up (up f (5 * m + 3) 4) (5 * m) 3 40 = f 40 := by rw [up_ne (by omega), up_ne (by omega)]
  refine ex_go 80 rfl ?_
  refine ex_getf rfl hT2.1 rfl rfl ?_
  refine ex_go 80 rfl ?_
  refine ex_cs rfl rfl rfl (d' := 0) (by omega) (c_withBit false (by omega)) ?_
  refine ex_pf rfl hT2.1 rfl rfl (fun h3 hO3 hB3 => ?_)
  have hT3 := hT2.f_40 (v := tb_wo (f 40) (2 ^ m)) hO3 hB3 (by rw [e40]; rfl)
  exact ex_vret rfl (⟨rfl, hT3, hF2.tr (hB3.fr (by omega) (by omega))⟩)
theorem c_exchange (hT : TA h a n f) (hn : n ≤ 8) {i j : Nat} (hi : i < n) (hj : j < n) : ev_X scr d cd_X4_exchange 0 [.ref a, .int (nI i), .int (nI j), .float 0] [] h (fun v h' => v = none ∧ TA h' a n (exF f i j) ∧ FR a (a + 8) h h') := by
  refine ex_go 80 rfl ?_
  refine ex_getf rfl hT.1 rfl rfl ?_
  refine ex_go 80 rfl ?_
  refine ex_ia _ rfl hT.2.2.2.2.1 rfl (by first | exact trivial | assumption | (show _ < _; omega)) (by omega) (by omega) rfl ?_
  refine ex_go 80 rfl ?_
  refine ex_getf rfl hT.1 rfl rfl ?_
  refine ex_go 80 rfl ?_
  refine ex_getf rfl hT.1 rfl rfl ?_
  refine ex_go 80 rfl ?_
  refine ex_ia _ rfl hT.2.2.2.2.1 rfl (by first | exact trivial | assumption | (show _ < _; omega)) (by omega) (by omega) rfl ?_
  refine ex_is _ rfl hT.2.2.2.2.1 rfl (by omega) (by omega) (fun h1 hA1 hB1 => ?_)
  have hT1 := hT.u_tens hA1 hB1 (by omega) rfl
  have hF1 := hB1.fr (a := a) (b := a + 8) (by omega) (by omega)
  refine ex_go 80 rfl ?_
  refine ex_getf rfl hT1.1 rfl rfl ?_
  refine ex_go 80 rfl ?_
  refine ex_is _ rfl hT1.2.2.2.2.1 rfl (by omega) (by omega) (fun h2 hA2 hB2 => ?_)
  have hT2 := hT1.u_tens hA2 hB2 (by omega) rfl
  exact ex_vret rfl (⟨rfl, hT2, hF1.tr (hB2.fr (by omega) (by omega))⟩)
theorem c_setKin (hT : TA h a n f) {i j : Nat} (hi : i < 8) (hj : j < 8) (hij : i ≠ j) (b : Bool) (hd : 1 ≤ d) : ev_X scr d cd_X4_setKin 0 [.ref a, .int (nI i), .int (nI j), .int (nI (tb_b b))] [] h (fun v h' => v = none ∧ TA h' a n (kiF f i j b) ∧ FR a (a + 8) h h') := by
  refine ex_go 80 rfl ?_
  refine ex_getf rfl hT.1 rfl rfl ?_
  refine ex_go 80 rfl ?_
  refine ex_getf rfl hT.1 rfl rfl ?_
  refine ex_go 80 rfl ?_
  refine ex_ia _ rfl hT.2.2.2.2.2.1 rfl (by first | exact trivial | assumption | (show _ < _; omega)) (by omega) (by omega) rfl ?_
  refine ex_go 80 rfl ?_
  refine ex_cs rfl rfl rfl (d' := 0) (by omega) (c_withBit b (by omega)) ?_
  refine ex_is _ rfl hT.2.2.2.2.2.1 rfl (by omega) (by omega) (fun h1 hA1 hB1 => ?_)
  have hT1 := hT.u_kins (v := wb b (f (5 * i + 4)) j) (hA1.congr (fun k hk hp => ⟨hp, rfl⟩)) hB1 (by omega) rfl
  have hF1 := hB1.fr (a := a) (b := a + 8) (by omega) (by omega)
  have e : up f (5 * i + 4) (wb b (f (5 * i + 4)) j) (5 * j + 4) = f (5 * j + 4) := up_ne (by omega)
  refine ex_go 80 rfl ?_
  refine ex_getf rfl hT1.1 rfl rfl ?_
  refine ex_go 80 rfl ?_
  refine ex_getf rfl hT1.1 rfl rfl ?_
  refine ex_go 80 rfl ?_
  refine ex_ia _ rfl hT1.2.2.2.2.2.1 rfl (by first | exact trivial | assumption | (show _ < _; omega)) (by omega) (by omega) rfl ?_
  refine ex_go 80 rfl ?_
  refine ex_cs rfl rfl rfl (d' := 0) (by omega) (c_withBit b (by omega)) ?_
  refine ex_is _ rfl hT1.2.2.2.2.2.1 rfl (by omega) (by omega) (fun h2 hA2 hB2 => ?_)
  have hT2 := hT1.u_kins (v := wb b (f (5 * j + 4)) i) (hA2.congr (fun k hk hp => ⟨hp, rfl⟩)) hB2 (by omega) (by rw [e]; rfl)
  exact ex_vret rfl (⟨rfl, hT2, hF1.tr (hB2.fr (by omega) (by omega))⟩)
theorem c_addMan (hT : TA h a n f) (hn : n < 8) {k o s t : Nat} {ti : Int32} (ht : ti = tv t) : ev_X scr d cd_X4_addMan 0 [.ref a, .int (nI k), .int (nI o), .int (nI s), .int ti] [] h (fun v h' => v = none ∧ TA h' a (n + 1) (adF f n k o s t) ∧ FR a (a + 8) h h') := by
  refine ex_go 80 rfl ?_
  refine ex_getf rfl hT.1 rfl rfl ?_
  refine ex_go 80 rfl ?_
  refine ex_getf rfl hT.1 rfl rfl ?_
  refine ex_go 80 rfl ?_
  refine ex_is _ rfl hT.2.1 rfl (by omega) (by omega) (fun h1 hA1 hB1 => ?_)
  have hT1 := hT.u_kinds hA1 hB1 (by omega) rfl
  refine ex_go 80 rfl ?_
  refine ex_getf rfl hT1.1 rfl rfl ?_
  refine ex_go 80 rfl ?_
  refine ex_getf rfl hT1.1 rfl rfl ?_
  refine ex_go 80 rfl ?_
  refine ex_is _ rfl hT1.2.2.1 rfl (by omega) (by omega) (fun h2 hA2 hB2 => ?_)
  have hT2 := hT1.u_odds hA2 hB2 (by omega) rfl
  refine ex_go 80 rfl ?_
  refine ex_getf rfl hT2.1 rfl rfl ?_
  refine ex_go 80 rfl ?_
  refine ex_getf rfl hT2.1 rfl rfl ?_
  refine ex_go 80 rfl ?_
  refine ex_is _ rfl hT2.2.2.2.1 rfl (by omega) (by omega) (fun h3 hA3 hB3 => ?_)
  have hT3 := hT2.u_stock hA3 hB3 (by omega) rfl
  refine ex_go 80 rfl ?_
  refine ex_getf rfl hT3.1 rfl rfl ?_
  refine ex_go 80 rfl ?_
  refine ex_getf rfl hT3.1 rfl rfl ?_
  refine ex_go 80 rfl ?_
  refine ex_is _ rfl hT3.2.2.2.2.1 rfl (by omega) (by omega) (fun h4 hA4 hB4 => ?_)
  have hT4 := hT3.u_tens hA4 hB4 (by omega) ht
  refine ex_go 80 rfl ?_
  refine ex_getf rfl hT4.1 rfl rfl ?_
  refine ex_go 80 rfl ?_
  try dsimp only
  try simp only [nI_inc, nI_1, nI_add, nI_mul2, tb_and, tb_or, tb_andn]
  refine ex_pf rfl hT4.1 rfl rfl (fun h5 hO5 hB5 => ?_)
  refine ex_vret rfl ⟨rfl, ?_, ((hB1.fr (a := a) (b := a + 8) (by omega) (by omega)).tr (hB2.fr (by omega) (by omega))).tr (((hB3.fr (by omega) (by omega)).tr (hB4.fr (by omega) (by omega))).tr (hB5.fr (by omega) (by omega)))⟩
  obtain ⟨hO, t1, t2, t3, t4, t5, t6, t7, t8⟩ := hT4
  refine ⟨?_, ((((hA1.sb hB2 (by omega)).sb hB3 (by omega)).sb hB4 (by omega)).sb hB5 (by omega)).congr ?_, (((hA2.sb hB3 (by omega)).sb hB4 (by omega)).sb hB5 (by omega)).congr ?_, ((hA3.sb hB4 (by omega)).sb hB5 (by omega)).congr ?_, (hA4.sb hB5 (by omega)).congr ?_, t5.sb hB5 (by omega), t6.sb hB5 (by omega), t7.sb hB5 (by omega), t8.sb hB5 (by omega)⟩
  · rw [hO5]
    rfl
  all_goals
    intro i hi hp
    refine ⟨by omega, ?_⟩
    by_cases c : i = n
    · rw [if_pos c, c]
      unfold adF
      simp [up, ht]
    · rw [if_neg c]
      unfold adF up
      simp (disch := omega) only [if_neg]
end MUT
