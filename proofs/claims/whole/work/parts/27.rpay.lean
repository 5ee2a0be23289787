/-! The model pays, and changes. -/
/-- nothing but what the model writes on for itself is another -/
def RZ (h h' : ev_H) : Prop := h'.length = h.length ∧ ∀ j, j ≠ 59 → j ≠ 65 → h'[j]? = h[j]?
theorem RZ.rf {h : ev_H} : RZ h h := ⟨rfl, fun _ _ _ => rfl⟩
theorem RZ.tr {h h1 h2 : ev_H} (x : RZ h h1) (y : RZ h1 h2) : RZ h h2 := ⟨y.1.trans x.1, fun j a b => (y.2 j a b).trans (x.2 j a b)⟩
theorem SB.rz9 {h h' : ev_H} (x : SB 59 h h') : RZ h h' := ⟨x.1, fun j a _ => x.2 j a⟩
theorem SB.rz5 {h h' : ev_H} (x : SB 65 h h') : RZ h h' := ⟨x.1, fun j _ a => x.2 j a⟩
theorem IA.rz {h h' : ev_H} {k L : Nat} {P : Nat → Prop} {g : Nat → Int32} (x : IA h k L P g) (y : RZ h h') (a : k ≠ 59) (b : k ≠ 65) : IA h' k L P g := x.kept (y.2 k a b)
theorem RZ.mo {h h' : ev_H} {n : Nat} {q : Nat → Int32} (y : RZ h h') (x : MO h n q) : MO h' n q := (y.2 57 (by decide) (by decide)).trans x
theorem SB.mo {h h' : ev_H} {k n : Nat} {q : Nat → Int32} (y : SB k h h') (x : MO h n q) (hk : 57 ≠ k) : MO h' n q := (y.2 57 hk).trans x
def rvx (k v : Nat) : Int32 := if k % 5 = 3 ∧ k < 40 then tv v else nI v
theorem rvx_n {k v : Nat} (hk : ¬ (k % 5 = 3 ∧ k < 40)) : rvx k v = nI v := if_neg hk
theorem rvx_t {k v : Nat} (hk : k % 5 = 3 ∧ k < 40) : rvx k v = tv v := if_pos hk
theorem AT.st {h1 : ev_H} {f : Nat → Nat} {k v : Nat} {x : Int32} {P : Nat → Prop} (hA : IA h1 59 57 P (fun i => if i = k then x else rv f i)) (hP : ∀ i, P i) (hx : x = rvx k v) : AT h1 (up f k v) := hA.congr (fun i _ _ => ⟨hP i, by
  by_cases c : i = k
  · rw [if_pos c, hx, c, rv, up_eq]; rfl
  · rw [if_neg c, rv, rv, up_ne c]⟩)
theorem ST.st {h1 : ev_H} {f : Nat → Nat} {im : Nat → Int32} {k v : Nat} {x : Int32} {P : Nat → Prop} (hA : IA h1 58 171 P (fun i => if i = k then x else rs f im i)) (hP : ∀ i, P i) (hk : k < 57) (hx : x = rvx k v) : ST h1 (up f k v) im := hA.congr (fun i _ _ => ⟨hP i, by
  by_cases c : i = k
  · rw [if_pos c, hx, c, rs_lt hk, rv, up_eq]; rfl
  · rw [if_neg c, rs, rs, rv, rv, up_ne c]⟩)
theorem if01 {P Q : Prop} [Decidable P] [Decidable Q] (e : P ↔ ¬ Q) : (if P then (0 : Int32) else 1) = nI (tb_b (decide Q)) := by
  by_cases c : P
  · rw [if_pos c, decide_eq_false (e.mp c)]; rfl
  · rw [if_neg c, decide_eq_true (Classical.not_not.mp (fun q => c (e.mpr q)))]; rfl
theorem wo_comm (a b c : Nat) : tb_wo (tb_wo a b) c = tb_wo (tb_wo a c) b := by
  apply Nat.eq_of_testBit_eq
  intro i
  rw [tb_wo_bit, tb_wo_bit, tb_wo_bit, tb_wo_bit]
  cases a.testBit i <;> cases b.testBit i <;> cases c.testBit i <;> rfl
theorem pf_none {q r x : Nat} {g : Nat → Nat} : ∀ {n : Nat}, (∀ i, i < n → x.testBit i = false) → pf q r x g n = (g, 0, 0)
  | 0, _ => rfl
  | n + 1, h => by rw [pf_f (h n (Nat.lt_succ_self n)), pf_none (fun i hi => h i (Nat.lt_succ_of_lt hi))]
theorem sm_zero {g : Nat → Nat} : ∀ {n : Nat}, sm g n = 0 → ∀ i, i < n → g i = 0
  | 0, _, i, hi => absurd hi (Nat.not_lt_zero i)
  | n + 1, h, i, hi => by
    rw [sm] at h
    by_cases c : i = n
    · rw [c]; omega
    · exact sm_zero (n := n) (by omega) i (by omega)
theorem pc8_0 {x : Nat} (h : pc8 x = 0) {i : Nat} (hi : i < 8) : x.testBit i = false := by
  have := sm_zero h i hi
  cases c : x.testBit i
  · rfl
  · simp [c, tb_b] at this
/-- as far as payments go -/
def GP (n : Nat) (f : Nat → Nat) : Prop := n ≤ 8 ∧ (∀ m, m < n → f (5 * m + 3) ≤ 4) ∧ f 40 < 256 ∧ f 41 ≤ 99 ∧ f 42 ≤ 9
theorem GD.p {n : Nat} {f : Nat → Nat} (g : GD n f) : GP n f := ⟨g.1, fun m hm => (g.2.1 m hm).2.2.2.1, g.w, g.2.2.2.1, g.2.2.2.2.1⟩
def rn (n : Nat) (f g : Nat → Nat) (m : Nat) : (Nat → Nat) × Nat := if f (5 * m + 3) < 4 then pfm n f g m else (g, 0)
theorem rn_le (n : Nat) (f g : Nat → Nat) (m j : Nat) : (rn n f g m).1 j ≤ g j := by
  unfold rn
  split
  · exact pfm_le n f g m j
  · exact Nat.le_refl _
theorem fi_t {n : Nat} {f : Nat → Nat} {w : Nat} {g : Nat → Nat} {i : Nat} (h : w.testBit i = true) : fi n f w g (i + 1) = ((rn n f (fi n f w g i).1 i).1, (fi n f w g i).2 + (rn n f (fi n f w g i).1 i).2) := by
  rw [fi]
  unfold rn
  by_cases c : f (5 * i + 3) < 4
  · rw [if_pos ⟨h, c⟩, if_pos c]
  · rw [if_neg (fun q => c q.2), if_neg c]
    rfl
theorem fi_f {n : Nat} {f : Nat → Nat} {w : Nat} {g : Nat → Nat} {i : Nat} (h : w.testBit i = false) : fi n f w g (i + 1) = fi n f w g i := by
  rw [fi, if_neg (fun q => by rw [h] at q; exact absurd q.1 (by decide))]
abbrev FZ (h : ev_H) (g0 g : Nat → Nat) : Prop := IA h 65 8 (fun _ => True) (fun m => nI (g0 m - g m))
section RPAY
variable {scr : List Int32} {d : Nat} {h : ev_H} {n : Nat} {f g : Nat → Nat} {q : Nat → Int32} {im : Nat → Int32}
theorem c_becomesOf (hM : MO h n q) (hA : AT h f) {m w v : Nat} {x : Int32} (hm : m < 8) (hw : w < 5) (hx : x = rvx (5 * m + w) v) : ev_X scr d cd_X6_becomesOf 0 [.ref 57, .int (nI m), .int (nI w), .int x] [] h (fun r h' => r = none ∧ AT h' (up f (5 * m + w) v) ∧ SB 59 h h') := by
  refine ex_go 80 rfl ?_
  refine ex_getf rfl hM rfl rfl ?_
  refine ex_go 80 rfl ?_
  dsimp only
  rw [nI_x5, nI_add]
  refine ex_is (5 * m + w) rfl hA rfl (by omega) (by omega) (fun h1 hA1 hB1 => ?_)
  exact ex_vret rfl ⟨rfl, AT.st hA1 (fun _ => Or.inl trivial) hx, hB1⟩
theorem c_pay (hM : MO h n q) (hA : AT h (wg f g)) {m v : Nat} (hm : m < 8) (hv : v < 2 ^ 31) (hg : g m < 2 ^ 31) (hd : 1 ≤ d) : ev_X scr d cd_X6_pay 0 [.ref 57, .int (nI m), .int (nI v), .float 0] [] h (fun r h' => r = some (.int (nI (min v (g m)))) ∧ AT h' (wg f (tk g m v)) ∧ SB 59 h h') := by
  have e := wg_gd (f := f) (g := g) (m := m) hm
  have tail : ∀ x : Int32, x = nI (min v (g m)) → ev_X scr d cd_X6_pay 12 [.ref 57, .int (nI m), .int (nI v), .float 0] [.int x] h (fun r h' => r = some (.int (nI (min v (g m)))) ∧ AT h' (wg f (tk g m v)) ∧ SB 59 h h') := by
    intro x hx
    subst hx
    refine ex_go 80 rfl ?_
    refine ex_cv rfl rfl rfl rfl hM rfl (d' := 0) (by omega) (c_of2 hM hA hm) ?_
    rw [e]
    refine ex_go 80 rfl ?_
    dsimp only
    rw [pk_sub (Nat.min_le_right _ _)]
    refine ex_cvx rfl rfl rfl rfl hM rfl (d' := 0) (by omega) (c_becomesOf (w := 2) (v := g m - min v (g m)) hM hA hm (by decide) (rvx_n (by omega)).symm) ?_
    rintro v1 h1 ⟨rfl, hA1, hB1⟩
    rw [wg_up hm] at hA1
    refine ex_go 80 rfl ?_
    exact ex_iret rfl (⟨rfl, hA1, hB1⟩)
  refine ex_go 80 rfl ?_
  refine ex_cv rfl rfl rfl rfl hM rfl (d' := 0) (by omega) (c_of2 hM hA hm) ?_
  rw [e]
  refine ex_ige rfl (fun hc => ?_) (fun hc => ?_)
  · refine ex_go 80 rfl ?_
    refine ex_cv rfl rfl rfl rfl hM rfl (d' := 0) (by omega) (c_of2 hM hA hm) ?_
    rw [e]
    exact tail _ (by rw [Nat.min_eq_right ((nI_leI hg hv).mp hc)])
  · refine ex_go 2 rfl ?_
    exact tail _ (by rw [Nat.min_eq_left (Nat.le_of_lt (Nat.lt_of_not_le (fun c => hc ((nI_leI hg hv).mpr c))))])
theorem c_runs {Q : Option Value → ev_H → Prop} {g0 : Nat → Nat} (hM : MO h n q) (hA : AT h (wg f g)) (hFi : FZ h g0 g) (hg0 : ∀ j, g j ≤ g0 j) (gp : GP n f) (hg : ∀ j, j < n → g0 j < 2 ^ 31) {m : Nat} (hm : m < n) (hQ : Q = fun r h' => r = some (.int (nI (rn n f g m).2)) ∧ AT h' (wg f (rn n f g m).1) ∧ FZ h' g0 (rn n f g m).1 ∧ RZ h h') (hd : 2 ≤ d) : ev_X scr d cd_X6_runs 0 [.ref 57, .int (nI m), .float 0, .float 0, .float 0, .float 0, .float 0, .float 0] [] h Q := by
  have hn := gp.1
  have ht4 := gp.2.1 m hm
  have h41 := gp.2.2.2.1
  have e3 : ∀ j, wg f g (5 * j + 3) = f (5 * j + 3) := fun j => wg_ne (by omega)
  have e4 : wg f g (5 * m + 4) = f (5 * m + 4) := wg_ne (by omega)
  have e41 : ∀ g', wg f g' 41 = f 41 := fun g' => wg_ne (by decide)
  refine ex_go 80 rfl ?_
  refine ex_cv rfl rfl rfl rfl hM rfl (d' := 0) (by omega) (c_of3 hM hA (by omega)) ?_
  rw [e3]
  refine ex_go 80 rfl ?_
  refine ex_ine rfl (fun hc => ?_) (fun hc => ?_)
  · rw [tv_m4 ht4] at hc
    have ht : f (5 * m + 3) < 4 := by omega
    unfold rn at hQ
    rw [if_pos ht] at hQ
    refine ex_go 80 rfl ?_
    refine ex_cv rfl rfl rfl rfl hM rfl (d' := 0) (by omega) (c_of3 hM hA (by omega)) ?_
    rw [e3, tv_lt ht]
    refine ex_cv rfl rfl rfl rfl hM rfl (d' := 1) (by omega) (c_menOf hM hA hn ht (Nat.le_refl _)) ?_
    rw [wg_bs]
    refine ex_go 80 rfl ?_
    dsimp only
    rw [tb_sh1 m (by omega), tb_andn]
    refine ex_cv rfl rfl rfl rfl hM rfl (d' := 0) (by omega) (c_of4 hM hA (by omega)) ?_
    rw [e4]
    refine ex_go 80 rfl ?_
    dsimp only
    rw [tb_andn, wo_comm]
    have hx : pyr n f m < 256 := by
      unfold pyr
      refine Nat.lt_of_le_of_lt ?_ (bs_256 (fun j => decide (f (5 * j + 3) = f (5 * m + 3))) hn)
      refine Nat.le_trans (m := tb_wo (bs (fun j => decide (f (5 * j + 3) = f (5 * m + 3))) n) (f (5 * m + 4))) ?_ ?_ <;> exact tb_wo_le _ _
    show ev_X scr d _ _ [.ref 57, .int (nI m), .int (nI (pyr n f m)), .float 0, .float 0, .float 0, .float 0, .float 0] [.int (nI (pyr n f m))] _ _
    refine ex_cs rfl rfl rfl (d' := 0) (by omega) (c_bitsOf (by omega)) ?_
    have hp8 := pc8_le (pyr n f m)
    have tail : ∀ r : Nat, r < 2 ^ 30 → (pc8 (pyr n f m) ≠ 0 → r = f 41 % pc8 (pyr n f m)) → ev_X scr d cd_X6_runs 43 [.ref 57, .int (nI m), .int (nI (pyr n f m)), .int (nI (pc8 (pyr n f m))), .int (nI 0), .float 0, .float 0, .float 0] [.int (nI r)] h Q := by
      intro r hr hrc
      have hQ2 : Q = fun v h' => v = some (.int (nI (pf (f 41 / pc8 (pyr n f m)) r (pyr n f m) g n).2.1)) ∧ AT h' (wg f (pf (f 41 / pc8 (pyr n f m)) r (pyr n f m) g n).1) ∧ FZ h' g0 (pf (f 41 / pc8 (pyr n f m)) r (pyr n f m) g n).1 ∧ RZ h h' := by
        rw [hQ]
        unfold pfm
        by_cases c : pc8 (pyr n f m) = 0
        · rw [if_pos c, pf_none (fun i hi => pc8_0 c (by omega))]
        · rw [if_neg c, hrc c]
      have hdv : pc8 (pyr n f m) ≠ 0 → nI (f 41) / nI (pc8 (pyr n f m)) = nI (f 41 / pc8 (pyr n f m)) := fun c => pk_div (by omega) (by omega) (by omega)
      have hqq : f 41 / pc8 (pyr n f m) ≤ 99 := Nat.le_trans (Nat.div_le_self _ _) h41
      have hbit : ∀ i, i < 8 → (pyr n f m).testBit i = true → pc8 (pyr n f m) ≠ 0 := fun i hi hb c => by rw [pc8_0 c hi] at hb; exact absurd hb (by decide)
      generalize f 41 / pc8 (pyr n f m) = u at *
      refine ex_go 80 rfl ?_
      rw [show nI r = nI r - nI 0 by rw [pk_sub (Nat.zero_le _)]; rfl]
      refine ev_loop n (fun i => ∀ h1, AT h1 (wg f (pf u r (pyr n f m) g i).1) → FZ h1 g0 (pf u r (pyr n f m) g i).1 → RZ h h1 → ev_X scr d cd_X6_runs 46 [.ref 57, .int (nI m), .int (nI (pyr n f m)), .int (nI (pc8 (pyr n f m))), .int (nI (pf u r (pyr n f m) g i).2.1), .int (nI r - nI (pf u r (pyr n f m) g i).2.2), .int (nI i), .float 0] [] h1 Q) (fun i hi K h1 hA1 hFi1 hZ1 => ?_) (fun h1 hA1 hFi1 hZ1 => ?_) h hA hFi RZ.rf
      · have hM1 := hZ1.mo hM
        have hci := pf_c u r (pyr n f m) g i
        have hgi : (pf u r (pyr n f m) g i).1 i ≤ g0 i := Nat.le_trans (pf_le _ _ _ _ _ _) (hg0 i)
        have hgl := hg i hi
        refine ex_nop rfl ?_
        refine ex_go 80 rfl ?_
        refine ex_getf rfl hM1 rfl rfl ?_
        refine ex_igeF rfl (nI_ge hi (by first | omega | decide)) ?_
        refine ex_go 80 rfl ?_
        try dsimp only
        try simp only [nI_inc, nI_1, nI_add, nI_mul2, tb_and, tb_or, tb_andn, nI_x5, nI_x2, nI_p0, nI_p2, nI_p3, nI_p4, nI_q45]
        refine ex_ine rfl (fun hc => ?_) (fun hc => ?_)
        · rw [tb_b1' (by omega) (by omega)] at hc
          rw [pf_f (by simpa using hc)] at K
          refine ex_go 80 rfl ?_
          try dsimp only
          try simp only [nI_inc, nI_1, nI_add, nI_mul2, tb_and, tb_or, tb_andn, nI_x5, nI_x2, nI_p0, nI_p2, nI_p3, nI_p4, nI_q45]
          exact K h1 hA1 hFi1 hZ1
        · rw [tb_b1' (by omega) (by omega)] at hc
          have hcn := hbit i (by omega) hc
          rw [pf_t hc] at K
          have hpd : pfd u r (pf u r (pyr n f m) g i).2.2 < 2 ^ 31 := by unfold pfd; split <;> omega
          refine ex_go 80 rfl ?_
          refine ex_getf rfl hM1 rfl rfl ?_
          refine ex_go 80 rfl ?_
          refine ex_ia 41 rfl hA1 rfl (by first | exact trivial | assumption | (show _ < _; omega)) (by omega) (by omega) rfl ?_
          simp (disch := omega) only [rv_0, rv_1, rv_2, rv_3, rv_4, rv_40, rv_41, rv_42, rv_43, rv_44]
          refine ex_go 80 rfl ?_
          rw [e41]
          refine ex_idiv (v := nI u) rfl (nI_ne0 (by omega) (by omega)) (hdv hcn) ?_
          refine ex_go 80 rfl ?_
          refine ex_zleM 1 2 71 (v := nI (tb_b (decide ((pf u r (pyr n f m) g i).2.2 < r)))) rfl rfl rfl (if01 (un_le hr (by omega))) ?_
          refine ex_cs rfl rfl rfl (d' := 0) (by omega) (c_flag) ?_
          refine ex_go 80 rfl ?_
          dsimp only
          rw [nI_add]
          have epf : u + tb_b (decide ((pf u r (pyr n f m) g i).2.2 < r)) = pfd u r (pf u r (pyr n f m) g i).2.2 := by
            unfold pfd tb_b
            simp
          rw [epf]
          generalize (pf u r (pyr n f m) g i).2.2 = cc at *
          generalize (pf u r (pyr n f m) g i).2.1 = ss at *
          generalize (pf u r (pyr n f m) g i).1 = gi at *
          refine ex_cvx rfl rfl rfl rfl hM1 rfl (d' := 1) (by omega) (c_pay hM1 hA1 (by omega) hpd (by omega) (Nat.le_refl _)) ?_
          rintro v2 h2 ⟨rfl, hA2, hB2⟩
          have hM2 := hB2.mo hM1 (by decide)
          have hFi2 := hFi1.sb hB2 (by decide)
          refine ex_go 80 rfl ?_
          refine ex_getf rfl hM2 rfl rfl ?_
          refine ex_go 80 rfl ?_
          refine ex_ia i rfl hFi2 rfl trivial (by omega) (by omega) rfl ?_
          refine ex_go 80 rfl ?_
          dsimp only
          rw [nI_add]
          refine ex_is i rfl hFi2 rfl (by omega) (by omega) (fun h3 hA3 hB3 => ?_)
          refine ex_go 80 rfl ?_
          dsimp only
          rw [nI_add, nI_inc, un_dec]
          have hFi3 : FZ h3 g0 (tk gi i (pfd u r cc)) := hA3.congr (fun j _ _ => ⟨Or.inl trivial, by
            by_cases c : j = i
            · rw [if_pos c, c]
              congr 1
              unfold tk
              rw [up_eq]
              omega
            · rw [if_neg c]
              unfold tk
              rw [up_ne c]⟩)
          exact ex_weak (K h3 (hA2.sb hB3 (by decide)) hFi3 ((hZ1.tr hB2.rz9).tr hB3.rz5)) (by repeat (first | exact W_n | refine W_e ?_ | refine W_i ?_ | refine W_r ?_))
      · have hM1 := hZ1.mo hM
        refine ex_nop rfl ?_
        refine ex_go 80 rfl ?_
        refine ex_getf rfl hM1 rfl rfl ?_
        refine ex_igeT rfl (nI_le (Nat.le_refl _) (by first | omega | decide)) ?_
        refine ex_go 80 rfl ?_
        exact ex_iret rfl (by rw [hQ2]; exact ⟨rfl, hA1, hFi1, hZ1⟩)
    refine ex_go 80 rfl ?_
    refine ex_zne rfl (fun hz => ?_) (fun hz => ?_)
    · have h0 : pc8 (pyr n f m) ≠ 0 := fun c => hz (by rw [c]; rfl)
      refine ex_go 80 rfl ?_
      refine ex_getf rfl hM rfl rfl ?_
      refine ex_go 80 rfl ?_
      refine ex_ia 41 rfl hA rfl (by first | exact trivial | assumption | (show _ < _; omega)) (by omega) (by omega) rfl ?_
      simp (disch := omega) only [rv_0, rv_1, rv_2, rv_3, rv_4, rv_40, rv_41, rv_42, rv_43, rv_44]
      refine ex_go 80 rfl ?_
      rw [e41]
      refine ex_irem (v := nI (f 41 % pc8 (pyr n f m))) rfl (hz) (pk_rem (by omega) (by omega) (by omega)) ?_
      exact tail (f 41 % pc8 (pyr n f m)) (Nat.lt_of_le_of_lt (Nat.mod_le _ _) (by omega)) (fun _ => rfl)
    · refine ex_go 2 rfl ?_
      exact tail 0 (by decide) (fun c => absurd ((nI_eq (b := 0) (by omega) (by decide)).mp hz) c)
  · rw [tv_m4 ht4] at hc
    unfold rn at hQ
    rw [if_neg (by omega)] at hQ
    refine ex_go 80 rfl ?_
    exact ex_iret rfl (by rw [hQ]; exact ⟨rfl, hA, hFi, RZ.rf⟩)
theorem c_watches {Q : Option Value → ev_H → Prop} (hM : MO h n q) (hA : AT h (wg f g)) (gp : GP n f) (hg : ∀ j, j < n → g j < 2 ^ 31) {t : Nat} (ht : t < 4) (hQ : Q = fun r h' => r = some (.int (nI (cot n f g t).2.2)) ∧ AT h' (wg f (cot n f g t).1) ∧ SB 59 h h') (hd : 2 ≤ d) : ev_X scr d cd_X6_watches 0 [.ref 57, .int (nI t), .float 0, .float 0, .float 0, .float 0, .float 0] [] h Q := by
  have hn := gp.1
  have h42 := gp.2.2.2.2
  have e42 : wg f g 42 = f 42 := wg_ne (by decide)
  have e40 : wg f g 40 = f 40 := wg_ne (by decide)
  have hbx := bs_256 (fun m => decide (f (5 * m + 3) = t)) hn
  refine ex_go 80 rfl ?_
  refine ex_cv rfl rfl rfl rfl hM rfl (d' := 1) (by omega) (c_menOf hM hA hn ht (Nat.le_refl _)) ?_
  rw [wg_bs]
  refine ex_go 80 rfl ?_
  refine ex_getf rfl hM rfl rfl ?_
  refine ex_go 80 rfl ?_
  refine ex_ia 42 rfl hA rfl (by first | exact trivial | assumption | (show _ < _; omega)) (by omega) (by omega) rfl ?_
  simp (disch := omega) only [rv_0, rv_1, rv_2, rv_3, rv_4, rv_40, rv_41, rv_42, rv_43, rv_44]
  refine ex_go 80 rfl ?_
  refine ex_getf rfl hM rfl rfl ?_
  refine ex_go 80 rfl ?_
  refine ex_ia 40 rfl hA rfl (by first | exact trivial | assumption | (show _ < _; omega)) (by omega) (by omega) rfl ?_
  simp (disch := omega) only [rv_0, rv_1, rv_2, rv_3, rv_4, rv_40, rv_41, rv_42, rv_43, rv_44]
  refine ex_go 80 rfl ?_
  try dsimp only
  try simp only [nI_inc, nI_1, nI_add, nI_mul2, tb_and, tb_or, tb_andn, nI_x5, nI_x2, nI_p0, nI_p2, nI_p3, nI_p4, nI_q45]
  rw [e42, e40]
  refine ex_cs rfl rfl rfl (d' := 0) (by omega) (c_bitsOf (Nat.lt_trans (and256 hbx) (by decide))) ?_
  rw [pc8_bsa _ _ hn]
  have hwc : wct n f t ≤ 8 := by
    have := sm_le (g := fun m => tb_b (decide (f (5 * m + 3) = t) && (f 40).testBit m)) (c := 1) (n := n) (fun i _ => tb_le _)
    unfold wct
    omega
  have hl0 : f 42 * wct n f t < 2 ^ 31 := Nat.lt_of_le_of_lt (Nat.mul_le_mul h42 hwc) (by decide)
  unfold cot at hQ
  refine ex_go 80 rfl ?_
  try dsimp only
  try simp only [nI_inc, nI_1, nI_add, nI_mul2, tb_and, tb_or, tb_andn, nI_x5, nI_x2, nI_p0, nI_p2, nI_p3, nI_p4, nI_q45]
  show ev_X scr d cd_X6_watches 21 [.ref 57, .int (nI t), .int (nI (bs (fun m => decide (f (5 * m + 3) = t)) n)), .int (nI (f 42 * wct n f t)), .int 0, .int 0, .float 0] [] h _
  generalize bs (fun m => decide (f (5 * m + 3) = t)) n = x at *
  generalize f 42 * wct n f t = l at *
  refine ev_loop n (fun i => ∀ h1, AT h1 (wg f (cs x l g i).1) → SB 59 h h1 → ev_X scr d cd_X6_watches 21 [.ref 57, .int (nI t), .int (nI x), .int (nI (cs x l g i).2.1), .int (nI (cs x l g i).2.2), .int (nI i), .float 0] [] h1 Q) (fun i hi K h1 hA1 hB1 => ?_) (fun h1 hA1 hB1 => ?_) h hA SB.rf
  · have hM1 := hB1.mo hM (by decide)
    have hli := cs_l x l g i
    have hgi : (cs x l g i).1 i < 2 ^ 31 := Nat.lt_of_le_of_lt (cs_le _ _ _ _ _) (hg i hi)
    refine ex_nop rfl ?_
    refine ex_go 80 rfl ?_
    refine ex_getf rfl hM1 rfl rfl ?_
    refine ex_igeF rfl (nI_ge hi (by first | omega | decide)) ?_
    refine ex_go 80 rfl ?_
    try dsimp only
    try simp only [nI_inc, nI_1, nI_add, nI_mul2, tb_and, tb_or, tb_andn, nI_x5, nI_x2, nI_p0, nI_p2, nI_p3, nI_p4, nI_q45]
    refine ex_ine rfl (fun hc => ?_) (fun hc => ?_)
    · rw [tb_b1' (by omega) (by omega)] at hc
      rw [cs_f (by simpa using hc)] at K
      refine ex_go 80 rfl ?_
      try dsimp only
      try simp only [nI_inc, nI_1, nI_add, nI_mul2, tb_and, tb_or, tb_andn, nI_x5, nI_x2, nI_p0, nI_p2, nI_p3, nI_p4, nI_q45]
      exact K h1 hA1 hB1
    · rw [tb_b1' (by omega) (by omega)] at hc
      rw [cs_t hc] at K
      refine ex_go 80 rfl ?_
      refine ex_cvx rfl rfl rfl rfl hM1 rfl (d' := 1) (by omega) (c_pay hM1 hA1 (by omega) (by omega) hgi (Nat.le_refl _)) ?_
      rintro v2 h2 ⟨rfl, hA2, hB2⟩
      refine ex_go 80 rfl ?_
      dsimp only
      rw [pk_sub (Nat.min_le_left _ _), nI_add, nI_inc]
      exact ex_weak (K h2 hA2 (hB1.tr hB2)) (by repeat (first | exact W_n | refine W_e ?_ | refine W_i ?_ | refine W_r ?_))
  · have hM1 := hB1.mo hM (by decide)
    refine ex_nop rfl ?_
    refine ex_go 80 rfl ?_
    refine ex_getf rfl hM1 rfl rfl ?_
    refine ex_igeT rfl (nI_le (Nat.le_refl _) (by first | omega | decide)) ?_
    refine ex_go 80 rfl ?_
    exact ex_iret rfl (by rw [hQ]; exact ⟨rfl, hA1, hB1⟩)
theorem c_yearGoes {P : Nat → Prop} {z : Nat → Int32} (hM : MO h n q) (hA : AT h (wg f g)) (hI : IA h 65 8 P z) (gp : GP n f) (hg : ∀ j, j < n → g j < 2 ^ 31) {w : Nat} (hw : w < 2 ^ 31) (hd : 3 ≤ d) : ev_X scr d cd_X6_yearGoes 0 [.ref 57, .int (nI w), .float 0, .float 0] [] h (fun r h' => r = some (.int (nI (yr n f g w).2)) ∧ AT h' (up (wg f (yr n f g w).1) 43 (f 43 + 1)) ∧ FZ h' g (fi n f w g n).1 ∧ RZ h h') := by
  have hn := gp.1
  refine ex_go 80 rfl ?_
  refine ev_loop 8 (fun i => ∀ h1, IA h1 65 8 (fun k => k < i ∧ True) (fun m => nI (g m - g m)) → SB 65 h h1 → ev_X scr d cd_X6_yearGoes 4 [.ref 57, .int (nI w), .int 0, .int (nI i)] [] h1 _) (fun i hi K h1 hA1 hB1 => ?_) (fun h1 hA1 hB1 => ?_) h hI.none SB.rf
  · have hM1 := hB1.mo hM (by decide)
    refine ex_nop rfl ?_
    refine ex_go 80 rfl ?_
    refine ex_igeF rfl (nI_ge hi (by first | omega | decide)) ?_
    refine ex_go 80 rfl ?_
    refine ex_getf rfl hM1 rfl rfl ?_
    refine ex_go 80 rfl ?_
    refine ex_is _ rfl hA1 rfl (by omega) (by omega) (fun h2 hA2 hB2 => ?_)
    refine ex_go 80 rfl ?_
    try dsimp only
    try simp only [nI_inc, nI_1, nI_add, nI_mul2, tb_and, tb_or, tb_andn, nI_x5, nI_x2, nI_p0, nI_p2, nI_p3, nI_p4, nI_q45]
    exact K h2 (hA2.grow (fun _ => by rw [Nat.sub_self]; rfl)) (hB1.tr hB2)
  · have hM1 := hB1.mo hM (by decide)
    have hAt1 := hA.sb hB1 (by decide)
    have hFi1 := hA1.full
    have hZ1 := hB1.rz5
    clear hA1 hB1
    refine ex_nop rfl ?_
    refine ex_go 80 rfl ?_
    refine ex_igeT rfl (nI_le (Nat.le_refl _) (by first | omega | decide)) ?_
    refine ex_go 80 rfl ?_
    refine ev_loop n (fun i => ∀ h2, AT h2 (wg f (fi n f w g i).1) → FZ h2 g (fi n f w g i).1 → RZ h h2 → ev_X scr d cd_X6_yearGoes 17 [.ref 57, .int (nI w), .int (nI (fi n f w g i).2), .int (nI i)] [] h2 _) (fun i hi K h2 hA2 hFi2 hZ2 => ?_) (fun h2 hA2 hFi2 hZ2 => ?_) h1 hAt1 hFi1 hZ1
    · have hM2 := hZ2.mo hM
      refine ex_nop rfl ?_
      refine ex_go 80 rfl ?_
      refine ex_getf rfl hM2 rfl rfl ?_
      refine ex_igeF rfl (nI_ge hi (by first | omega | decide)) ?_
      refine ex_go 80 rfl ?_
      try dsimp only
      try simp only [nI_inc, nI_1, nI_add, nI_mul2, tb_and, tb_or, tb_andn, nI_x5, nI_x2, nI_p0, nI_p2, nI_p3, nI_p4, nI_q45]
      refine ex_ine rfl (fun hc => ?_) (fun hc => ?_)
      · rw [tb_b1' (by omega) (by omega)] at hc
        rw [fi_f (by simpa using hc)] at K
        refine ex_go 80 rfl ?_
        dsimp only
        rw [show (0 : Int32) = nI 0 from rfl, nI_add, nI_inc]
        exact K h2 hA2 hFi2 hZ2
      · rw [tb_b1' (by omega) (by omega)] at hc
        rw [fi_t hc] at K
        refine ex_go 80 rfl ?_
        refine ex_cvx rfl rfl rfl rfl hM2 rfl (d' := 2) (by omega) (c_runs hM2 hA2 hFi2 (fun j => fi_le _ _ _ _ _ _) gp hg hi rfl (Nat.le_refl _)) ?_
        rintro v3 h3 ⟨rfl, hA3, hFi3, hZ3⟩
        refine ex_go 80 rfl ?_
        try dsimp only
        try simp only [nI_inc, nI_1, nI_add, nI_mul2, tb_and, tb_or, tb_andn, nI_x5, nI_x2, nI_p0, nI_p2, nI_p3, nI_p4, nI_q45]
        exact K h3 hA3 hFi3 (hZ2.tr hZ3)
    · have hM2 := hZ2.mo hM
      refine ex_nop rfl ?_
      refine ex_go 80 rfl ?_
      refine ex_getf rfl hM2 rfl rfl ?_
      refine ex_igeT rfl (nI_le (Nat.le_refl _) (by first | omega | decide)) ?_
      refine ex_go 80 rfl ?_
      refine ev_loop 4 (fun t => ∀ h3, AT h3 (wg f (co n f (fi n f w g n).1 t).1) → SB 59 h2 h3 → ev_X scr d cd_X6_yearGoes 41 [.ref 57, .int (nI w), .int (nI ((fi n f w g n).2 + (co n f (fi n f w g n).1 t).2)), .int (nI t)] [] h3 _) (fun t ht K h3 hA3 hB3 => ?_) (fun h3 hA3 hB3 => ?_) h2 hA2 SB.rf
      · have hM3 := hB3.mo hM2 (by decide)
        refine ex_nop rfl ?_
        refine ex_go 80 rfl ?_
        refine ex_igeF rfl (nI_ge ht (by decide)) ?_
        refine ex_go 80 rfl ?_
        refine ex_cvx rfl rfl rfl rfl hM3 rfl (d' := 2) (by omega) (c_watches hM3 hA3 gp (fun j hj => Nat.lt_of_le_of_lt (co_le _ _ _ _ _) (Nat.lt_of_le_of_lt (fi_le _ _ _ _ _ _) (hg j hj))) ht rfl (Nat.le_refl _)) ?_
        rintro v4 h4 ⟨rfl, hA4, hB4⟩
        refine ex_go 80 rfl ?_
        try dsimp only
        try simp only [nI_inc, nI_1, nI_add, nI_mul2, tb_and, tb_or, tb_andn, nI_x5, nI_x2, nI_p0, nI_p2, nI_p3, nI_p4, nI_q45]
        rw [Nat.add_assoc]
        exact K h4 hA4 (hB3.tr hB4)
      · have hM3 := hB3.mo hM2 (by decide)
        refine ex_nop rfl ?_
        refine ex_go 80 rfl ?_
        refine ex_igeT rfl (nI_le (Nat.le_refl _) (by first | omega | decide)) ?_
        refine ex_go 80 rfl ?_
        refine ex_getf rfl hM3 rfl rfl ?_
        refine ex_go 80 rfl ?_
        refine ex_ia 43 rfl hA3 rfl (by first | exact trivial | assumption | (show _ < _; omega)) (by omega) (by omega) rfl ?_
        simp (disch := omega) only [rv_0, rv_1, rv_2, rv_3, rv_4, rv_40, rv_41, rv_42, rv_43, rv_44]
        refine ex_go 80 rfl ?_
        try dsimp only
        try simp only [nI_inc, nI_1, nI_add, nI_mul2, tb_and, tb_or, tb_andn, nI_x5, nI_x2, nI_p0, nI_p2, nI_p3, nI_p4, nI_q45]
        refine ex_is 43 rfl hA3 rfl (by omega) (by omega) (fun h4 hA4 hB4 => ?_)
        have e43 : wg f (co n f (fi n f w g n).1 4).1 43 = f 43 := wg_ne (by decide)
        refine ex_go 80 rfl ?_
        exact ex_iret rfl (⟨rfl, AT.st hA4 (fun _ => Or.inl trivial) (by rw [e43]; rfl), (hFi2.sb hB3 (by decide)).sb hB4 (by decide), (hZ2.tr hB3.rz9).tr hB4.rz9⟩)
theorem c_saints (hM : MO h n q) (hS : ST h f im) (g : GD n f) (hd : 1 ≤ d) : ev_V scr d cd_X6_saints 0 [.ref 57, .float 0, .float 0] [] h (some (.int (nI (sa n f))), h) := by
  have hn := g.1
  refine ev_go 80 rfl ?_
  refine ev_loop n (fun i => ev_V scr d cd_X6_saints 4 [.ref 57, .int (nI (bs (fun m => decide (f (5 * m) = 2)) i)), .int (nI i)] [] h _) (fun i hi K => ?_) ?_
  · have gi := (g.2.1 i hi).1
    refine ev_nop rfl ?_
    refine ev_go 80 rfl ?_
    refine ev_getf rfl hM rfl rfl ?_
    refine ev_igeF rfl (nI_ge hi (by first | omega | decide)) ?_
    refine ev_go 80 rfl ?_
    refine ev_getf rfl hM rfl rfl ?_
    refine ev_go 80 rfl ?_
    try dsimp only
    try simp only [nI_inc, nI_1, nI_add, nI_mul2, tb_and, tb_or, tb_andn, nI_x5, nI_x2, nI_p0, nI_p2, nI_p3, nI_p4, nI_q45]
    refine ev_ia _ rfl hS rfl (by first | exact trivial | assumption | (show _ < _; omega)) (by omega) (by omega) rfl ?_
    simp (disch := omega) only [rs_lt, rv_0, rv_1, rv_2, rv_3, rv_4, rv_40, rv_41, rv_42, rv_43, rv_44]
    refine ev_go 80 rfl ?_
    refine ev_ineM 1 2 23 (v := nI (tb_b (decide (f (5 * i) = 2)))) rfl rfl rfl (if10 (nI_eq (b := 2) (by omega) (by decide))) ?_
    refine ev_cs rfl rfl rfl (d' := 0) (by omega) (c_flag) ?_
    refine ev_go 80 rfl ?_
    dsimp only
    rw [nI_inc, bs_fl (fun m => decide (f (5 * m) = 2)) (by omega)]
    exact K
  · refine ev_nop rfl ?_
    refine ev_go 80 rfl ?_
    refine ev_getf rfl hM rfl rfl ?_
    refine ev_igeT rfl (nI_le (Nat.le_refl _) (by first | omega | decide)) ?_
    refine ev_go 80 rfl ?_
    exact ev_iret rfl
end RPAY
