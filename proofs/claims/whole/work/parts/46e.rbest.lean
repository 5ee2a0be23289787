/-! best of the model. -/
/-- men from i on are put by r -/
def pq (n : Nat) (f : Nat → Nat) (r i : Nat) : Nat → Nat := fun j => if j % 5 = 3 ∧ 5 * i ≤ j ∧ j < 5 * n then dgt n f r (j / 5) else f j
theorem pq_0 (n : Nat) (f : Nat → Nat) (r : Nat) : pq n f r 0 = pt n f (dgt n f r) := funext (fun j => by
  unfold pq pt
  by_cases c : j % 5 = 3 ∧ j < 5 * n
  · rw [if_pos c, if_pos ⟨c.1, by omega, c.2⟩]
  · rw [if_neg c, if_neg (fun z => c ⟨z.1, z.2.2⟩)])
theorem pq_n (n : Nat) (f : Nat → Nat) (r : Nat) : pq n f r n = f := funext (fun j => if_neg (by omega))
theorem pq_s {n : Nat} (f : Nat → Nat) (r : Nat) {i : Nat} (hi : i < n) : pq n f r i = up (pq n f r (i + 1)) (5 * i + 3) (dgt n f r i) := funext (fun j => by
  unfold pq up
  dsimp only
  by_cases c : j = 5 * i + 3
  · rw [if_pos c, if_pos (by omega)]
    congr 1
    omega
  · rw [if_neg c]
    by_cases c2 : j % 5 = 3 ∧ 5 * i ≤ j ∧ j < 5 * n
    · rw [if_pos c2, if_pos (by omega)]
    · rw [if_neg c2, if_neg (by omega)])
section RBEST
variable {scr : List Int32} {d : Nat} {h : ev_H} {n : Nat} {f : Nat → Nat} {q im : Nat → Int32}
theorem ek_s {n : Nat} (f : Nat → Nat) {i : Nat} (hi : i < n) : ek n f (n - i) = ek n f (n - 1 - i) + (if f (5 * i) = 3 then 0 else 1) := by
  have e : n - i = (n - 1 - i) + 1 := by omega
  have e2 : n - ((n - 1 - i) + 1) = i := by omega
  rw [e, ek, e2]
theorem c_puttings (hM : MO h n q) (hS : ST h f im) (g : GD n f) (hd : 1 ≤ d) : ev_V scr d cd_X6_puttings 0 [.ref 57, .float 0, .float 0] [] h (some (.int (nI (4 ^ ek n f n))), h) := by
  have hn := g.1
  refine ev_go 80 rfl ?_
  refine ev_loop n (fun i => ∀ y, y * 4 ^ ek n f (n - i) = 4 ^ ek n f n → ev_V scr d cd_X6_puttings 4 [.ref 57, .int (nI y), .int (nI i)] [] h (some (.int (nI (4 ^ ek n f n))), h)) (fun i hi K y hy => ?_) (fun y hy => ?_) 1 (by rw [Nat.sub_zero, Nat.one_mul])
  · obtain ⟨a1, a2, a3, a4, a5, a6⟩ := g.2.1 i hi
    have e1 : n - (i + 1) = n - 1 - i := by omega
    rw [ek_s f hi] at hy
    rw [e1] at K
    refine ev_nop rfl ?_
    refine ev_go 80 rfl ?_
    refine ev_getf rfl hM rfl rfl ?_
    refine ev_igeF rfl (nI_ge hi (by first | omega | decide)) ?_
    refine ev_go 80 rfl ?_
    refine ev_cv rfl rfl rfl rfl hM rfl (d' := 0) (by omega) (c_isWanderer hM hS (by omega) a4) ?_
    by_cases c : f (5 * i) = 3
    · rw [if_pos c, Nat.add_zero] at hy
      rw [decide_eq_true (a5.mp c)]
      refine ev_zeqF rfl (by decide) ?_
      refine ev_go 80 rfl ?_
      dsimp only
      rw [show (1 : Int32) = nI 1 from rfl, nI_mul2, nI_inc, Nat.mul_one]
      exact K y hy
    · rw [if_neg c, Nat.pow_succ, Nat.mul_comm (4 ^ _) 4, ← Nat.mul_assoc] at hy
      rw [decide_eq_false (fun z => c (a5.mpr z))]
      refine ev_zeqT rfl (by decide) ?_
      refine ev_go 80 rfl ?_
      dsimp only
      rw [show (4 : Int32) = nI 4 from rfl, nI_mul2, nI_inc]
      exact K (y * 4) hy
  · rw [Nat.sub_self] at hy
    have : y = 4 ^ ek n f n := by
      rw [← hy]
      show y = y * 1
      omega
    rw [this]
    refine ev_nop rfl ?_
    refine ev_go 80 rfl ?_
    refine ev_getf rfl hM rfl rfl ?_
    refine ev_igeT rfl (nI_le (Nat.le_refl _) (by first | omega | decide)) ?_
    refine ev_go 80 rfl ?_
    exact ev_iret rfl
theorem c_putsBy {P : Nat → Prop} {z : Nat → Int32} (hM : MO h n q) (hS : ST h f im) (hI : IA h 59 57 P z) (hMo : MS h f) (g : GD n f) {r : Nat} (hr : r < 2 ^ 31) (hd : 2 ≤ d) : ev_X scr d cd_X6_putsBy 0 [.ref 57, .int (nI r), .float 0, .float 0, .float 0] [] h (fun v h' => v = some (.int (nI (tb_b (vld n f (dgt n f r))))) ∧ AT h' (pt n f (dgt n f r)) ∧ SB 59 h h') := by
  have hn := g.1
  refine ex_go 80 rfl ?_
  refine ex_cvx rfl rfl rfl rfl hM rfl (d' := 0) (by omega) (c_starts hM hS hI) ?_
  rintro v1 h1 ⟨rfl, hA1, hB1⟩
  have hM1 := hB1.mo hM (by decide)
  rw [← pq_n n f r] at hA1
  refine ex_go 80 rfl ?_
  refine ex_getf rfl hM1 rfl rfl ?_
  refine ex_go 80 rfl ?_
  try dsimp only
  try simp only [nI_inc, nI_1, nI_add, nI_mul2, tb_and, tb_or, tb_andn, nI_x5, nI_x2, nI_p0, nI_p2, nI_p3, nI_p4, nI_q45]
  have start : ∀ h2, AT h2 (pq n f r n) → SB 59 h h2 → ev_X scr d cd_X6_putsBy 11 [.ref 57, .int (nI r), .int (nI (r / 4 ^ ek n f (n - n))), .int (nI 1), .int (nI n - 1)] [] h2 (fun v h' => v = some (.int (nI (tb_b (vld n f (dgt n f r))))) ∧ AT h' (pt n f (dgt n f r)) ∧ SB 59 h h') := by
    refine ev_down n (fun i => i ≤ n → ∀ h2, AT h2 (pq n f r i) → SB 59 h h2 → ev_X scr d cd_X6_putsBy 11 [.ref 57, .int (nI r), .int (nI (r / 4 ^ ek n f (n - i))), .int (nI 1), .int (nI i - 1)] [] h2 (fun v h' => v = some (.int (nI (tb_b (vld n f (dgt n f r))))) ∧ AT h' (pt n f (dgt n f r)) ∧ SB 59 h h')) (fun i hi K hin h2 hA2 hB2 => ?_) (fun _ h2 hA2 hB2 => ?_) (Nat.le_refl n)
    · obtain ⟨a1, a2, a3, a4, a5, a6⟩ := g.2.1 i hi
      have hM2 := hB2.mo hM (by decide)
      have hS2 := hS.b9 hB2
      have e1 : n - (i + 1) = n - 1 - i := by omega
      have hle : r / 4 ^ ek n f (n - 1 - i) ≤ r := Nat.div_le_self _ _
      have K' := K (by omega)
      rw [ek_s f hi, pq_s f r hi] at K'
      rw [e1, nI_pred]
      refine ex_nop rfl ?_
      refine ex_go 80 rfl ?_
      refine ex_zltF rfl (nI_pos (by omega)) ?_
      refine ex_go 80 rfl ?_
      refine ex_cv rfl rfl rfl rfl hM2 rfl (d' := 0) (by omega) (c_isWanderer hM2 hS2 (by omega) a4) ?_
      by_cases c : f (5 * i) = 3
      · have ed : dgt n f r i = 4 := if_pos c
        have e4 : pq n f r (i + 1) (5 * i + 3) = 4 := by
          unfold pq
          rw [if_neg (by omega)]
          exact a5.mp c
        have eu : up (pq n f r (i + 1)) (5 * i + 3) 4 = pq n f r (i + 1) := by
          have e5 := up_self (pq n f r (i + 1)) (5 * i + 3)
          rw [e4] at e5
          exact e5
        rw [if_pos c, Nat.add_zero, ed, eu] at K'
        rw [decide_eq_true (a5.mp c)]
        refine ex_zneT rfl (by decide) ?_
        refine ex_go 80 rfl ?_
        rw [dec1]
        exact K' h2 hA2 hB2
      · have ed : dgt n f r i = r / 4 ^ ek n f (n - 1 - i) % 4 := if_neg c
        rw [if_neg c, Nat.pow_succ, ← Nat.div_div_eq_div_mul, ed] at K'
        rw [decide_eq_false (fun z => c (a5.mpr z))]
        generalize r / 4 ^ ek n f (n - 1 - i) = w at *
        have hw4 : w % 4 < 4 := Nat.mod_lt _ (by decide)
        refine ex_zneF rfl (by decide) ?_
        refine ex_go 80 rfl ?_
        refine ex_irem (v := nI (w % 4)) rfl (by decide) (pk_rem (d := 4) (by omega) (by decide) (by decide)) ?_
        refine ex_cvx rfl rfl rfl rfl hM2 rfl (d' := 0) (by omega) (c_becomesOf (w := 3) (v := w % 4) hM2 hA2 (by omega) (by decide) (by rw [rvx_t (by omega), tv_lt hw4])) ?_
        rintro v3 h3 ⟨rfl, hA3, hB3⟩
        refine ex_go 80 rfl ?_
        refine ex_idiv (v := nI (w / 4)) rfl (by decide) (pk_div (d := 4) (by omega) (by decide) (by decide)) ?_
        refine ex_go 80 rfl ?_
        rw [dec1]
        exact K' h3 hA3 (hB2.tr hB3)
    · have hM2 := hB2.mo hM (by decide)
      have hMo2 := hMo.sb hB2 (by decide)
      rw [pq_0] at hA2
      refine ex_nop rfl ?_
      refine ex_go 80 rfl ?_
      refine ex_zltT rfl (by decide) ?_
      refine ex_go 80 rfl ?_
      show ev_X scr d cd_X6_putsBy 33 [.ref 57, .int (nI r), .int (nI (r / 4 ^ ek n f (n - 0))), .int (nI (tb_b (vb n f (dgt n f r) 0))), .int (nI 0)] [] h2 _
      refine ev_loop 4 (fun t => ev_X scr d cd_X6_putsBy 33 [.ref 57, .int (nI r), .int (nI (r / 4 ^ ek n f (n - 0))), .int (nI (tb_b (vb n f (dgt n f r) t))), .int (nI t)] [] h2 _) (fun t ht K => ?_) ?_
      · have l4 := (g.2.2.2.2.2.2.2.2.2 t ht).2
        rw [vb] at K
        generalize vb n f (dgt n f r) t = b at *
        refine ex_nop rfl ?_
        refine ex_go 80 rfl ?_
        refine ex_igeF rfl (nI_ge ht (by decide)) ?_
        refine ex_go 80 rfl ?_
        refine ex_zeq rfl (fun hc => ?_) (fun hc => ?_)
        · rw [tb_b0] at hc
          rw [hc, Bool.false_and] at K
          refine ex_go 80 rfl ?_
          try dsimp only
          try simp only [nI_inc, nI_1, nI_add, nI_mul2, tb_and, tb_or, tb_andn, nI_x5, nI_x2, nI_p0, nI_p2, nI_p3, nI_p4, nI_q45]
          rw [hc]
          exact K
        · have hb : b = true := by simpa [tb_b0] using hc
          rw [hb, Bool.true_and] at K
          have ebs : pc8 (bs (fun m => decide (pt n f (dgt n f r) (5 * m + 3) = t)) n) = ctn n (dgt n f r) t := by
            rw [pc8_bs _ hn]
            exact sm_cong (fun i hi => by rw [pt_t hi])
          have hbx := bs_256 (fun m => decide (pt n f (dgt n f r) (5 * m + 3) = t)) hn
          have hcl := pc8_le (bs (fun m => decide (pt n f (dgt n f r) (5 * m + 3) = t)) n)
          rw [ebs] at hcl
          refine ex_go 80 rfl ?_
          refine ex_cv rfl rfl rfl rfl hM2 rfl (d' := 1) (by omega) (c_menOf hM2 hA2 hn ht (Nat.le_refl _)) ?_
          refine ex_cs rfl rfl rfl (d' := 0) (by omega) (c_bitsOf (by omega)) ?_
          rw [ebs]
          refine ex_go 80 rfl ?_
          refine ex_getf rfl hM2 rfl rfl ?_
          refine ex_go 80 rfl ?_
          refine ex_ia _ rfl hMo2 rfl (by first | exact trivial | assumption | (show _ < _; omega)) (by omega) (by omega) rfl ?_
          refine ex_igtM 1 2 51 (v := nI (tb_b (decide (ctn n (dgt n f r) t ≤ f (60 + t))))) rfl rfl rfl (if01 (by rw [nI_ltI (by omega) (by omega)]; omega)) ?_
          refine ex_go 80 rfl ?_
          try dsimp only
          try simp only [nI_inc, nI_1, nI_add, nI_mul2, tb_and, tb_or, tb_andn, nI_x5, nI_x2, nI_p0, nI_p2, nI_p3, nI_p4, nI_q45]
          exact K
      · refine ex_nop rfl ?_
        refine ex_go 80 rfl ?_
        refine ex_igeT rfl (nI_le (Nat.le_refl 4) (by decide)) ?_
        refine ex_go 80 rfl ?_
        refine ex_tret rfl ?_ ⟨rfl, hA2, hB2⟩
        show ev_nrw 0 (nI (tb_b (vld n f (dgt n f r)))) = true
        cases vld n f (dgt n f r) <;> rfl
  rw [Nat.sub_self] at start
  have e0 : r / 4 ^ ek n f 0 = r := by
    show r / 1 = r
    omega
  rw [e0] at start
  exact start h1 hA1 hB1
theorem r_best (hM : MO h n q) (hS : ST h f im) (hR : RS h) (hMo : MS h f) (g : GD n f) (ft : FIT n f) {w : Int32} (hd : 5 ≤ d) : ev_X scr d cd_X6_best 0 [.ref 57, .int w, .float 0, .float 0, .float 0, .float 0] [] h (RQ h f im (.int (a_best n f w))) := by
  have hn := g.1
  have hX : 4 ^ ek n f n ≤ 65536 := Nat.le_trans (Nat.pow_le_pow_right (by decide) (Nat.le_trans (ek_le n f n) hn)) (by decide)
  have main : (w = 0 ∨ isM n (w - 10) = true) → ev_X scr d cd_X6_best 10 [.ref 57, .int w, .float 0, .float 0, .float 0, .float 0] [] h (RQ h f im (.int (a_best n f w))) := by
    intro hw
    refine ex_go 80 rfl ?_
    refine ev_loop (4 ^ ek n f n) (fun r => ∀ h1, LA h1 59 57 → SB 59 h h1 → ev_X scr d cd_X6_best 16 [.ref 57, .int w, .int (nI (rf n f r).1), .int (nI (rf n f r).2), .int (nI r), .float 0] [] h1 (RQ h f im (.int (a_best n f w)))) (fun r hr K h1 hL1 hB1 => ?_) (fun h1 hL1 hB1 => ?_) h hR.1 SB.rf
    · have hM1 := hB1.mo hM (by decide)
      have hS1 := hS.b9 hB1
      have hMo1 := hMo.sb hB1 (by decide)
      obtain ⟨rl1, rl2⟩ := rf_le n f r
      rw [rf] at K
      refine ex_nop rfl ?_
      refine ex_go 80 rfl ?_
      refine ex_cv rfl rfl rfl rfl hM1 rfl (d' := 1) (by omega) (c_puttings hM1 hS1 g (Nat.le_refl _)) ?_
      refine ex_igeF rfl (nI_ge hr (by omega)) ?_
      refine ex_go 80 rfl ?_
      refine ex_cvx rfl rfl rfl rfl hM1 rfl (d' := 2) (by omega) (c_putsBy hM1 hS1 hL1 hMo1 g (by omega) (Nat.le_refl _)) ?_
      rintro v2 h2 ⟨rfl, hA2, hB2⟩
      have hM2 := hB2.mo hM1 (by decide)
      have gp := gd_pt g (dgt_p n f r)
      have hal := ha_lt gp
      have hBB := hB1.tr hB2
      cases hv : vld n f (dgt n f r)
      · rw [hv, if_neg (fun z => absurd z.1 (by decide))] at K
        refine ex_zeqT rfl (by decide) ?_
        refine ex_go 80 rfl ?_
        show ev_X scr d cd_X6_best _ [.ref 57, .int w, .int (nI (rf n f r).1), .int (nI (rf n f r).2), .int (nI r), .int (nI 1000000000)] [.int (nI (rf n f r).1), .int (nI 1000000000)] _ _
        refine ex_igeT rfl (nI_le rl1 (by decide)) ?_
        refine ex_go 80 rfl ?_
        refine ex_igeT rfl (nI_le rl1 (by decide)) ?_
        refine ex_go 80 rfl ?_
        try dsimp only
        try simp only [nI_inc, nI_1, nI_add, nI_mul2, tb_and, tb_or, tb_andn, nI_x5, nI_x2, nI_p0, nI_p2, nI_p3, nI_p4, nI_q45]
        exact ex_weak (K h2 hA2.la hBB) (by repeat (first | exact W_n | refine W_e ?_ | refine W_i ?_ | refine W_r ?_))
      · rw [hv] at K
        refine ex_zeqF rfl (by decide) ?_
        refine ex_go 80 rfl ?_
        refine ex_cv rfl rfl rfl rfl hM2 rfl (d' := 3) (by omega) (c_harmAll hM2 hA2 gp (Nat.le_refl _)) ?_
        refine ex_go 80 rfl ?_
        show ev_X scr d cd_X6_best _ [.ref 57, .int w, .int (nI (rf n f r).1), .int (nI (rf n f r).2), .int (nI r), .int (nI (Hh n f (dgt n f r)))] [.int (nI (rf n f r).1), .int (nI (Hh n f (dgt n f r)))] _ _
        have hal2 : Hh n f (dgt n f r) < 100000 := hal
        by_cases k1 : Hh n f (dgt n f r) < (rf n f r).1
        · rw [if_pos ⟨rfl, k1⟩] at K
          refine ex_igeF rfl (nI_ge k1 (by omega)) ?_
          refine ex_go 80 rfl ?_
          refine ex_igeF rfl (nI_ge k1 (by omega)) ?_
          refine ex_go 80 rfl ?_
          try dsimp only
          try simp only [nI_inc, nI_1, nI_add, nI_mul2, tb_and, tb_or, tb_andn, nI_x5, nI_x2, nI_p0, nI_p2, nI_p3, nI_p4, nI_q45]
          exact ex_weak (K h2 hA2.la hBB) (by repeat (first | exact W_n | refine W_e ?_ | refine W_i ?_ | refine W_r ?_))
        · rw [if_neg (fun z => k1 z.2)] at K
          refine ex_igeT rfl (nI_le (by omega) (by omega)) ?_
          refine ex_go 80 rfl ?_
          refine ex_igeT rfl (nI_le (by omega) (by omega)) ?_
          refine ex_go 80 rfl ?_
          try dsimp only
          try simp only [nI_inc, nI_1, nI_add, nI_mul2, tb_and, tb_or, tb_andn, nI_x5, nI_x2, nI_p0, nI_p2, nI_p3, nI_p4, nI_q45]
          exact ex_weak (K h2 hA2.la hBB) (by repeat (first | exact W_n | refine W_e ?_ | refine W_i ?_ | refine W_r ?_))
    · have hM1 := hB1.mo hM (by decide)
      have hS1 := hS.b9 hB1
      have hMo1 := hMo.sb hB1 (by decide)
      obtain ⟨b1, b2⟩ := rf_bst g ft
      obtain ⟨rl1, rl2⟩ := rf_le n f (4 ^ ek n f n)
      refine ex_nop rfl ?_
      refine ex_go 80 rfl ?_
      refine ex_cv rfl rfl rfl rfl hM1 rfl (d' := 1) (by omega) (c_puttings hM1 hS1 g (Nat.le_refl _)) ?_
      refine ex_igeT rfl (nI_le (Nat.le_refl _) (by omega)) ?_
      refine ex_go 80 rfl ?_
      refine ex_cvx rfl rfl rfl rfl hM1 rfl (d' := 2) (by omega) (c_putsBy hM1 hS1 hL1 hMo1 g (by omega) (Nat.le_refl _)) ?_
      rintro v2 h2 ⟨rfl, hA2, hB2⟩
      have hM2 := hB2.mo hM1 (by decide)
      have hBB := hB1.tr hB2
      unfold a_best
      by_cases c : w = 0
      · rw [if_pos c, ← b1]
        refine ex_go 80 rfl ?_
        refine ex_zneF rfl (c) ?_
        refine ex_go 80 rfl ?_
        exact ex_iret rfl (rq_9 hS hR hBB hA2)
      · rw [if_neg c]
        have hm := hw.elim (fun z => absurd z c) id
        rw [hm, if_pos rfl]
        obtain ⟨i, hi, ei⟩ := isM_of hm (by omega)
        refine ex_go 80 rfl ?_
        refine ex_zneT rfl (c) ?_
        refine ex_go 80 rfl ?_
        try dsimp only
        try simp only [nI_inc, nI_1, nI_add, nI_mul2, tb_and, tb_or, tb_andn, nI_x5, nI_x2, nI_p0, nI_p2, nI_p3, nI_p4, nI_q45]
        rw [ei, ix_nI (by omega)]
        refine ex_cv rfl rfl rfl rfl hM2 rfl (d' := 0) (by omega) (c_of3 hM2 hA2 (by omega)) ?_
        rw [pt_t hi, b2 i hi]
        exact ex_iret rfl (rq_9 hS hR hBB hA2)
  refine ex_go 80 rfl ?_
  refine ex_zeq rfl (fun hc => ?_) (fun hc => ?_)
  · exact main (Or.inl hc)
  · refine ex_go 80 rfl ?_
    try dsimp only
    try simp only [nI_inc, nI_1, nI_add, nI_mul2, tb_and, tb_or, tb_andn, nI_x5, nI_x2, nI_p0, nI_p2, nI_p3, nI_p4, nI_q45]
    refine ex_cv rfl rfl rfl rfl hM rfl (d' := 1) (by omega) (c_isMan hM hn (Nat.le_refl _)) ?_
    cases hm : isM n (w - 10)
    · have e : a_best n f w = -1 := by
        unfold a_best
        rw [if_neg hc, hm]
        rfl
      rw [e]
      refine ex_zneF rfl (by decide) ?_
      refine ex_go 80 rfl ?_
      exact ex_iret rfl (rq_s hS hR)
    · refine ex_zneT rfl (by decide) ?_
      exact main (Or.inr hm)
theorem t_best (W : WLD h) (w : Int32) : ∃ a, TW scr h cd_X5_best [.ref 0, .int w, .float 0] cd_X6_best [.ref 57, .int w, .float 0, .float 0, .float 0, .float 0] (.int a) := by
  obtain ⟨n, f, x, q, im, kp, fk, tl, tp, sv, sl, ss, sc, w1, r1, p, ft, fk2, len⟩ := W
  obtain ⟨⟨a0, a1⟩, a2, a3, a4, a5, a6, a7, a8, a9⟩ := w1
  obtain ⟨v1, h1, e1, rfl, hP1, hF1⟩ := k_best (scr := scr) (d := 50) (w := w) a0 a2 a8 p.1 ft (by decide)
  have r2 := r1.same (h' := h1) (fun j hj => hF1.2 j (by omega))
  have w2 : WC h1 n f x kp fk tl tp sv sl ss sc := ⟨⟨(hF1.2 0 (by decide)).trans a0, a1⟩, a2.same (fun j _ _ => hF1.2 j (by omega)), a3.same (fun j _ _ => hF1.2 j (by omega)), a4.same (fun j _ => hF1.2 j (by omega)), a5.same (fun j _ => hF1.2 j (by omega)), a6.kept (hF1.2 22 (by decide)), a7.same (fun j _ _ => hF1.2 j (by omega)), hP1, a9.same (hF1.2 30 (by decide))⟩
  obtain ⟨v2, h2, e2, rfl, hS2, hR2, hY2⟩ := r_best (scr := scr) (d := 50) (w := w) r2.1.1 r2.2.1 r2.2.2.1 r2.2.2.2.1 p.1 ft (by decide)
  exact ⟨_, h1, h2, e1, ⟨_, r2.1.1⟩, e2, n, f, x, q, im, kp, fk, tl, tp, sv, sl, ss, sc, w2.same (fun j hj => hY2.2 j (by omega) (by omega) (by omega) (by omega)), r2.st hY2 hS2 hR2 (fun _ _ => rfl), p, ft, fk2, (hY2.1.trans hF1.1).trans len⟩
end RBEST
