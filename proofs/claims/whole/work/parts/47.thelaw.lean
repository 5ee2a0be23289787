/-! The law. -/
section LAW
variable {scr : List Int32} {h : ev_H}
theorem wld_o (W : WLD h) : ∃ vs, h[0]? = some (.inr (5, vs)) := by
  obtain ⟨n, f, x, q, im, kp, fk, tl, tp, sv, sl, ss, sc, w1, -⟩ := W
  exact ⟨_, w1.1.1⟩
theorem inc5 (k : Nat) : ev_inc 5 (nI (5 * k)) = nI (5 * (k + 1)) := by
  show nI (5 * k) + Int32.ofInt 5 = _
  rw [show Int32.ofInt 5 = nI 5 from by decide, nI_add]
  rfl
theorem tsw_hi {w : Int32} {k : Nat} {lo hi d0 : Int} {offs : Array Int} (hw : hi < w.toInt) : (if w.toInt < lo ∨ hi < w.toInt then d0.toNat else (offs.toList.getD (w.toInt - lo).toNat d0).toNat) = d0.toNat := if_pos (Or.inr hw)
set_option maxRecDepth 100000 in
set_option maxHeartbeats 8000000 in
theorem law_loop (hs : scr.length ≤ 320) (W0 : WLD h) : ev_X scr 60 cd_L_law 10 [.retAddr 0, .ref 0, .ref 57, .int 0] [] h (fun v h' => v = some (.int 1) ∧ h'.length = 71) := by
  refine ev_loop (scr.length / 5) (fun k => ∀ h0, WLD h0 → ev_X scr 60 cd_L_law 10 [.retAddr 0, .ref 0, .ref 57, .int (nI (5 * k))] [] h0 (fun v h' => v = some (.int 1) ∧ h'.length = 71)) (fun k hk K h0 W => ?_) (fun h0 W => ?_) h W0
  · have hk5 : 5 * k + 5 ≤ scr.length := by omega
    obtain ⟨vs0, o0⟩ := wld_o W
    refine ex_nop rfl ?_
    refine ex_go 80 rfl ?_
    refine ex_alen rfl rfl ?_
    refine ex_go 80 rfl ?_
    try dsimp only
    try simp only [nI_inc, nI_1, nI_add, nI_mul2, tb_and, tb_or, tb_andn, nI_x5, nI_x2, nI_p0, nI_p2, nI_p3, nI_p4, nI_q45]
    show ev_X scr 60 cd_L_law _ _ [.int (nI scr.length - nI 5), _] _ _
    refine ex_igtF rfl (fun c => by rw [Int32.lt_iff_toInt_lt, pk_sub_toInt (by omega) (by decide), nI_toInt (by omega)] at c; omega) ?_
    refine ex_go 80 rfl ?_
    refine ex_fald _ rfl rfl rfl rfl (by omega) (by omega) rfl ?_
    refine ex_go 80 rfl ?_
    try dsimp only
    try simp only [nI_inc, nI_1, nI_add, nI_mul2, tb_and, tb_or, tb_andn, nI_x5, nI_x2, nI_p0, nI_p2, nI_p3, nI_p4, nI_q45]
    obtain ⟨j, hj, ej⟩ := pk_andE (scr.getD (5 * k) 0) (m := 63) 6 (by decide)
    rw [ej]
    rcases (by omega : j = 0 ∨ j = 1 ∨ j = 2 ∨ j = 3 ∨ j = 4 ∨ j = 5 ∨ j = 6 ∨ j = 7 ∨ j = 8 ∨ j = 9 ∨ j = 10 ∨ j = 11 ∨ j = 12 ∨ j = 13 ∨ j = 14 ∨ j = 15 ∨ j = 16 ∨ j = 17 ∨ j = 18 ∨ j = 19 ∨ j = 20 ∨ j = 21 ∨ j = 22 ∨ j = 23 ∨ j = 24 ∨ j = 25 ∨ j = 26 ∨ j = 27 ∨ j = 28 ∨ j = 29 ∨ j = 30 ∨ j = 31 ∨ j = 32 ∨ j = 33 ∨ j = 34 ∨ j = 35 ∨ j = 36 ∨ j = 37 ∨ 38 ≤ j) with rfl | rfl | rfl | rfl | rfl | rfl | rfl | rfl | rfl | rfl | rfl | rfl | rfl | rfl | rfl | rfl | rfl | rfl | rfl | rfl | rfl | rfl | rfl | rfl | rfl | rfl | rfl | rfl | rfl | rfl | rfl | rfl | rfl | rfl | rfl | rfl | rfl | rfl | hj2
    · obtain ⟨a, h1, h2, e1, ⟨vs1, o1⟩, e2, W2⟩ := tt_feed (scr := scr) W (scr.getD (5 * k + 1) 0)
      refine ex_tsw (t := 23) rfl (by decide) ?_
      refine ex_go 80 rfl ?_
      try dsimp only
      try simp only [nI_inc, nI_1, nI_add, nI_mul2, tb_and, tb_or, tb_andn, nI_x5, nI_x2, nI_p0, nI_p2, nI_p3, nI_p4, nI_q45]
      refine ex_fald _ rfl rfl rfl rfl (by omega) (by omega) rfl ?_
      refine ex_cv rfl rfl rfl rfl o0 rfl (d' := 50) (by omega) e1 ?_
      refine ex_go 80 rfl ?_
      try dsimp only
      try simp only [nI_inc, nI_1, nI_add, nI_mul2, tb_and, tb_or, tb_andn, nI_x5, nI_x2, nI_p0, nI_p2, nI_p3, nI_p4, nI_q45]
      refine ex_fald _ rfl rfl rfl rfl (by omega) (by omega) rfl ?_
      refine ex_cv rfl rfl rfl rfl o1 rfl (d' := 50) (by omega) e2 ?_
      refine ex_ieqT rfl (rfl) ?_
      refine ex_go 80 rfl ?_
      rw [inc5]
      exact K h2 W2
    · obtain ⟨a, h1, h2, e1, ⟨vs1, o1⟩, e2, W2⟩ := t_end (scr := scr) W (scr.getD (5 * k + 1) 0)
      refine ex_tsw (t := 40) rfl (by decide) ?_
      refine ex_go 80 rfl ?_
      try dsimp only
      try simp only [nI_inc, nI_1, nI_add, nI_mul2, tb_and, tb_or, tb_andn, nI_x5, nI_x2, nI_p0, nI_p2, nI_p3, nI_p4, nI_q45]
      refine ex_fald _ rfl rfl rfl rfl (by omega) (by omega) rfl ?_
      refine ex_cv rfl rfl rfl rfl o0 rfl (d' := 50) (by omega) e1 ?_
      refine ex_go 80 rfl ?_
      try dsimp only
      try simp only [nI_inc, nI_1, nI_add, nI_mul2, tb_and, tb_or, tb_andn, nI_x5, nI_x2, nI_p0, nI_p2, nI_p3, nI_p4, nI_q45]
      refine ex_fald _ rfl rfl rfl rfl (by omega) (by omega) rfl ?_
      refine ex_cv rfl rfl rfl rfl o1 rfl (d' := 50) (by omega) e2 ?_
      refine ex_ieqT rfl (rfl) ?_
      refine ex_go 80 rfl ?_
      rw [inc5]
      exact K h2 W2
    · obtain ⟨a, h1, h2, e1, ⟨vs1, o1⟩, e2, W2⟩ := t_text (scr := scr) W 
      refine ex_tsw (t := 57) rfl (by decide) ?_
      refine ex_go 80 rfl ?_
      refine ex_cv rfl rfl rfl rfl o0 rfl (d' := 50) (by omega) e1 ?_
      refine ex_go 80 rfl ?_
      refine ex_cv rfl rfl rfl rfl o1 rfl (d' := 50) (by omega) e2 ?_
      refine ex_ieqT rfl (rfl) ?_
      refine ex_go 80 rfl ?_
      rw [inc5]
      exact K h2 W2
    · obtain ⟨a, h1, h2, e1, ⟨vs1, o1⟩, e2, W2⟩ := t_fault (scr := scr) W 
      refine ex_tsw (t := 64) rfl (by decide) ?_
      refine ex_go 80 rfl ?_
      refine ex_cv rfl rfl rfl rfl o0 rfl (d' := 50) (by omega) e1 ?_
      refine ex_go 80 rfl ?_
      refine ex_cv rfl rfl rfl rfl o1 rfl (d' := 50) (by omega) e2 ?_
      refine ex_ieqT rfl (rfl) ?_
      refine ex_go 80 rfl ?_
      rw [inc5]
      exact K h2 W2
    · obtain ⟨a, h1, h2, e1, ⟨vs1, o1⟩, e2, W2⟩ := t_rule (scr := scr) W (scr.getD (5 * k + 1) 0)
      refine ex_tsw (t := 71) rfl (by decide) ?_
      refine ex_go 80 rfl ?_
      try dsimp only
      try simp only [nI_inc, nI_1, nI_add, nI_mul2, tb_and, tb_or, tb_andn, nI_x5, nI_x2, nI_p0, nI_p2, nI_p3, nI_p4, nI_q45]
      refine ex_fald _ rfl rfl rfl rfl (by omega) (by omega) rfl ?_
      refine ex_cv rfl rfl rfl rfl o0 rfl (d' := 50) (by omega) e1 ?_
      refine ex_go 80 rfl ?_
      try dsimp only
      try simp only [nI_inc, nI_1, nI_add, nI_mul2, tb_and, tb_or, tb_andn, nI_x5, nI_x2, nI_p0, nI_p2, nI_p3, nI_p4, nI_q45]
      refine ex_fald _ rfl rfl rfl rfl (by omega) (by omega) rfl ?_
      refine ex_cv rfl rfl rfl rfl o1 rfl (d' := 50) (by omega) e2 ?_
      refine ex_ieqT rfl (rfl) ?_
      refine ex_go 80 rfl ?_
      rw [inc5]
      exact K h2 W2
    · obtain ⟨a, h1, h2, e1, ⟨vs1, o1⟩, e2, W2⟩ := t_man (scr := scr) W (scr.getD (5 * k + 1) 0) (scr.getD (5 * k + 2) 0)
      refine ex_tsw (t := 88) rfl (by decide) ?_
      refine ex_go 80 rfl ?_
      try dsimp only
      try simp only [nI_inc, nI_1, nI_add, nI_mul2, tb_and, tb_or, tb_andn, nI_x5, nI_x2, nI_p0, nI_p2, nI_p3, nI_p4, nI_q45]
      refine ex_fald _ rfl rfl rfl rfl (by omega) (by omega) rfl ?_
      refine ex_go 80 rfl ?_
      try dsimp only
      try simp only [nI_inc, nI_1, nI_add, nI_mul2, tb_and, tb_or, tb_andn, nI_x5, nI_x2, nI_p0, nI_p2, nI_p3, nI_p4, nI_q45]
      refine ex_fald _ rfl rfl rfl rfl (by omega) (by omega) rfl ?_
      refine ex_cv rfl rfl rfl rfl o0 rfl (d' := 50) (by omega) e1 ?_
      refine ex_go 80 rfl ?_
      try dsimp only
      try simp only [nI_inc, nI_1, nI_add, nI_mul2, tb_and, tb_or, tb_andn, nI_x5, nI_x2, nI_p0, nI_p2, nI_p3, nI_p4, nI_q45]
      refine ex_fald _ rfl rfl rfl rfl (by omega) (by omega) rfl ?_
      refine ex_go 80 rfl ?_
      try dsimp only
      try simp only [nI_inc, nI_1, nI_add, nI_mul2, tb_and, tb_or, tb_andn, nI_x5, nI_x2, nI_p0, nI_p2, nI_p3, nI_p4, nI_q45]
      refine ex_fald _ rfl rfl rfl rfl (by omega) (by omega) rfl ?_
      refine ex_cv rfl rfl rfl rfl o1 rfl (d' := 50) (by omega) e2 ?_
      refine ex_ieqT rfl (rfl) ?_
      refine ex_go 80 rfl ?_
      rw [inc5]
      exact K h2 W2
    · obtain ⟨a, h1, h2, e1, ⟨vs1, o1⟩, e2, W2⟩ := t_ten (scr := scr) W (scr.getD (5 * k + 1) 0) (scr.getD (5 * k + 2) 0)
      refine ex_tsw (t := 115) rfl (by decide) ?_
      refine ex_go 80 rfl ?_
      try dsimp only
      try simp only [nI_inc, nI_1, nI_add, nI_mul2, tb_and, tb_or, tb_andn, nI_x5, nI_x2, nI_p0, nI_p2, nI_p3, nI_p4, nI_q45]
      refine ex_fald _ rfl rfl rfl rfl (by omega) (by omega) rfl ?_
      refine ex_go 80 rfl ?_
      try dsimp only
      try simp only [nI_inc, nI_1, nI_add, nI_mul2, tb_and, tb_or, tb_andn, nI_x5, nI_x2, nI_p0, nI_p2, nI_p3, nI_p4, nI_q45]
      refine ex_fald _ rfl rfl rfl rfl (by omega) (by omega) rfl ?_
      refine ex_cv rfl rfl rfl rfl o0 rfl (d' := 50) (by omega) e1 ?_
      refine ex_go 80 rfl ?_
      try dsimp only
      try simp only [nI_inc, nI_1, nI_add, nI_mul2, tb_and, tb_or, tb_andn, nI_x5, nI_x2, nI_p0, nI_p2, nI_p3, nI_p4, nI_q45]
      refine ex_fald _ rfl rfl rfl rfl (by omega) (by omega) rfl ?_
      refine ex_go 80 rfl ?_
      try dsimp only
      try simp only [nI_inc, nI_1, nI_add, nI_mul2, tb_and, tb_or, tb_andn, nI_x5, nI_x2, nI_p0, nI_p2, nI_p3, nI_p4, nI_q45]
      refine ex_fald _ rfl rfl rfl rfl (by omega) (by omega) rfl ?_
      refine ex_cv rfl rfl rfl rfl o1 rfl (d' := 50) (by omega) e2 ?_
      refine ex_ieqT rfl (rfl) ?_
      refine ex_go 80 rfl ?_
      rw [inc5]
      exact K h2 W2
    · obtain ⟨a, h1, h2, e1, ⟨vs1, o1⟩, e2, W2⟩ := t_move (scr := scr) W (scr.getD (5 * k + 1) 0) (scr.getD (5 * k + 2) 0)
      refine ex_tsw (t := 142) rfl (by decide) ?_
      refine ex_go 80 rfl ?_
      try dsimp only
      try simp only [nI_inc, nI_1, nI_add, nI_mul2, tb_and, tb_or, tb_andn, nI_x5, nI_x2, nI_p0, nI_p2, nI_p3, nI_p4, nI_q45]
      refine ex_fald _ rfl rfl rfl rfl (by omega) (by omega) rfl ?_
      refine ex_go 80 rfl ?_
      try dsimp only
      try simp only [nI_inc, nI_1, nI_add, nI_mul2, tb_and, tb_or, tb_andn, nI_x5, nI_x2, nI_p0, nI_p2, nI_p3, nI_p4, nI_q45]
      refine ex_fald _ rfl rfl rfl rfl (by omega) (by omega) rfl ?_
      refine ex_cv rfl rfl rfl rfl o0 rfl (d' := 50) (by omega) e1 ?_
      refine ex_go 80 rfl ?_
      try dsimp only
      try simp only [nI_inc, nI_1, nI_add, nI_mul2, tb_and, tb_or, tb_andn, nI_x5, nI_x2, nI_p0, nI_p2, nI_p3, nI_p4, nI_q45]
      refine ex_fald _ rfl rfl rfl rfl (by omega) (by omega) rfl ?_
      refine ex_go 80 rfl ?_
      try dsimp only
      try simp only [nI_inc, nI_1, nI_add, nI_mul2, tb_and, tb_or, tb_andn, nI_x5, nI_x2, nI_p0, nI_p2, nI_p3, nI_p4, nI_q45]
      refine ex_fald _ rfl rfl rfl rfl (by omega) (by omega) rfl ?_
      refine ex_cv rfl rfl rfl rfl o1 rfl (d' := 50) (by omega) e2 ?_
      refine ex_ieqT rfl (rfl) ?_
      refine ex_go 80 rfl ?_
      rw [inc5]
      exact K h2 W2
    · obtain ⟨a, h1, h2, e1, ⟨vs1, o1⟩, e2, W2⟩ := t_leave (scr := scr) W (scr.getD (5 * k + 1) 0)
      refine ex_tsw (t := 169) rfl (by decide) ?_
      refine ex_go 80 rfl ?_
      try dsimp only
      try simp only [nI_inc, nI_1, nI_add, nI_mul2, tb_and, tb_or, tb_andn, nI_x5, nI_x2, nI_p0, nI_p2, nI_p3, nI_p4, nI_q45]
      refine ex_fald _ rfl rfl rfl rfl (by omega) (by omega) rfl ?_
      refine ex_cv rfl rfl rfl rfl o0 rfl (d' := 50) (by omega) e1 ?_
      refine ex_go 80 rfl ?_
      try dsimp only
      try simp only [nI_inc, nI_1, nI_add, nI_mul2, tb_and, tb_or, tb_andn, nI_x5, nI_x2, nI_p0, nI_p2, nI_p3, nI_p4, nI_q45]
      refine ex_fald _ rfl rfl rfl rfl (by omega) (by omega) rfl ?_
      refine ex_cv rfl rfl rfl rfl o1 rfl (d' := 50) (by omega) e2 ?_
      refine ex_ieqT rfl (rfl) ?_
      refine ex_go 80 rfl ?_
      rw [inc5]
      exact K h2 W2
    · obtain ⟨a, h1, h2, e1, ⟨vs1, o1⟩, e2, W2⟩ := t_swap (scr := scr) W (scr.getD (5 * k + 1) 0) (scr.getD (5 * k + 2) 0)
      refine ex_tsw (t := 186) rfl (by decide) ?_
      refine ex_go 80 rfl ?_
      try dsimp only
      try simp only [nI_inc, nI_1, nI_add, nI_mul2, tb_and, tb_or, tb_andn, nI_x5, nI_x2, nI_p0, nI_p2, nI_p3, nI_p4, nI_q45]
      refine ex_fald _ rfl rfl rfl rfl (by omega) (by omega) rfl ?_
      refine ex_go 80 rfl ?_
      try dsimp only
      try simp only [nI_inc, nI_1, nI_add, nI_mul2, tb_and, tb_or, tb_andn, nI_x5, nI_x2, nI_p0, nI_p2, nI_p3, nI_p4, nI_q45]
      refine ex_fald _ rfl rfl rfl rfl (by omega) (by omega) rfl ?_
      refine ex_cv rfl rfl rfl rfl o0 rfl (d' := 50) (by omega) e1 ?_
      refine ex_go 80 rfl ?_
      try dsimp only
      try simp only [nI_inc, nI_1, nI_add, nI_mul2, tb_and, tb_or, tb_andn, nI_x5, nI_x2, nI_p0, nI_p2, nI_p3, nI_p4, nI_q45]
      refine ex_fald _ rfl rfl rfl rfl (by omega) (by omega) rfl ?_
      refine ex_go 80 rfl ?_
      try dsimp only
      try simp only [nI_inc, nI_1, nI_add, nI_mul2, tb_and, tb_or, tb_andn, nI_x5, nI_x2, nI_p0, nI_p2, nI_p3, nI_p4, nI_q45]
      refine ex_fald _ rfl rfl rfl rfl (by omega) (by omega) rfl ?_
      refine ex_cv rfl rfl rfl rfl o1 rfl (d' := 50) (by omega) e2 ?_
      refine ex_ieqT rfl (rfl) ?_
      refine ex_go 80 rfl ?_
      rw [inc5]
      exact K h2 W2
    · obtain ⟨a, h1, h2, e1, ⟨vs1, o1⟩, e2, W2⟩ := t_watch (scr := scr) W (scr.getD (5 * k + 1) 0) (decide (scr.getD (5 * k + 2) 0 ≠ 0))
      refine ex_tsw (t := 213) rfl (by decide) ?_
      refine ex_go 80 rfl ?_
      try dsimp only
      try simp only [nI_inc, nI_1, nI_add, nI_mul2, tb_and, tb_or, tb_andn, nI_x5, nI_x2, nI_p0, nI_p2, nI_p3, nI_p4, nI_q45]
      refine ex_fald _ rfl rfl rfl rfl (by omega) (by omega) rfl ?_
      refine ex_go 80 rfl ?_
      try dsimp only
      try simp only [nI_inc, nI_1, nI_add, nI_mul2, tb_and, tb_or, tb_andn, nI_x5, nI_x2, nI_p0, nI_p2, nI_p3, nI_p4, nI_q45]
      refine ex_fald _ rfl rfl rfl rfl (by omega) (by omega) rfl ?_
      refine ex_zeqM 1 2 228 (v := nI (tb_b (decide (scr.getD (5 * k + 2) 0 ≠ 0)))) rfl rfl rfl (if01 (by exact ⟨fun a b => b a, Classical.not_not.mp⟩)) ?_
      refine ex_cv rfl rfl rfl rfl o0 rfl (d' := 50) (by omega) e1 ?_
      refine ex_go 80 rfl ?_
      try dsimp only
      try simp only [nI_inc, nI_1, nI_add, nI_mul2, tb_and, tb_or, tb_andn, nI_x5, nI_x2, nI_p0, nI_p2, nI_p3, nI_p4, nI_q45]
      refine ex_fald _ rfl rfl rfl rfl (by omega) (by omega) rfl ?_
      refine ex_go 80 rfl ?_
      try dsimp only
      try simp only [nI_inc, nI_1, nI_add, nI_mul2, tb_and, tb_or, tb_andn, nI_x5, nI_x2, nI_p0, nI_p2, nI_p3, nI_p4, nI_q45]
      refine ex_fald _ rfl rfl rfl rfl (by omega) (by omega) rfl ?_
      refine ex_zeqM 1 2 244 (v := nI (tb_b (decide (scr.getD (5 * k + 2) 0 ≠ 0)))) rfl rfl rfl (if01 (by exact ⟨fun a b => b a, Classical.not_not.mp⟩)) ?_
      refine ex_cv rfl rfl rfl rfl o1 rfl (d' := 50) (by omega) e2 ?_
      refine ex_ieqT rfl (rfl) ?_
      refine ex_go 80 rfl ?_
      rw [inc5]
      exact K h2 W2
    · obtain ⟨a, h1, h2, e1, ⟨vs1, o1⟩, e2, W2⟩ := t_kin (scr := scr) W (scr.getD (5 * k + 1) 0) (scr.getD (5 * k + 2) 0) (decide (scr.getD (5 * k + 3) 0 ≠ 0))
      refine ex_tsw (t := 248) rfl (by decide) ?_
      refine ex_go 80 rfl ?_
      try dsimp only
      try simp only [nI_inc, nI_1, nI_add, nI_mul2, tb_and, tb_or, tb_andn, nI_x5, nI_x2, nI_p0, nI_p2, nI_p3, nI_p4, nI_q45]
      refine ex_fald _ rfl rfl rfl rfl (by omega) (by omega) rfl ?_
      refine ex_go 80 rfl ?_
      try dsimp only
      try simp only [nI_inc, nI_1, nI_add, nI_mul2, tb_and, tb_or, tb_andn, nI_x5, nI_x2, nI_p0, nI_p2, nI_p3, nI_p4, nI_q45]
      refine ex_fald _ rfl rfl rfl rfl (by omega) (by omega) rfl ?_
      refine ex_go 80 rfl ?_
      try dsimp only
      try simp only [nI_inc, nI_1, nI_add, nI_mul2, tb_and, tb_or, tb_andn, nI_x5, nI_x2, nI_p0, nI_p2, nI_p3, nI_p4, nI_q45]
      refine ex_fald _ rfl rfl rfl rfl (by omega) (by omega) rfl ?_
      refine ex_zeqM 1 2 268 (v := nI (tb_b (decide (scr.getD (5 * k + 3) 0 ≠ 0)))) rfl rfl rfl (if01 (by exact ⟨fun a b => b a, Classical.not_not.mp⟩)) ?_
      refine ex_cv rfl rfl rfl rfl o0 rfl (d' := 50) (by omega) e1 ?_
      refine ex_go 80 rfl ?_
      try dsimp only
      try simp only [nI_inc, nI_1, nI_add, nI_mul2, tb_and, tb_or, tb_andn, nI_x5, nI_x2, nI_p0, nI_p2, nI_p3, nI_p4, nI_q45]
      refine ex_fald _ rfl rfl rfl rfl (by omega) (by omega) rfl ?_
      refine ex_go 80 rfl ?_
      try dsimp only
      try simp only [nI_inc, nI_1, nI_add, nI_mul2, tb_and, tb_or, tb_andn, nI_x5, nI_x2, nI_p0, nI_p2, nI_p3, nI_p4, nI_q45]
      refine ex_fald _ rfl rfl rfl rfl (by omega) (by omega) rfl ?_
      refine ex_go 80 rfl ?_
      try dsimp only
      try simp only [nI_inc, nI_1, nI_add, nI_mul2, tb_and, tb_or, tb_andn, nI_x5, nI_x2, nI_p0, nI_p2, nI_p3, nI_p4, nI_q45]
      refine ex_fald _ rfl rfl rfl rfl (by omega) (by omega) rfl ?_
      refine ex_zeqM 1 2 289 (v := nI (tb_b (decide (scr.getD (5 * k + 3) 0 ≠ 0)))) rfl rfl rfl (if01 (by exact ⟨fun a b => b a, Classical.not_not.mp⟩)) ?_
      refine ex_cv rfl rfl rfl rfl o1 rfl (d' := 50) (by omega) e2 ?_
      refine ex_ieqT rfl (rfl) ?_
      refine ex_go 80 rfl ?_
      rw [inc5]
      exact K h2 W2
    · obtain ⟨a, h1, h2, e1, ⟨vs1, o1⟩, e2, W2⟩ := t_odd (scr := scr) W (scr.getD (5 * k + 1) 0) (scr.getD (5 * k + 2) 0)
      refine ex_tsw (t := 293) rfl (by decide) ?_
      refine ex_go 80 rfl ?_
      try dsimp only
      try simp only [nI_inc, nI_1, nI_add, nI_mul2, tb_and, tb_or, tb_andn, nI_x5, nI_x2, nI_p0, nI_p2, nI_p3, nI_p4, nI_q45]
      refine ex_fald _ rfl rfl rfl rfl (by omega) (by omega) rfl ?_
      refine ex_go 80 rfl ?_
      try dsimp only
      try simp only [nI_inc, nI_1, nI_add, nI_mul2, tb_and, tb_or, tb_andn, nI_x5, nI_x2, nI_p0, nI_p2, nI_p3, nI_p4, nI_q45]
      refine ex_fald _ rfl rfl rfl rfl (by omega) (by omega) rfl ?_
      refine ex_cv rfl rfl rfl rfl o0 rfl (d' := 50) (by omega) e1 ?_
      refine ex_go 80 rfl ?_
      try dsimp only
      try simp only [nI_inc, nI_1, nI_add, nI_mul2, tb_and, tb_or, tb_andn, nI_x5, nI_x2, nI_p0, nI_p2, nI_p3, nI_p4, nI_q45]
      refine ex_fald _ rfl rfl rfl rfl (by omega) (by omega) rfl ?_
      refine ex_go 80 rfl ?_
      try dsimp only
      try simp only [nI_inc, nI_1, nI_add, nI_mul2, tb_and, tb_or, tb_andn, nI_x5, nI_x2, nI_p0, nI_p2, nI_p3, nI_p4, nI_q45]
      refine ex_fald _ rfl rfl rfl rfl (by omega) (by omega) rfl ?_
      refine ex_cv rfl rfl rfl rfl o1 rfl (d' := 50) (by omega) e2 ?_
      refine ex_ieqT rfl (rfl) ?_
      refine ex_go 80 rfl ?_
      rw [inc5]
      exact K h2 W2
    · obtain ⟨a, h1, h2, e1, ⟨vs1, o1⟩, e2, W2⟩ := t_law (scr := scr) W (scr.getD (5 * k + 1) 0) (scr.getD (5 * k + 2) 0)
      refine ex_tsw (t := 320) rfl (by decide) ?_
      refine ex_go 80 rfl ?_
      try dsimp only
      try simp only [nI_inc, nI_1, nI_add, nI_mul2, tb_and, tb_or, tb_andn, nI_x5, nI_x2, nI_p0, nI_p2, nI_p3, nI_p4, nI_q45]
      refine ex_fald _ rfl rfl rfl rfl (by omega) (by omega) rfl ?_
      refine ex_go 80 rfl ?_
      try dsimp only
      try simp only [nI_inc, nI_1, nI_add, nI_mul2, tb_and, tb_or, tb_andn, nI_x5, nI_x2, nI_p0, nI_p2, nI_p3, nI_p4, nI_q45]
      refine ex_fald _ rfl rfl rfl rfl (by omega) (by omega) rfl ?_
      refine ex_cv rfl rfl rfl rfl o0 rfl (d' := 50) (by omega) e1 ?_
      refine ex_go 80 rfl ?_
      try dsimp only
      try simp only [nI_inc, nI_1, nI_add, nI_mul2, tb_and, tb_or, tb_andn, nI_x5, nI_x2, nI_p0, nI_p2, nI_p3, nI_p4, nI_q45]
      refine ex_fald _ rfl rfl rfl rfl (by omega) (by omega) rfl ?_
      refine ex_go 80 rfl ?_
      try dsimp only
      try simp only [nI_inc, nI_1, nI_add, nI_mul2, tb_and, tb_or, tb_andn, nI_x5, nI_x2, nI_p0, nI_p2, nI_p3, nI_p4, nI_q45]
      refine ex_fald _ rfl rfl rfl rfl (by omega) (by omega) rfl ?_
      refine ex_cv rfl rfl rfl rfl o1 rfl (d' := 50) (by omega) e2 ?_
      refine ex_ieqT rfl (rfl) ?_
      refine ex_go 80 rfl ?_
      rw [inc5]
      exact K h2 W2
    · obtain ⟨a, h1, h2, e1, ⟨vs1, o1⟩, e2, W2⟩ := t_goods (scr := scr) W (scr.getD (5 * k + 1) 0) (scr.getD (5 * k + 2) 0)
      refine ex_tsw (t := 347) rfl (by decide) ?_
      refine ex_go 80 rfl ?_
      try dsimp only
      try simp only [nI_inc, nI_1, nI_add, nI_mul2, tb_and, tb_or, tb_andn, nI_x5, nI_x2, nI_p0, nI_p2, nI_p3, nI_p4, nI_q45]
      refine ex_fald _ rfl rfl rfl rfl (by omega) (by omega) rfl ?_
      refine ex_go 80 rfl ?_
      try dsimp only
      try simp only [nI_inc, nI_1, nI_add, nI_mul2, tb_and, tb_or, tb_andn, nI_x5, nI_x2, nI_p0, nI_p2, nI_p3, nI_p4, nI_q45]
      refine ex_fald _ rfl rfl rfl rfl (by omega) (by omega) rfl ?_
      refine ex_cv rfl rfl rfl rfl o0 rfl (d' := 50) (by omega) e1 ?_
      refine ex_go 80 rfl ?_
      try dsimp only
      try simp only [nI_inc, nI_1, nI_add, nI_mul2, tb_and, tb_or, tb_andn, nI_x5, nI_x2, nI_p0, nI_p2, nI_p3, nI_p4, nI_q45]
      refine ex_fald _ rfl rfl rfl rfl (by omega) (by omega) rfl ?_
      refine ex_go 80 rfl ?_
      try dsimp only
      try simp only [nI_inc, nI_1, nI_add, nI_mul2, tb_and, tb_or, tb_andn, nI_x5, nI_x2, nI_p0, nI_p2, nI_p3, nI_p4, nI_q45]
      refine ex_fald _ rfl rfl rfl rfl (by omega) (by omega) rfl ?_
      refine ex_cv rfl rfl rfl rfl o1 rfl (d' := 50) (by omega) e2 ?_
      refine ex_ieqT rfl (rfl) ?_
      refine ex_go 80 rfl ?_
      rw [inc5]
      exact K h2 W2
    · obtain ⟨a, h1, h2, e1, ⟨vs1, o1⟩, e2, W2⟩ := t_year (scr := scr) W (scr.getD (5 * k + 1) 0)
      refine ex_tsw (t := 374) rfl (by decide) ?_
      refine ex_go 80 rfl ?_
      try dsimp only
      try simp only [nI_inc, nI_1, nI_add, nI_mul2, tb_and, tb_or, tb_andn, nI_x5, nI_x2, nI_p0, nI_p2, nI_p3, nI_p4, nI_q45]
      refine ex_fald _ rfl rfl rfl rfl (by omega) (by omega) rfl ?_
      refine ex_cv rfl rfl rfl rfl o0 rfl (d' := 50) (by omega) e1 ?_
      refine ex_go 80 rfl ?_
      try dsimp only
      try simp only [nI_inc, nI_1, nI_add, nI_mul2, tb_and, tb_or, tb_andn, nI_x5, nI_x2, nI_p0, nI_p2, nI_p3, nI_p4, nI_q45]
      refine ex_fald _ rfl rfl rfl rfl (by omega) (by omega) rfl ?_
      refine ex_cv rfl rfl rfl rfl o1 rfl (d' := 50) (by omega) e2 ?_
      refine ex_ieqT rfl (rfl) ?_
      refine ex_go 80 rfl ?_
      rw [inc5]
      exact K h2 W2
    · obtain ⟨a, h1, h2, e1, ⟨vs1, o1⟩, e2, W2⟩ := t_pays (scr := scr) W (scr.getD (5 * k + 1) 0) (scr.getD (5 * k + 2) 0)
      refine ex_tsw (t := 391) rfl (by decide) ?_
      refine ex_go 80 rfl ?_
      try dsimp only
      try simp only [nI_inc, nI_1, nI_add, nI_mul2, tb_and, tb_or, tb_andn, nI_x5, nI_x2, nI_p0, nI_p2, nI_p3, nI_p4, nI_q45]
      refine ex_fald _ rfl rfl rfl rfl (by omega) (by omega) rfl ?_
      refine ex_go 80 rfl ?_
      try dsimp only
      try simp only [nI_inc, nI_1, nI_add, nI_mul2, tb_and, tb_or, tb_andn, nI_x5, nI_x2, nI_p0, nI_p2, nI_p3, nI_p4, nI_q45]
      refine ex_fald _ rfl rfl rfl rfl (by omega) (by omega) rfl ?_
      refine ex_cv rfl rfl rfl rfl o0 rfl (d' := 50) (by omega) e1 ?_
      refine ex_go 80 rfl ?_
      try dsimp only
      try simp only [nI_inc, nI_1, nI_add, nI_mul2, tb_and, tb_or, tb_andn, nI_x5, nI_x2, nI_p0, nI_p2, nI_p3, nI_p4, nI_q45]
      refine ex_fald _ rfl rfl rfl rfl (by omega) (by omega) rfl ?_
      refine ex_go 80 rfl ?_
      try dsimp only
      try simp only [nI_inc, nI_1, nI_add, nI_mul2, tb_and, tb_or, tb_andn, nI_x5, nI_x2, nI_p0, nI_p2, nI_p3, nI_p4, nI_q45]
      refine ex_fald _ rfl rfl rfl rfl (by omega) (by omega) rfl ?_
      refine ex_cv rfl rfl rfl rfl o1 rfl (d' := 50) (by omega) e2 ?_
      refine ex_ieqT rfl (rfl) ?_
      refine ex_go 80 rfl ?_
      rw [inc5]
      exact K h2 W2
    · obtain ⟨a, h1, h2, e1, ⟨vs1, o1⟩, e2, W2⟩ := t_harm (scr := scr) W 
      refine ex_tsw (t := 418) rfl (by decide) ?_
      refine ex_go 80 rfl ?_
      refine ex_cv rfl rfl rfl rfl o0 rfl (d' := 50) (by omega) e1 ?_
      refine ex_go 80 rfl ?_
      refine ex_cv rfl rfl rfl rfl o1 rfl (d' := 50) (by omega) e2 ?_
      refine ex_ieqT rfl (rfl) ?_
      refine ex_go 80 rfl ?_
      rw [inc5]
      exact K h2 W2
    · obtain ⟨a, h1, h2, e1, ⟨vs1, o1⟩, e2, W2⟩ := t_calm (scr := scr) W (scr.getD (5 * k + 1) 0) (scr.getD (5 * k + 2) 0)
      refine ex_tsw (t := 425) rfl (by decide) ?_
      refine ex_go 80 rfl ?_
      try dsimp only
      try simp only [nI_inc, nI_1, nI_add, nI_mul2, tb_and, tb_or, tb_andn, nI_x5, nI_x2, nI_p0, nI_p2, nI_p3, nI_p4, nI_q45]
      refine ex_fald _ rfl rfl rfl rfl (by omega) (by omega) rfl ?_
      refine ex_go 80 rfl ?_
      try dsimp only
      try simp only [nI_inc, nI_1, nI_add, nI_mul2, tb_and, tb_or, tb_andn, nI_x5, nI_x2, nI_p0, nI_p2, nI_p3, nI_p4, nI_q45]
      refine ex_fald _ rfl rfl rfl rfl (by omega) (by omega) rfl ?_
      refine ex_cv rfl rfl rfl rfl o0 rfl (d' := 50) (by omega) e1 ?_
      refine ex_go 80 rfl ?_
      try dsimp only
      try simp only [nI_inc, nI_1, nI_add, nI_mul2, tb_and, tb_or, tb_andn, nI_x5, nI_x2, nI_p0, nI_p2, nI_p3, nI_p4, nI_q45]
      refine ex_fald _ rfl rfl rfl rfl (by omega) (by omega) rfl ?_
      refine ex_go 80 rfl ?_
      try dsimp only
      try simp only [nI_inc, nI_1, nI_add, nI_mul2, tb_and, tb_or, tb_andn, nI_x5, nI_x2, nI_p0, nI_p2, nI_p3, nI_p4, nI_q45]
      refine ex_fald _ rfl rfl rfl rfl (by omega) (by omega) rfl ?_
      refine ex_cv rfl rfl rfl rfl o1 rfl (d' := 50) (by omega) e2 ?_
      refine ex_go 80 rfl ?_
      try dsimp only
      try simp only [nI_inc, nI_1, nI_add, nI_mul2, tb_and, tb_or, tb_andn, nI_x5, nI_x2, nI_p0, nI_p2, nI_p3, nI_p4, nI_q45]
      refine ex_zeqT rfl ((lg_cmp_eq _ _).mpr rfl) ?_
      refine ex_go 80 rfl ?_
      rw [inc5]
      exact K h2 W2
    · obtain ⟨a, h1, h2, e1, ⟨vs1, o1⟩, e2, W2⟩ := t_mean (scr := scr) W (scr.getD (5 * k + 1) 0) (scr.getD (5 * k + 2) 0)
      refine ex_tsw (t := 453) rfl (by decide) ?_
      refine ex_go 80 rfl ?_
      try dsimp only
      try simp only [nI_inc, nI_1, nI_add, nI_mul2, tb_and, tb_or, tb_andn, nI_x5, nI_x2, nI_p0, nI_p2, nI_p3, nI_p4, nI_q45]
      refine ex_fald _ rfl rfl rfl rfl (by omega) (by omega) rfl ?_
      refine ex_go 80 rfl ?_
      try dsimp only
      try simp only [nI_inc, nI_1, nI_add, nI_mul2, tb_and, tb_or, tb_andn, nI_x5, nI_x2, nI_p0, nI_p2, nI_p3, nI_p4, nI_q45]
      refine ex_fald _ rfl rfl rfl rfl (by omega) (by omega) rfl ?_
      refine ex_cv rfl rfl rfl rfl o0 rfl (d' := 50) (by omega) e1 ?_
      refine ex_go 80 rfl ?_
      try dsimp only
      try simp only [nI_inc, nI_1, nI_add, nI_mul2, tb_and, tb_or, tb_andn, nI_x5, nI_x2, nI_p0, nI_p2, nI_p3, nI_p4, nI_q45]
      refine ex_fald _ rfl rfl rfl rfl (by omega) (by omega) rfl ?_
      refine ex_go 80 rfl ?_
      try dsimp only
      try simp only [nI_inc, nI_1, nI_add, nI_mul2, tb_and, tb_or, tb_andn, nI_x5, nI_x2, nI_p0, nI_p2, nI_p3, nI_p4, nI_q45]
      refine ex_fald _ rfl rfl rfl rfl (by omega) (by omega) rfl ?_
      refine ex_cv rfl rfl rfl rfl o1 rfl (d' := 50) (by omega) e2 ?_
      refine ex_go 80 rfl ?_
      try dsimp only
      try simp only [nI_inc, nI_1, nI_add, nI_mul2, tb_and, tb_or, tb_andn, nI_x5, nI_x2, nI_p0, nI_p2, nI_p3, nI_p4, nI_q45]
      refine ex_zeqT rfl ((lg_cmp_eq _ _).mpr rfl) ?_
      refine ex_go 80 rfl ?_
      rw [inc5]
      exact K h2 W2
    · obtain ⟨a, h1, h2, e1, ⟨vs1, o1⟩, e2, W2⟩ := t_best (scr := scr) W (scr.getD (5 * k + 1) 0)
      refine ex_tsw (t := 481) rfl (by decide) ?_
      refine ex_go 80 rfl ?_
      try dsimp only
      try simp only [nI_inc, nI_1, nI_add, nI_mul2, tb_and, tb_or, tb_andn, nI_x5, nI_x2, nI_p0, nI_p2, nI_p3, nI_p4, nI_q45]
      refine ex_fald _ rfl rfl rfl rfl (by omega) (by omega) rfl ?_
      refine ex_cv rfl rfl rfl rfl o0 rfl (d' := 50) (by omega) e1 ?_
      refine ex_go 80 rfl ?_
      try dsimp only
      try simp only [nI_inc, nI_1, nI_add, nI_mul2, tb_and, tb_or, tb_andn, nI_x5, nI_x2, nI_p0, nI_p2, nI_p3, nI_p4, nI_q45]
      refine ex_fald _ rfl rfl rfl rfl (by omega) (by omega) rfl ?_
      refine ex_cv rfl rfl rfl rfl o1 rfl (d' := 50) (by omega) e2 ?_
      refine ex_ieqT rfl (rfl) ?_
      refine ex_go 80 rfl ?_
      rw [inc5]
      exact K h2 W2
    · obtain ⟨a, h1, h2, e1, ⟨vs1, o1⟩, e2, W2⟩ := t_change (scr := scr) W (scr.getD (5 * k + 1) 0)
      refine ex_tsw (t := 498) rfl (by decide) ?_
      refine ex_go 80 rfl ?_
      try dsimp only
      try simp only [nI_inc, nI_1, nI_add, nI_mul2, tb_and, tb_or, tb_andn, nI_x5, nI_x2, nI_p0, nI_p2, nI_p3, nI_p4, nI_q45]
      refine ex_fald _ rfl rfl rfl rfl (by omega) (by omega) rfl ?_
      refine ex_cv rfl rfl rfl rfl o0 rfl (d' := 50) (by omega) e1 ?_
      refine ex_go 80 rfl ?_
      try dsimp only
      try simp only [nI_inc, nI_1, nI_add, nI_mul2, tb_and, tb_or, tb_andn, nI_x5, nI_x2, nI_p0, nI_p2, nI_p3, nI_p4, nI_q45]
      refine ex_fald _ rfl rfl rfl rfl (by omega) (by omega) rfl ?_
      refine ex_cv rfl rfl rfl rfl o1 rfl (d' := 50) (by omega) e2 ?_
      refine ex_ieqT rfl (rfl) ?_
      refine ex_go 80 rfl ?_
      rw [inc5]
      exact K h2 W2
    · obtain ⟨a, h1, h2, e1, ⟨vs1, o1⟩, e2, W2⟩ := t_takes (scr := scr) W (scr.getD (5 * k + 1) 0)
      refine ex_tsw (t := 515) rfl (by decide) ?_
      refine ex_go 80 rfl ?_
      try dsimp only
      try simp only [nI_inc, nI_1, nI_add, nI_mul2, tb_and, tb_or, tb_andn, nI_x5, nI_x2, nI_p0, nI_p2, nI_p3, nI_p4, nI_q45]
      refine ex_fald _ rfl rfl rfl rfl (by omega) (by omega) rfl ?_
      refine ex_cv rfl rfl rfl rfl o0 rfl (d' := 50) (by omega) e1 ?_
      refine ex_go 80 rfl ?_
      try dsimp only
      try simp only [nI_inc, nI_1, nI_add, nI_mul2, tb_and, tb_or, tb_andn, nI_x5, nI_x2, nI_p0, nI_p2, nI_p3, nI_p4, nI_q45]
      refine ex_fald _ rfl rfl rfl rfl (by omega) (by omega) rfl ?_
      refine ex_cv rfl rfl rfl rfl o1 rfl (d' := 50) (by omega) e2 ?_
      refine ex_ieqT rfl (rfl) ?_
      refine ex_go 80 rfl ?_
      rw [inc5]
      exact K h2 W2
    · obtain ⟨a, h1, h2, e1, ⟨vs1, o1⟩, e2, W2⟩ := t_weight (scr := scr) W (scr.getD (5 * k + 1) 0)
      refine ex_tsw (t := 532) rfl (by decide) ?_
      refine ex_go 80 rfl ?_
      try dsimp only
      try simp only [nI_inc, nI_1, nI_add, nI_mul2, tb_and, tb_or, tb_andn, nI_x5, nI_x2, nI_p0, nI_p2, nI_p3, nI_p4, nI_q45]
      refine ex_fald _ rfl rfl rfl rfl (by omega) (by omega) rfl ?_
      refine ex_cv rfl rfl rfl rfl o0 rfl (d' := 50) (by omega) e1 ?_
      refine ex_go 80 rfl ?_
      try dsimp only
      try simp only [nI_inc, nI_1, nI_add, nI_mul2, tb_and, tb_or, tb_andn, nI_x5, nI_x2, nI_p0, nI_p2, nI_p3, nI_p4, nI_q45]
      refine ex_fald _ rfl rfl rfl rfl (by omega) (by omega) rfl ?_
      refine ex_cv rfl rfl rfl rfl o1 rfl (d' := 50) (by omega) e2 ?_
      refine ex_ieqT rfl (rfl) ?_
      refine ex_go 80 rfl ?_
      rw [inc5]
      exact K h2 W2
    · obtain ⟨a, h1, h2, e1, ⟨vs1, o1⟩, e2, W2⟩ := t_should (scr := scr) W (scr.getD (5 * k + 1) 0)
      refine ex_tsw (t := 549) rfl (by decide) ?_
      refine ex_go 80 rfl ?_
      try dsimp only
      try simp only [nI_inc, nI_1, nI_add, nI_mul2, tb_and, tb_or, tb_andn, nI_x5, nI_x2, nI_p0, nI_p2, nI_p3, nI_p4, nI_q45]
      refine ex_fald _ rfl rfl rfl rfl (by omega) (by omega) rfl ?_
      refine ex_cv rfl rfl rfl rfl o0 rfl (d' := 50) (by omega) e1 ?_
      refine ex_go 80 rfl ?_
      try dsimp only
      try simp only [nI_inc, nI_1, nI_add, nI_mul2, tb_and, tb_or, tb_andn, nI_x5, nI_x2, nI_p0, nI_p2, nI_p3, nI_p4, nI_q45]
      refine ex_fald _ rfl rfl rfl rfl (by omega) (by omega) rfl ?_
      refine ex_cv rfl rfl rfl rfl o1 rfl (d' := 50) (by omega) e2 ?_
      refine ex_ieqT rfl (rfl) ?_
      refine ex_go 80 rfl ?_
      rw [inc5]
      exact K h2 W2
    · obtain ⟨a, h1, h2, e1, ⟨vs1, o1⟩, e2, W2⟩ := t_guard (scr := scr) W (scr.getD (5 * k + 1) 0)
      refine ex_tsw (t := 566) rfl (by decide) ?_
      refine ex_go 80 rfl ?_
      try dsimp only
      try simp only [nI_inc, nI_1, nI_add, nI_mul2, tb_and, tb_or, tb_andn, nI_x5, nI_x2, nI_p0, nI_p2, nI_p3, nI_p4, nI_q45]
      refine ex_fald _ rfl rfl rfl rfl (by omega) (by omega) rfl ?_
      refine ex_cv rfl rfl rfl rfl o0 rfl (d' := 50) (by omega) e1 ?_
      refine ex_go 80 rfl ?_
      try dsimp only
      try simp only [nI_inc, nI_1, nI_add, nI_mul2, tb_and, tb_or, tb_andn, nI_x5, nI_x2, nI_p0, nI_p2, nI_p3, nI_p4, nI_q45]
      refine ex_fald _ rfl rfl rfl rfl (by omega) (by omega) rfl ?_
      refine ex_cv rfl rfl rfl rfl o1 rfl (d' := 50) (by omega) e2 ?_
      refine ex_ieqT rfl (rfl) ?_
      refine ex_go 80 rfl ?_
      rw [inc5]
      exact K h2 W2
    · obtain ⟨a, h1, h2, e1, ⟨vs1, o1⟩, e2, W2⟩ := t_worth (scr := scr) W (scr.getD (5 * k + 1) 0)
      refine ex_tsw (t := 583) rfl (by decide) ?_
      refine ex_go 80 rfl ?_
      try dsimp only
      try simp only [nI_inc, nI_1, nI_add, nI_mul2, tb_and, tb_or, tb_andn, nI_x5, nI_x2, nI_p0, nI_p2, nI_p3, nI_p4, nI_q45]
      refine ex_fald _ rfl rfl rfl rfl (by omega) (by omega) rfl ?_
      refine ex_cv rfl rfl rfl rfl o0 rfl (d' := 50) (by omega) e1 ?_
      refine ex_go 80 rfl ?_
      try dsimp only
      try simp only [nI_inc, nI_1, nI_add, nI_mul2, tb_and, tb_or, tb_andn, nI_x5, nI_x2, nI_p0, nI_p2, nI_p3, nI_p4, nI_q45]
      refine ex_fald _ rfl rfl rfl rfl (by omega) (by omega) rfl ?_
      refine ex_cv rfl rfl rfl rfl o1 rfl (d' := 50) (by omega) e2 ?_
      refine ex_ieqT rfl (rfl) ?_
      refine ex_go 80 rfl ?_
      rw [inc5]
      exact K h2 W2
    · obtain ⟨a, h1, h2, e1, ⟨vs1, o1⟩, e2, W2⟩ := t_see (scr := scr) W (scr.getD (5 * k + 1) 0) (scr.getD (5 * k + 2) 0)
      refine ex_tsw (t := 600) rfl (by decide) ?_
      refine ex_go 80 rfl ?_
      try dsimp only
      try simp only [nI_inc, nI_1, nI_add, nI_mul2, tb_and, tb_or, tb_andn, nI_x5, nI_x2, nI_p0, nI_p2, nI_p3, nI_p4, nI_q45]
      refine ex_fald _ rfl rfl rfl rfl (by omega) (by omega) rfl ?_
      refine ex_go 80 rfl ?_
      try dsimp only
      try simp only [nI_inc, nI_1, nI_add, nI_mul2, tb_and, tb_or, tb_andn, nI_x5, nI_x2, nI_p0, nI_p2, nI_p3, nI_p4, nI_q45]
      refine ex_fald _ rfl rfl rfl rfl (by omega) (by omega) rfl ?_
      refine ex_cv rfl rfl rfl rfl o0 rfl (d' := 50) (by omega) e1 ?_
      refine ex_go 80 rfl ?_
      try dsimp only
      try simp only [nI_inc, nI_1, nI_add, nI_mul2, tb_and, tb_or, tb_andn, nI_x5, nI_x2, nI_p0, nI_p2, nI_p3, nI_p4, nI_q45]
      refine ex_fald _ rfl rfl rfl rfl (by omega) (by omega) rfl ?_
      refine ex_go 80 rfl ?_
      try dsimp only
      try simp only [nI_inc, nI_1, nI_add, nI_mul2, tb_and, tb_or, tb_andn, nI_x5, nI_x2, nI_p0, nI_p2, nI_p3, nI_p4, nI_q45]
      refine ex_fald _ rfl rfl rfl rfl (by omega) (by omega) rfl ?_
      refine ex_cv rfl rfl rfl rfl o1 rfl (d' := 50) (by omega) e2 ?_
      refine ex_ieqT rfl (rfl) ?_
      refine ex_go 80 rfl ?_
      rw [inc5]
      exact K h2 W2
    · obtain ⟨a, h1, h2, e1, ⟨vs1, o1⟩, e2, W2⟩ := t_forget (scr := scr) W (scr.getD (5 * k + 1) 0)
      refine ex_tsw (t := 627) rfl (by decide) ?_
      refine ex_go 80 rfl ?_
      try dsimp only
      try simp only [nI_inc, nI_1, nI_add, nI_mul2, tb_and, tb_or, tb_andn, nI_x5, nI_x2, nI_p0, nI_p2, nI_p3, nI_p4, nI_q45]
      refine ex_fald _ rfl rfl rfl rfl (by omega) (by omega) rfl ?_
      refine ex_cv rfl rfl rfl rfl o0 rfl (d' := 50) (by omega) e1 ?_
      refine ex_go 80 rfl ?_
      try dsimp only
      try simp only [nI_inc, nI_1, nI_add, nI_mul2, tb_and, tb_or, tb_andn, nI_x5, nI_x2, nI_p0, nI_p2, nI_p3, nI_p4, nI_q45]
      refine ex_fald _ rfl rfl rfl rfl (by omega) (by omega) rfl ?_
      refine ex_cv rfl rfl rfl rfl o1 rfl (d' := 50) (by omega) e2 ?_
      refine ex_ieqT rfl (rfl) ?_
      refine ex_go 80 rfl ?_
      rw [inc5]
      exact K h2 W2
    · obtain ⟨a, h1, h2, e1, ⟨vs1, o1⟩, e2, W2⟩ := t_fits (scr := scr) W (scr.getD (5 * k + 1) 0)
      refine ex_tsw (t := 644) rfl (by decide) ?_
      refine ex_go 80 rfl ?_
      try dsimp only
      try simp only [nI_inc, nI_1, nI_add, nI_mul2, tb_and, tb_or, tb_andn, nI_x5, nI_x2, nI_p0, nI_p2, nI_p3, nI_p4, nI_q45]
      refine ex_fald _ rfl rfl rfl rfl (by omega) (by omega) rfl ?_
      refine ex_cv rfl rfl rfl rfl o0 rfl (d' := 50) (by omega) e1 ?_
      refine ex_go 80 rfl ?_
      try dsimp only
      try simp only [nI_inc, nI_1, nI_add, nI_mul2, tb_and, tb_or, tb_andn, nI_x5, nI_x2, nI_p0, nI_p2, nI_p3, nI_p4, nI_q45]
      refine ex_fald _ rfl rfl rfl rfl (by omega) (by omega) rfl ?_
      refine ex_cv rfl rfl rfl rfl o1 rfl (d' := 50) (by omega) e2 ?_
      refine ex_ieqT rfl (rfl) ?_
      refine ex_go 80 rfl ?_
      rw [inc5]
      exact K h2 W2
    · obtain ⟨a, h1, h2, e1, ⟨vs1, o1⟩, e2, W2⟩ := t_drift (scr := scr) W (scr.getD (5 * k + 1) 0) (scr.getD (5 * k + 2) 0) (scr.getD (5 * k + 3) 0)
      refine ex_tsw (t := 661) rfl (by decide) ?_
      refine ex_go 80 rfl ?_
      try dsimp only
      try simp only [nI_inc, nI_1, nI_add, nI_mul2, tb_and, tb_or, tb_andn, nI_x5, nI_x2, nI_p0, nI_p2, nI_p3, nI_p4, nI_q45]
      refine ex_fald _ rfl rfl rfl rfl (by omega) (by omega) rfl ?_
      refine ex_go 80 rfl ?_
      try dsimp only
      try simp only [nI_inc, nI_1, nI_add, nI_mul2, tb_and, tb_or, tb_andn, nI_x5, nI_x2, nI_p0, nI_p2, nI_p3, nI_p4, nI_q45]
      refine ex_fald _ rfl rfl rfl rfl (by omega) (by omega) rfl ?_
      refine ex_go 80 rfl ?_
      try dsimp only
      try simp only [nI_inc, nI_1, nI_add, nI_mul2, tb_and, tb_or, tb_andn, nI_x5, nI_x2, nI_p0, nI_p2, nI_p3, nI_p4, nI_q45]
      refine ex_fald _ rfl rfl rfl rfl (by omega) (by omega) rfl ?_
      refine ex_cv rfl rfl rfl rfl o0 rfl (d' := 50) (by omega) e1 ?_
      refine ex_go 80 rfl ?_
      try dsimp only
      try simp only [nI_inc, nI_1, nI_add, nI_mul2, tb_and, tb_or, tb_andn, nI_x5, nI_x2, nI_p0, nI_p2, nI_p3, nI_p4, nI_q45]
      refine ex_fald _ rfl rfl rfl rfl (by omega) (by omega) rfl ?_
      refine ex_go 80 rfl ?_
      try dsimp only
      try simp only [nI_inc, nI_1, nI_add, nI_mul2, tb_and, tb_or, tb_andn, nI_x5, nI_x2, nI_p0, nI_p2, nI_p3, nI_p4, nI_q45]
      refine ex_fald _ rfl rfl rfl rfl (by omega) (by omega) rfl ?_
      refine ex_go 80 rfl ?_
      try dsimp only
      try simp only [nI_inc, nI_1, nI_add, nI_mul2, tb_and, tb_or, tb_andn, nI_x5, nI_x2, nI_p0, nI_p2, nI_p3, nI_p4, nI_q45]
      refine ex_fald _ rfl rfl rfl rfl (by omega) (by omega) rfl ?_
      refine ex_cv rfl rfl rfl rfl o1 rfl (d' := 50) (by omega) e2 ?_
      refine ex_ieqT rfl (rfl) ?_
      refine ex_go 80 rfl ?_
      rw [inc5]
      exact K h2 W2
    · obtain ⟨a, h1, h2, e1, ⟨vs1, o1⟩, e2, W2⟩ := t_keep (scr := scr) W (scr.getD (5 * k + 1) 0)
      refine ex_tsw (t := 698) rfl (by decide) ?_
      refine ex_go 80 rfl ?_
      try dsimp only
      try simp only [nI_inc, nI_1, nI_add, nI_mul2, tb_and, tb_or, tb_andn, nI_x5, nI_x2, nI_p0, nI_p2, nI_p3, nI_p4, nI_q45]
      refine ex_fald _ rfl rfl rfl rfl (by omega) (by omega) rfl ?_
      refine ex_cv rfl rfl rfl rfl o0 rfl (d' := 50) (by omega) e1 ?_
      refine ex_go 80 rfl ?_
      try dsimp only
      try simp only [nI_inc, nI_1, nI_add, nI_mul2, tb_and, tb_or, tb_andn, nI_x5, nI_x2, nI_p0, nI_p2, nI_p3, nI_p4, nI_q45]
      refine ex_fald _ rfl rfl rfl rfl (by omega) (by omega) rfl ?_
      refine ex_cv rfl rfl rfl rfl o1 rfl (d' := 50) (by omega) e2 ?_
      refine ex_ieqT rfl (rfl) ?_
      refine ex_go 80 rfl ?_
      rw [inc5]
      exact K h2 W2
    · obtain ⟨a, h1, h2, e1, ⟨vs1, o1⟩, e2, W2⟩ := t_back (scr := scr) W (scr.getD (5 * k + 1) 0)
      refine ex_tsw (t := 715) rfl (by decide) ?_
      refine ex_go 80 rfl ?_
      try dsimp only
      try simp only [nI_inc, nI_1, nI_add, nI_mul2, tb_and, tb_or, tb_andn, nI_x5, nI_x2, nI_p0, nI_p2, nI_p3, nI_p4, nI_q45]
      refine ex_fald _ rfl rfl rfl rfl (by omega) (by omega) rfl ?_
      refine ex_cv rfl rfl rfl rfl o0 rfl (d' := 50) (by omega) e1 ?_
      refine ex_go 80 rfl ?_
      try dsimp only
      try simp only [nI_inc, nI_1, nI_add, nI_mul2, tb_and, tb_or, tb_andn, nI_x5, nI_x2, nI_p0, nI_p2, nI_p3, nI_p4, nI_q45]
      refine ex_fald _ rfl rfl rfl rfl (by omega) (by omega) rfl ?_
      refine ex_cv rfl rfl rfl rfl o1 rfl (d' := 50) (by omega) e2 ?_
      refine ex_ieqT rfl (rfl) ?_
      refine ex_go 80 rfl ?_
      rw [inc5]
      exact K h2 W2
    · obtain ⟨a, h1, h2, e1, ⟨vs1, o1⟩, e2, W2⟩ := t_sheet (scr := scr) W (scr.getD (5 * k + 1) 0) (scr.getD (5 * k + 2) 0) (scr.getD (5 * k + 3) 0)
      refine ex_tsw (t := 732) rfl (by decide) ?_
      refine ex_go 80 rfl ?_
      try dsimp only
      try simp only [nI_inc, nI_1, nI_add, nI_mul2, tb_and, tb_or, tb_andn, nI_x5, nI_x2, nI_p0, nI_p2, nI_p3, nI_p4, nI_q45]
      refine ex_fald _ rfl rfl rfl rfl (by omega) (by omega) rfl ?_
      refine ex_go 80 rfl ?_
      try dsimp only
      try simp only [nI_inc, nI_1, nI_add, nI_mul2, tb_and, tb_or, tb_andn, nI_x5, nI_x2, nI_p0, nI_p2, nI_p3, nI_p4, nI_q45]
      refine ex_fald _ rfl rfl rfl rfl (by omega) (by omega) rfl ?_
      refine ex_go 80 rfl ?_
      try dsimp only
      try simp only [nI_inc, nI_1, nI_add, nI_mul2, tb_and, tb_or, tb_andn, nI_x5, nI_x2, nI_p0, nI_p2, nI_p3, nI_p4, nI_q45]
      refine ex_fald _ rfl rfl rfl rfl (by omega) (by omega) rfl ?_
      refine ex_cv rfl rfl rfl rfl o0 rfl (d' := 50) (by omega) e1 ?_
      refine ex_go 80 rfl ?_
      try dsimp only
      try simp only [nI_inc, nI_1, nI_add, nI_mul2, tb_and, tb_or, tb_andn, nI_x5, nI_x2, nI_p0, nI_p2, nI_p3, nI_p4, nI_q45]
      refine ex_fald _ rfl rfl rfl rfl (by omega) (by omega) rfl ?_
      refine ex_go 80 rfl ?_
      try dsimp only
      try simp only [nI_inc, nI_1, nI_add, nI_mul2, tb_and, tb_or, tb_andn, nI_x5, nI_x2, nI_p0, nI_p2, nI_p3, nI_p4, nI_q45]
      refine ex_fald _ rfl rfl rfl rfl (by omega) (by omega) rfl ?_
      refine ex_go 80 rfl ?_
      try dsimp only
      try simp only [nI_inc, nI_1, nI_add, nI_mul2, tb_and, tb_or, tb_andn, nI_x5, nI_x2, nI_p0, nI_p2, nI_p3, nI_p4, nI_q45]
      refine ex_fald _ rfl rfl rfl rfl (by omega) (by omega) rfl ?_
      refine ex_cv rfl rfl rfl rfl o1 rfl (d' := 50) (by omega) e2 ?_
      refine ex_ieqT rfl (rfl) ?_
      refine ex_go 80 rfl ?_
      rw [inc5]
      exact K h2 W2
    · obtain ⟨a, h1, h2, e1, ⟨vs1, o1⟩, e2, W2⟩ := tt_lay (scr := scr) W (scr.getD (5 * k + 1) 0) (scr.getD (5 * k + 2) 0) (scr.getD (5 * k + 3) 0)
      refine ex_tsw (t := 769) rfl (by decide) ?_
      refine ex_go 80 rfl ?_
      try dsimp only
      try simp only [nI_inc, nI_1, nI_add, nI_mul2, tb_and, tb_or, tb_andn, nI_x5, nI_x2, nI_p0, nI_p2, nI_p3, nI_p4, nI_q45]
      refine ex_fald _ rfl rfl rfl rfl (by omega) (by omega) rfl ?_
      refine ex_go 80 rfl ?_
      try dsimp only
      try simp only [nI_inc, nI_1, nI_add, nI_mul2, tb_and, tb_or, tb_andn, nI_x5, nI_x2, nI_p0, nI_p2, nI_p3, nI_p4, nI_q45]
      refine ex_fald _ rfl rfl rfl rfl (by omega) (by omega) rfl ?_
      refine ex_go 80 rfl ?_
      try dsimp only
      try simp only [nI_inc, nI_1, nI_add, nI_mul2, tb_and, tb_or, tb_andn, nI_x5, nI_x2, nI_p0, nI_p2, nI_p3, nI_p4, nI_q45]
      refine ex_fald _ rfl rfl rfl rfl (by omega) (by omega) rfl ?_
      refine ex_cv rfl rfl rfl rfl o0 rfl (d' := 50) (by omega) e1 ?_
      refine ex_go 80 rfl ?_
      try dsimp only
      try simp only [nI_inc, nI_1, nI_add, nI_mul2, tb_and, tb_or, tb_andn, nI_x5, nI_x2, nI_p0, nI_p2, nI_p3, nI_p4, nI_q45]
      refine ex_fald _ rfl rfl rfl rfl (by omega) (by omega) rfl ?_
      refine ex_go 80 rfl ?_
      try dsimp only
      try simp only [nI_inc, nI_1, nI_add, nI_mul2, tb_and, tb_or, tb_andn, nI_x5, nI_x2, nI_p0, nI_p2, nI_p3, nI_p4, nI_q45]
      refine ex_fald _ rfl rfl rfl rfl (by omega) (by omega) rfl ?_
      refine ex_go 80 rfl ?_
      try dsimp only
      try simp only [nI_inc, nI_1, nI_add, nI_mul2, tb_and, tb_or, tb_andn, nI_x5, nI_x2, nI_p0, nI_p2, nI_p3, nI_p4, nI_q45]
      refine ex_fald _ rfl rfl rfl rfl (by omega) (by omega) rfl ?_
      refine ex_cv rfl rfl rfl rfl o1 rfl (d' := 50) (by omega) e2 ?_
      refine ex_ieqT rfl (rfl) ?_
      refine ex_go 80 rfl ?_
      rw [inc5]
      exact K h2 W2
    · obtain ⟨a, h1, h2, e1, ⟨vs1, o1⟩, e2, W2⟩ := t_read (scr := scr) W (scr.getD (5 * k + 1) 0) (scr.getD (5 * k + 2) 0) (scr.getD (5 * k + 3) 0) (scr.getD (5 * k + 4) 0)
      refine ex_tsw (t := 806) rfl (by decide) ?_
      refine ex_go 80 rfl ?_
      try dsimp only
      try simp only [nI_inc, nI_1, nI_add, nI_mul2, tb_and, tb_or, tb_andn, nI_x5, nI_x2, nI_p0, nI_p2, nI_p3, nI_p4, nI_q45]
      refine ex_fald _ rfl rfl rfl rfl (by omega) (by omega) rfl ?_
      refine ex_go 80 rfl ?_
      try dsimp only
      try simp only [nI_inc, nI_1, nI_add, nI_mul2, tb_and, tb_or, tb_andn, nI_x5, nI_x2, nI_p0, nI_p2, nI_p3, nI_p4, nI_q45]
      refine ex_fald _ rfl rfl rfl rfl (by omega) (by omega) rfl ?_
      refine ex_go 80 rfl ?_
      try dsimp only
      try simp only [nI_inc, nI_1, nI_add, nI_mul2, tb_and, tb_or, tb_andn, nI_x5, nI_x2, nI_p0, nI_p2, nI_p3, nI_p4, nI_q45]
      refine ex_fald _ rfl rfl rfl rfl (by omega) (by omega) rfl ?_
      refine ex_go 80 rfl ?_
      try dsimp only
      try simp only [nI_inc, nI_1, nI_add, nI_mul2, tb_and, tb_or, tb_andn, nI_x5, nI_x2, nI_p0, nI_p2, nI_p3, nI_p4, nI_q45]
      refine ex_fald _ rfl rfl rfl rfl (by omega) (by omega) rfl ?_
      refine ex_cv rfl rfl rfl rfl o0 rfl (d' := 50) (by omega) e1 ?_
      refine ex_go 80 rfl ?_
      try dsimp only
      try simp only [nI_inc, nI_1, nI_add, nI_mul2, tb_and, tb_or, tb_andn, nI_x5, nI_x2, nI_p0, nI_p2, nI_p3, nI_p4, nI_q45]
      refine ex_fald _ rfl rfl rfl rfl (by omega) (by omega) rfl ?_
      refine ex_go 80 rfl ?_
      try dsimp only
      try simp only [nI_inc, nI_1, nI_add, nI_mul2, tb_and, tb_or, tb_andn, nI_x5, nI_x2, nI_p0, nI_p2, nI_p3, nI_p4, nI_q45]
      refine ex_fald _ rfl rfl rfl rfl (by omega) (by omega) rfl ?_
      refine ex_go 80 rfl ?_
      try dsimp only
      try simp only [nI_inc, nI_1, nI_add, nI_mul2, tb_and, tb_or, tb_andn, nI_x5, nI_x2, nI_p0, nI_p2, nI_p3, nI_p4, nI_q45]
      refine ex_fald _ rfl rfl rfl rfl (by omega) (by omega) rfl ?_
      refine ex_go 80 rfl ?_
      try dsimp only
      try simp only [nI_inc, nI_1, nI_add, nI_mul2, tb_and, tb_or, tb_andn, nI_x5, nI_x2, nI_p0, nI_p2, nI_p3, nI_p4, nI_q45]
      refine ex_fald _ rfl rfl rfl rfl (by omega) (by omega) rfl ?_
      refine ex_cv rfl rfl rfl rfl o1 rfl (d' := 50) (by omega) e2 ?_
      refine ex_ieqT rfl (rfl) ?_
      refine ex_go 80 rfl ?_
      rw [inc5]
      exact K h2 W2
    · obtain ⟨a, h1, h2, e1, ⟨vs1, o1⟩, e2, W2⟩ := t_torn (scr := scr) W 
      refine ex_tsw (t := 853) rfl (by decide) ?_
      refine ex_go 80 rfl ?_
      refine ex_cv rfl rfl rfl rfl o0 rfl (d' := 50) (by omega) e1 ?_
      refine ex_go 80 rfl ?_
      refine ex_cv rfl rfl rfl rfl o1 rfl (d' := 50) (by omega) e2 ?_
      refine ex_ieqT rfl (rfl) ?_
      refine ex_go 80 rfl ?_
      rw [inc5]
      exact K h2 W2
    · obtain ⟨a, h1, h2, e1, ⟨vs1, o1⟩, e2, W2⟩ := t_count (scr := scr) W (scr.getD (5 * k + 1) 0)
      refine ex_tsw (t := 860) rfl (by decide) ?_
      refine ex_go 80 rfl ?_
      try dsimp only
      try simp only [nI_inc, nI_1, nI_add, nI_mul2, tb_and, tb_or, tb_andn, nI_x5, nI_x2, nI_p0, nI_p2, nI_p3, nI_p4, nI_q45]
      refine ex_fald _ rfl rfl rfl rfl (by omega) (by omega) rfl ?_
      refine ex_cv rfl rfl rfl rfl o0 rfl (d' := 50) (by omega) e1 ?_
      refine ex_go 80 rfl ?_
      try dsimp only
      try simp only [nI_inc, nI_1, nI_add, nI_mul2, tb_and, tb_or, tb_andn, nI_x5, nI_x2, nI_p0, nI_p2, nI_p3, nI_p4, nI_q45]
      refine ex_fald _ rfl rfl rfl rfl (by omega) (by omega) rfl ?_
      refine ex_cv rfl rfl rfl rfl o1 rfl (d' := 50) (by omega) e2 ?_
      refine ex_ieqT rfl (rfl) ?_
      refine ex_go 80 rfl ?_
      rw [inc5]
      exact K h2 W2
    · refine ex_tsw (t := 877) rfl (tsw_hi (k := 0) (by rw [nI_toInt (by omega)]; omega)) ?_
      refine ex_go 80 rfl ?_
      rw [inc5]
      exact K h0 W
  · obtain ⟨n, f, x, q, im, kp, fk, tl, tp, sv, sl, ss, sc, w1, r1, p, ft, fk2, len⟩ := W
    refine ex_nop rfl ?_
    refine ex_go 80 rfl ?_
    refine ex_alen rfl rfl ?_
    refine ex_go 80 rfl ?_
    try dsimp only
    try simp only [nI_inc, nI_1, nI_add, nI_mul2, tb_and, tb_or, tb_andn, nI_x5, nI_x2, nI_p0, nI_p2, nI_p3, nI_p4, nI_q45]
    show ev_X scr 60 cd_L_law _ _ [.int (nI scr.length - nI 5), _] _ _
    refine ex_igtT rfl (by rw [Int32.lt_iff_toInt_lt, pk_sub_toInt (by omega) (by decide), nI_toInt (by omega)]; omega) ?_
    refine ex_go 80 rfl ?_
    exact ex_tret rfl rfl (⟨rfl, len⟩)
end LAW
def inf : Nat → Nat := fun j => if j = 41 then 12 else if j = 42 then 2 else if 60 ≤ j then 3 else if j % 5 = 3 ∧ j < 40 then 4 else 0
def inq : Nat → Int32 := fun j => if j = 3 then -4 else 0
theorem ta_ini {h : ev_H} {a : Nat} (hO : h[a]? = some (.inr (4, [.int 0, .int 12, .int 2, .int 0, .int 0, .int 0, .ref (a + 1), .ref (a + 2), .ref (a + 3), .ref (a + 4), .ref (a + 5), .ref (a + 6), .ref (a + 7), .ref (a + 8)]))) (h1 : h[a + 1]? = some (.inl (0, [0, 0, 0, 0, 0, 0, 0, 0]))) (h2 : h[a + 2]? = some (.inl (0, [0, 0, 0, 0, 0, 0, 0, 0]))) (h3 : h[a + 3]? = some (.inl (0, [0, 0, 0, 0, 0, 0, 0, 0]))) (h4 : h[a + 4]? = some (.inl (0, [0, 0, 0, 0, 0, 0, 0, 0]))) (h5 : h[a + 5]? = some (.inl (0, [0, 0, 0, 0, 0, 0, 0, 0]))) (h6 : h[a + 6]? = some (.inl (0, [3, 3, 3, 3]))) (h7 : h[a + 7]? = some (.inl (0, [0, 0, 0, 0, 0, 0]))) (h8 : h[a + 8]? = some (.inl (0, [0, 0, 0, 0, 0, 0]))) : TA h a 0 inf :=
  ⟨hO, ⟨_, h1, rfl, fun i _ hp => absurd hp (Nat.not_lt_zero i)⟩, ⟨_, h2, rfl, fun i _ hp => absurd hp (Nat.not_lt_zero i)⟩, ⟨_, h3, rfl, fun i _ hp => absurd hp (Nat.not_lt_zero i)⟩, ⟨_, h4, rfl, fun i _ hp => absurd hp (Nat.not_lt_zero i)⟩, ⟨_, h5, rfl, by decide⟩, ⟨_, h6, rfl, by decide⟩, ⟨_, h7, rfl, fun i _ hp => absurd hp (Nat.not_lt_zero i)⟩, ⟨_, h8, rfl, fun i _ hp => absurd hp (Nat.not_lt_zero i)⟩⟩
theorem la_of {h : ev_H} {k L : Nat} {xs : List Int32} (a : h[k]? = some (.inl (0, xs))) (b : xs.length = L) : LA h k L := ⟨xs, a, b, fun _ _ q => q.elim⟩
theorem wc_ini : WC ini2 0 inf (fun _ => 0) (fun _ => false) (fun _ => inf) 0 (fun _ => 0) (fun _ => false) (fun _ => 0) (fun _ => 0) (fun _ _ => 0) := by
  refine ⟨⟨rfl, rfl⟩, ta_ini rfl rfl rfl rfl rfl rfl rfl rfl rfl, ⟨0, inf, ta_ini rfl rfl rfl rfl rfl rfl rfl rfl rfl⟩, ⟨rfl, ⟨_, rfl, rfl, by decide⟩, fun k hk => ?_⟩, ⟨rfl, fun k hk => ?_⟩, ⟨_, rfl, rfl, fun i _ hp => absurd hp (Nat.not_lt_zero i)⟩, ⟨⟨fun _ => 0, _, _, rfl⟩, la_of rfl rfl⟩, ⟨⟨_, _, rfl⟩, la_of rfl rfl, la_of rfl rfl, la_of rfl rfl, la_of rfl rfl⟩, ⟨_, _, _, _, _, rfl⟩⟩
  · rcases (by omega : k = 0 ∨ k = 1) with rfl | rfl
    · exact ⟨0, inf, ta_ini rfl rfl rfl rfl rfl rfl rfl rfl rfl, fun c => absurd c (by decide)⟩
    · exact ⟨0, inf, ta_ini rfl rfl rfl rfl rfl rfl rfl rfl rfl, fun c => absurd c (by decide)⟩
  · rcases (by omega : k = 0 ∨ k = 1 ∨ k = 2 ∨ k = 3) with rfl | rfl | rfl | rfl
    · exact ⟨rfl, ⟨_, rfl, rfl, by decide⟩⟩
    · exact ⟨rfl, ⟨_, rfl, rfl, by decide⟩⟩
    · exact ⟨rfl, ⟨_, rfl, rfl, by decide⟩⟩
    · exact ⟨rfl, ⟨_, rfl, rfl, by decide⟩⟩
theorem wr_ini : WR ini2 0 inf inq (fun _ => 0) (fun _ => false) (fun _ => inf) 0 (fun _ => 0) (fun _ => false) (fun _ => 0) (fun _ => 0) (fun _ _ => 0) := by
  refine ⟨⟨rfl, rfl⟩, ⟨_, rfl, rfl, by decide +kernel⟩, ⟨la_of rfl rfl, la_of rfl rfl, la_of rfl rfl⟩, ⟨_, rfl, rfl, by decide⟩, ⟨⟨_, rfl, rfl, by decide⟩, fun k _ c => absurd (show false = true from c) (by decide)⟩, ⟨la_of rfl rfl, la_of rfl rfl⟩, ⟨_, rfl, rfl, fun i _ hp => absurd hp (Nat.not_lt_zero i)⟩, ⟨⟨_, rfl, rfl, by decide⟩, ⟨_, rfl, rfl, by decide⟩, ⟨_, rfl, rfl, by decide +kernel⟩⟩, la_of rfl rfl⟩
theorem wld_ini : WLD ini2 := ⟨0, inf, _, _, _, _, _, _, _, _, _, _, _, wc_ini, wr_ini, ⟨by unfold GD; decide, ⟨rfl, rfl⟩, fun k _ c => absurd (show false = true from c) (by decide), by decide, fun i hi => absurd hi (Nat.not_lt_zero i), fun _ _ => ⟨Nat.zero_le _, Nat.zero_le _⟩⟩, by unfold FIT; decide, fun k _ c => absurd (show false = true from c) (by decide), rfl⟩
theorem law_runs (scr : List Int32) (hs : scr.length ≤ 320) : ∃ h', List.length h' ≤ 1000 ∧ ev_V scr 60 cd_L_law 0 [.retAddr 0, .float 0, .float 0, .float 0] [] [] (some (.int 1), h') := by
  obtain ⟨v, h', e, rfl, len⟩ := law_loop hs wld_ini
  refine ⟨h', by omega, ?_⟩
  refine ev_step rfl (h' := ini0) rfl ?_
  refine ev_go 1 rfl ?_
  refine ev_call rfl rfl rfl rfl (d' := 2) (by decide) (ini_x scr) ?_
  refine ev_go 1 rfl ?_
  refine ev_step rfl (h' := ini1 ++ [.inr (6, ev_df 6)]) rfl ?_
  refine ev_go 1 rfl ?_
  refine ev_call rfl rfl rfl rfl (d' := 2) (by decide) (ini_m scr) ?_
  refine ev_go 3 rfl ?_
  exact e
