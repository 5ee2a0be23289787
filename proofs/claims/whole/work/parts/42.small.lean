/-! Small calls: tape, images, sheets. -/
def ux (x : Nat → Int32) (i : Nat) (v : Int32) : Nat → Int32 := fun j => if j = i then v else x j
theorem ux_eq {x : Nat → Int32} {i : Nat} {v : Int32} : ux x i v i = v := if_pos rfl
theorem ux_ne {x : Nat → Int32} {i j : Nat} {v : Int32} (h : j ≠ i) : ux x i v j = x j := if_neg h
def CE (h h' : ev_H) : Prop := h'.length = h.length ∧ ∀ j, 57 ≤ j → h'[j]? = h[j]?
def RE (h h' : ev_H) : Prop := h'.length = h.length ∧ ∀ j, j ≤ 56 → h'[j]? = h[j]?
theorem CE.rf {h : ev_H} : CE h h := ⟨rfl, fun _ _ => rfl⟩
theorem RE.rf {h : ev_H} : RE h h := ⟨rfl, fun _ _ => rfl⟩
theorem CE.tr {h h1 h2 : ev_H} (x : CE h h1) (y : CE h1 h2) : CE h h2 := ⟨y.1.trans x.1, fun j a => (y.2 j a).trans (x.2 j a)⟩
theorem RE.tr {h h1 h2 : ev_H} (x : RE h h1) (y : RE h1 h2) : RE h h2 := ⟨y.1.trans x.1, fun j a => (y.2 j a).trans (x.2 j a)⟩
theorem SB.ce {h h' : ev_H} {k : Nat} (x : SB k h h') (hk : k < 57) : CE h h' := ⟨x.1, fun j a => x.2 j (by omega)⟩
theorem SB.re {h h' : ev_H} {k : Nat} (x : SB k h h') (hk : 56 < k) : RE h h' := ⟨x.1, fun j a => x.2 j (by omega)⟩
theorem FR.ce {h h' : ev_H} {a b : Nat} (x : FR a b h h') (hk : b < 57) : CE h h' := ⟨x.1, fun j _ => x.2 j (by omega)⟩
def a_feed (tl : Nat) (c : Int32) : Int32 := if isM 128 c = true then (if tl = 160 then -3 else nI (tl + 1)) else -1
def s_feed (tl : Nat) (c : Int32) : Nat := if isM 128 c = true then (if tl = 160 then tl else tl + 1) else tl
def t_feed (tl : Nat) (tp : Nat → Nat) (c : Int32) : Nat → Nat := if isM 128 c = true then (if tl = 160 then tp else up tp tl (ix c)) else tp
def a_end (tl : Nat) (m : Int32) : Int32 := if isM (tl + 1) m = true then nI tl else -1
def s_end (tl : Nat) (m : Int32) : Nat := if isM (tl + 1) m = true then ix m else tl
theorem byt : ∀ c, c < 128 → vp_nar .byte ((nI c).toInt8.toInt32) = nI c := by decide +kernel
def ukp (kp : Nat → Bool) (i : Nat) : Nat → Bool := fun j => if j = i then true else kp j
def ufk (fk : Nat → Nat → Nat) (i : Nat) (f : Nat → Nat) : Nat → Nat → Nat := fun j => if j = i then f else fk j
def a_keep (kp : Nat → Bool) (k : Int32) : Int32 := if isM 2 k = true then nI (tb_b (kp (ix k))) else -1
def a_back (kp : Nat → Bool) (fk : Nat → Nat → Nat) (k : Int32) : Int32 := if isM 2 k = true then (if kp (ix k) = true then nI (fk (ix k) 43) else -2) else -1
section SMALL
variable {scr : List Int32} {d : Nat} {h : ev_H} {n : Nat} {f : Nat → Nat} {x q im : Nat → Int32} {kp : Nat → Bool} {fk : Nat → Nat → Nat} {tl : Nat} {tp : Nat → Nat}
theorem k_feed (hC : CO h x) (hx : x 0 = nI tl) (hTp : BA h 22 1 160 (fun i => i < tl) (fun i => nI (tp i))) (ht : tl ≤ 160) {c : Int32} : ev_X scr d cd_X5_feed 0 [.ref 0, .int c] [] h (fun v h' => v = some (.int (a_feed tl c)) ∧ CO h' (ux x 0 (nI (s_feed tl c))) ∧ BA h' 22 1 160 (fun i => i < s_feed tl c) (fun i => nI (t_feed tl tp c i)) ∧ h'.length = h.length ∧ ∀ j, j ≠ 0 → j ≠ 22 → h'[j]? = h[j]?) := by
  have same : ux x 0 (nI tl) = x := by
    funext j
    unfold ux
    split
    · rename_i e; rw [e, hx]
    · rfl
  unfold a_feed s_feed t_feed
  refine ex_go 80 rfl ?_
  refine ex_zlt rfl (fun hc => ?_) (fun hc => ?_)
  · rw [isM_lo hc]
    refine ex_go 80 rfl ?_
    exact ex_iret rfl (⟨rfl, by rw [if_neg (by decide), same]; exact hC, hTp, rfl, fun _ _ _ => rfl⟩)
  · refine ex_go 80 rfl ?_
    refine ex_ile rfl (fun k1 => ?_) (fun k1 => ?_)
    · have hk : isM 128 c = true := isM_in (by decide) hc (fun z => by
        have a := Int32.le_iff_toInt_le.mp k1
        have b := Int32.le_iff_toInt_le.mp z
        rw [show (127 : Int32).toInt = 127 by decide] at a
        rw [nI_toInt (by decide)] at b
        omega)
      obtain ⟨j, hj, rfl⟩ := isM_of hk (by decide)
      rw [hk, ix_nI (by omega)]
      refine ex_go 80 rfl ?_
      refine ex_getf rfl hC rfl rfl ?_
      refine ex_go 80 rfl ?_
      rw [hx]
      refine ex_ilt rfl (fun k2 => ?_) (fun k2 => ?_)
      · have k3 : tl < 160 := (nI_ltI (b := 160) (by omega) (by decide)).mp k2
        simp only [if_pos, if_neg (show ¬ tl = 160 by omega)]
        refine ex_go 80 rfl ?_
        refine ex_getf rfl hC rfl rfl ?_
        refine ex_go 80 rfl ?_
        refine ex_getf rfl hC rfl rfl ?_
        refine ex_go 80 rfl ?_
        try dsimp only
        try simp only [nI_inc, nI_1, nI_add, nI_mul2, tb_and, tb_or, tb_andn]
        rw [hx]
        refine ex_bs _ rfl hTp rfl (Or.inl ⟨rfl, byt j hj⟩) (by omega) (by omega) (fun h1 hA1 hB1 => ?_)
        have hC1 := (hB1.2 0 (by decide)).trans hC
        refine ex_go 80 rfl ?_
        refine ex_getf rfl hC1 rfl rfl ?_
        refine ex_go 80 rfl ?_
        try dsimp only
        try simp only [nI_inc, nI_1, nI_add, nI_mul2, tb_and, tb_or, tb_andn]
        rw [hx, nI_1]
        refine ex_pf rfl hC1 rfl rfl (fun h2 hO2 hB2 => ?_)
        have hC2 : CO h2 (ux x 0 (nI (tl + 1))) := hO2
        refine ex_go 80 rfl ?_
        refine ex_getf rfl hC2 rfl rfl ?_
        rw [ux_eq]
        exact ex_iret rfl (⟨rfl, hC2, (hA1.kept (hB2.2 22 (by decide))).congr (fun i hi hp => ⟨by omega, by unfold up; by_cases c : i = tl <;> simp [c]⟩), hB2.1.trans hB1.1, fun j a b => (hB2.2 j a).trans (hB1.2 j b)⟩)
      · have k3 : ¬ tl < 160 := fun z => k2 ((nI_ltI (b := 160) (by omega) (by decide)).mpr z)
        simp only [if_pos, if_pos (show tl = 160 by omega)]
        refine ex_go 80 rfl ?_
        exact ex_iret rfl (⟨rfl, by rw [same]; exact hC, hTp, rfl, fun _ _ _ => rfl⟩)
    · have hk : isM 128 c = false := isM_hi (by decide) (by
        rw [Int32.le_iff_toInt_le, nI_toInt (by decide)]
        have : ¬ c.toInt ≤ (127 : Int32).toInt := fun z => k1 (Int32.le_iff_toInt_le.mpr z)
        rw [show (127 : Int32).toInt = 127 by decide] at this
        omega)
      rw [hk]
      refine ex_go 80 rfl ?_
      exact ex_iret rfl (⟨rfl, by rw [if_neg (by decide), same]; exact hC, hTp, rfl, fun _ _ _ => rfl⟩)
theorem r_feed (hM : MO h n q) (hq : q 4 = nI tl) (hTp : IA h 64 160 (fun i => i < tl) (fun i => nI (tp i))) (ht : tl ≤ 160) {c : Int32} (hd : 1 ≤ d) : ev_X scr d cd_X6_feed 0 [.ref 57, .int c] [] h (fun v h' => v = some (.int (a_feed tl c)) ∧ MO h' n (ux q 4 (nI (s_feed tl c))) ∧ IA h' 64 160 (fun i => i < s_feed tl c) (fun i => nI (t_feed tl tp c i)) ∧ h'.length = h.length ∧ ∀ j, j ≠ 57 → j ≠ 64 → h'[j]? = h[j]?) := by
  have same : ux q 4 (nI tl) = q := by
    funext j
    unfold ux
    split
    · rename_i e; rw [e, hq]
    · rfl
  unfold a_feed s_feed t_feed
  refine ex_go 80 rfl ?_
  try dsimp only
  try simp only [nI_inc, nI_1, nI_add, nI_mul2, tb_and, tb_or, tb_andn, nI_x5, nI_x2, nI_p0, nI_p2, nI_p3, nI_p4, nI_q45]
  refine ex_cs rfl rfl rfl (d' := 0) (by omega) (c_in0 128 (by decide)) ?_
  cases hk : isM 128 c
  · refine ex_zneF rfl (by decide) ?_
    refine ex_go 80 rfl ?_
    exact ex_iret rfl (⟨rfl, by rw [if_neg (by decide), same]; exact hM, hTp, rfl, fun _ _ _ => rfl⟩)
  · obtain ⟨j, hj, rfl⟩ := isM_of hk (by decide)
    rw [ix_nI (by omega)]
    refine ex_zneT rfl (by decide) ?_
    refine ex_go 80 rfl ?_
    refine ex_getf rfl hM rfl rfl ?_
    refine ex_go 80 rfl ?_
    rw [hq]
    by_cases k2 : tl = 160
    · simp only [if_pos, if_pos k2]
      refine ex_ineF rfl (by rw [k2]; rfl) ?_
      refine ex_go 80 rfl ?_
      exact ex_iret rfl (⟨rfl, by rw [same]; exact hM, hTp, rfl, fun _ _ _ => rfl⟩)
    · simp only [if_pos, if_neg k2]
      refine ex_ineT rfl (fun z => k2 ((nI_eq (b := 160) (by omega) (by decide)).mp z)) ?_
      refine ex_go 80 rfl ?_
      refine ex_getf rfl hM rfl rfl ?_
      refine ex_go 80 rfl ?_
      refine ex_getf rfl hM rfl rfl ?_
      refine ex_go 80 rfl ?_
      rw [hq]
      refine ex_is _ rfl hTp rfl (by omega) (by omega) (fun h1 hA1 hB1 => ?_)
      have hM1 := hB1.mo hM (by decide)
      refine ex_go 80 rfl ?_
      refine ex_getf rfl hM1 rfl rfl ?_
      refine ex_go 80 rfl ?_
      try dsimp only
      try simp only [nI_inc, nI_1, nI_add, nI_mul2, tb_and, tb_or, tb_andn, nI_x5, nI_x2, nI_p0, nI_p2, nI_p3, nI_p4, nI_q45]
      rw [hq, nI_1]
      refine ex_pf rfl hM1 rfl rfl (fun h2 hO2 hB2 => ?_)
      have hM2 : MO h2 n (ux q 4 (nI (tl + 1))) := hO2
      refine ex_go 80 rfl ?_
      refine ex_getf rfl hM2 rfl rfl ?_
      rw [ux_eq]
      exact ex_iret rfl (⟨rfl, hM2, (hA1.sb hB2 (by decide)).congr (fun i hi hp => ⟨by omega, by unfold up; by_cases c : i = tl <;> simp [c]⟩), hB2.1.trans hB1.1, fun j a b => (hB2.2 j a).trans (hB1.2 j b)⟩)
theorem k_end (hC : CO h x) (hx : x 0 = nI tl) (ht : tl ≤ 160) {m : Int32} : ev_X scr d cd_X5_end 0 [.ref 0, .int m, .float 0] [] h (fun v h' => v = some (.int (a_end tl m)) ∧ CO h' (ux x 0 (nI (s_end tl m))) ∧ SB 0 h h') := by
  have same : ux x 0 (nI tl) = x := by
    funext j
    unfold ux
    split
    · rename_i e; rw [e, hx]
    · rfl
  unfold a_end s_end
  refine ex_go 80 rfl ?_
  refine ex_zlt rfl (fun hc => ?_) (fun hc => ?_)
  · rw [isM_lo hc]
    refine ex_go 80 rfl ?_
    exact ex_iret rfl (⟨rfl, by rw [if_neg (by decide), same]; exact hC, SB.rf⟩)
  · refine ex_go 80 rfl ?_
    refine ex_getf rfl hC rfl rfl ?_
    rw [hx]
    refine ex_ile rfl (fun k1 => ?_) (fun k1 => ?_)
    · have hk : isM (tl + 1) m = true := isM_in (by omega) hc (fun z => by
        have a := Int32.le_iff_toInt_le.mp k1
        have b := Int32.le_iff_toInt_le.mp z
        rw [nI_toInt (by omega)] at a b
        omega)
      obtain ⟨j, hj, rfl⟩ := isM_of hk (by omega)
      rw [hk, ix_nI (by omega), if_pos rfl, if_pos rfl]
      refine ex_go 80 rfl ?_
      refine ex_getf rfl hC rfl rfl ?_
      refine ex_go 80 rfl ?_
      rw [hx]
      refine ex_pf rfl hC rfl rfl (fun h1 hO1 hB1 => ?_)
      refine ex_go 80 rfl ?_
      exact ex_iret rfl (⟨rfl, hO1, hB1⟩)
    · have hk : isM (tl + 1) m = false := isM_hi (by omega) (by
        rw [Int32.le_iff_toInt_le, nI_toInt (by omega)]
        have : ¬ m.toInt ≤ (nI tl).toInt := fun z => k1 (Int32.le_iff_toInt_le.mpr z)
        rw [nI_toInt (by omega)] at this
        omega)
      rw [hk]
      refine ex_go 80 rfl ?_
      exact ex_iret rfl (⟨rfl, by rw [if_neg (by decide), same]; exact hC, SB.rf⟩)
theorem r_end (hM : MO h n q) (hq : q 4 = nI tl) (ht : tl ≤ 160) {m : Int32} (hd : 1 ≤ d) : ev_X scr d cd_X6_end 0 [.ref 57, .int m, .float 0] [] h (fun v h' => v = some (.int (a_end tl m)) ∧ MO h' n (ux q 4 (nI (s_end tl m))) ∧ SB 57 h h') := by
  have same : ux q 4 (nI tl) = q := by
    funext j
    unfold ux
    split
    · rename_i e; rw [e, hq]
    · rfl
  unfold a_end s_end
  refine ex_go 80 rfl ?_
  try dsimp only
  try simp only [nI_inc, nI_1, nI_add, nI_mul2, tb_and, tb_or, tb_andn, nI_x5, nI_x2, nI_p0, nI_p2, nI_p3, nI_p4, nI_q45]
  refine ex_getf rfl hM rfl rfl ?_
  refine ex_go 80 rfl ?_
  try dsimp only
  try simp only [nI_inc, nI_1, nI_add, nI_mul2, tb_and, tb_or, tb_andn, nI_x5, nI_x2, nI_p0, nI_p2, nI_p3, nI_p4, nI_q45]
  rw [hq]
  refine ex_cs rfl rfl rfl (d' := 0) (by omega) (c_in0 (tl + 1) (by rw [Int32.toInt_toInt64, nI_toInt (by omega)]; omega)) ?_
  cases hk : isM (tl + 1) m
  · refine ex_zneF rfl (by decide) ?_
    refine ex_go 80 rfl ?_
    exact ex_iret rfl (⟨rfl, by rw [if_neg (by decide), same]; exact hM, SB.rf⟩)
  · obtain ⟨j, hj, rfl⟩ := isM_of hk (by omega)
    rw [ix_nI (by omega), if_pos rfl, if_pos rfl]
    refine ex_zneT rfl (by decide) ?_
    refine ex_go 80 rfl ?_
    refine ex_getf rfl hM rfl rfl ?_
    refine ex_go 80 rfl ?_
    rw [hq]
    refine ex_pf rfl hM rfl rfl (fun h1 hO1 hB1 => ?_)
    refine ex_go 80 rfl ?_
    exact ex_iret rfl (⟨rfl, hO1, hB1⟩)
theorem k_fault (hC : CO h x) : ev_X scr d cd_X5_fault 0 [.ref 0] [] h (fun v h' => v = some (.int (x 1)) ∧ h' = h) := by
  refine ex_go 80 rfl ?_
  refine ex_getf rfl hC rfl rfl ?_
  exact ex_iret rfl (⟨rfl, rfl⟩)
theorem r_fault (hM : MO h n q) : ev_X scr d cd_X6_fault 0 [.ref 57] [] h (fun v h' => v = some (.int (q 9)) ∧ h' = h) := by
  refine ex_go 80 rfl ?_
  refine ex_getf rfl hM rfl rfl ?_
  exact ex_iret rfl (⟨rfl, rfl⟩)
theorem k_torn (hC : CO h x) : ev_X scr d cd_X5_torn 0 [.ref 0] [] h (fun v h' => v = some (.int (x 2)) ∧ h' = h) := by
  refine ex_go 80 rfl ?_
  refine ex_getf rfl hC rfl rfl ?_
  exact ex_iret rfl (⟨rfl, rfl⟩)
theorem r_torn (hM : MO h n q) : ev_X scr d cd_X6_torn 0 [.ref 57] [] h (fun v h' => v = some (.int (q 11)) ∧ h' = h) := by
  refine ex_go 80 rfl ?_
  refine ex_getf rfl hM rfl rfl ?_
  exact ex_iret rfl (⟨rfl, rfl⟩)
theorem k_keep (hC : CO h x) (hT : TA h 1 n f) (hI : IMc h n kp fk) {k : Int32} (hd : 2 ≤ d) : ev_X scr d cd_X5_keep 0 [.ref 0, .int k, .float 0] [] h (fun v h' => v = some (.int (a_keep kp k)) ∧ (if isM 2 k = true then IMc h' n (ukp kp (ix k)) (ufk fk (ix k) f) else IMc h' n kp fk) ∧ h'.length = h.length ∧ ∀ j, j ≠ 20 → (j < 31 ∨ 48 < j) → h'[j]? = h[j]?) := by
  unfold a_keep
  refine ex_go 80 rfl ?_
  refine ex_cs rfl rfl rfl (d' := 0) (by omega) (c_isWithin (k := 1) (by decide)) ?_
  show ev_X scr d cd_X5_keep _ _ [.int (nI (tb_b (isM 2 k)))] _ _
  cases hw : isM 2 k
  · refine ex_zneF rfl (by decide) ?_
    refine ex_go 80 rfl ?_
    exact ex_iret rfl (⟨rfl, hI, rfl, fun _ _ _ => rfl⟩)
  · obtain ⟨i, hi, rfl⟩ := isM_of hw (by decide)
    rw [ix_nI (by omega), if_pos rfl]
    obtain ⟨i1, i2, i3⟩ := hI
    obtain ⟨n2, f2, hG, hk2⟩ := i3 i hi
    refine ex_zneT rfl (by decide) ?_
    refine ex_go 80 rfl ?_
    refine ex_getf rfl hC rfl rfl ?_
    refine ex_go 80 rfl ?_
    refine ex_ba _ rfl i2 (by decide) rfl (by first | exact trivial | assumption | (show _ < _; omega)) (by omega) (by omega) rfl ?_
    refine ex_zeqM 1 2 14 (v := nI (tb_b (kp i))) rfl rfl rfl (by cases kp i <;> rfl) ?_
    refine ex_go 80 rfl ?_
    refine ex_getf rfl hC rfl rfl ?_
    refine ex_go 80 rfl ?_
    refine ex_aald _ rfl i1 rfl rfl (hi) (by omega) (imgs_g hi) ?_
    refine ex_go 80 rfl ?_
    refine ex_getf rfl hC rfl rfl ?_
    refine ex_cvx rfl rfl rfl rfl hG.1 rfl (d' := 1) (by omega) (c_copyFrom hG hT (by omega) rfl (Nat.le_refl _)) ?_
    rintro v1 h1 ⟨rfl, hG1, hF1⟩
    have hC1 := (hF1.2 0 (by omega)).trans hC
    have i21 := i2.kept (hF1.2 20 (by omega))
    refine ex_go 80 rfl ?_
    refine ex_getf rfl hC1 rfl rfl ?_
    refine ex_go 80 rfl ?_
    refine ex_bs _ rfl i21 rfl (Or.inr ⟨rfl, show vp_nar .boolean 1 = nI 1 from rfl⟩) (by omega) (by omega) (fun h2 hA2 hB2 => ?_)
    refine ex_go 80 rfl (ex_iret rfl ⟨rfl, ?_, hB2.1.trans hF1.1, fun j a b => (hB2.2 j a).trans (hF1.2 j (by omega))⟩)
    refine ⟨((hB2.2 19 (by decide)).trans (hF1.2 19 (by omega))).trans i1, hA2.congr (fun j hj _ => ⟨Or.inl trivial, by unfold ukp; by_cases c : j = i <;> simp [c, tb_b]⟩), fun j hj => ?_⟩
    by_cases c : j = i
    · refine ⟨n, f, ?_, fun _ => ⟨rfl, by unfold ufk; rw [if_pos c]⟩⟩
      rw [c]
      exact hG1.same (fun l _ _ => hB2.2 l (by omega))
    · obtain ⟨n3, f3, hG3, hk3⟩ := i3 j hj
      refine ⟨n3, f3, (hG3.kept hF1 (by omega)).same (fun l _ _ => hB2.2 l (by omega)), fun z => ?_⟩
      unfold ukp at z
      rw [if_neg c] at z
      obtain ⟨a, b⟩ := hk3 z
      exact ⟨a, by unfold ufk; rw [if_neg c]; exact b⟩
theorem k_back (hC : CO h x) (hT : TA h 1 n f) (hI : IMc h n kp fk) {k : Int32} (hd : 2 ≤ d) : ev_X scr d cd_X5_back 0 [.ref 0, .int k] [] h (fun v h' => v = some (.int (a_back kp fk k)) ∧ TA h' 1 n (if (isM 2 k && kp (ix k)) = true then fk (ix k) else f) ∧ FR 1 (1 + 8) h h') := by
  unfold a_back
  refine ex_go 80 rfl ?_
  refine ex_cs rfl rfl rfl (d' := 0) (by omega) (c_isWithin (k := 1) (by decide)) ?_
  show ev_X scr d cd_X5_back _ _ [.int (nI (tb_b (isM 2 k)))] _ _
  cases hw : isM 2 k
  · refine ex_zneF rfl (by decide) ?_
    refine ex_go 80 rfl ?_
    exact ex_iret rfl (⟨rfl, hT, FR.rf⟩)
  · obtain ⟨i, hi, rfl⟩ := isM_of hw (by decide)
    rw [ix_nI (by omega), if_pos rfl, Bool.true_and]
    obtain ⟨i1, i2, i3⟩ := hI
    obtain ⟨n2, f2, hG, hk2⟩ := i3 i hi
    refine ex_zneT rfl (by decide) ?_
    refine ex_go 80 rfl ?_
    refine ex_getf rfl hC rfl rfl ?_
    refine ex_go 80 rfl ?_
    refine ex_ba _ rfl i2 (by decide) rfl (by first | exact trivial | assumption | (show _ < _; omega)) (by omega) (by omega) rfl ?_
    cases hk : kp i
    · refine ex_zneF rfl (by decide) ?_
      refine ex_go 80 rfl ?_
      exact ex_iret rfl (⟨rfl, hT, FR.rf⟩)
    · obtain ⟨rfl, rfl⟩ := hk2 hk
      refine ex_zneT rfl (by decide) ?_
      refine ex_go 80 rfl ?_
      refine ex_getf rfl hC rfl rfl ?_
      refine ex_go 80 rfl ?_
      refine ex_getf rfl hC rfl rfl ?_
      refine ex_go 80 rfl ?_
      refine ex_aald _ rfl i1 rfl rfl (hi) (by omega) (imgs_g hi) ?_
      refine ex_cvx rfl rfl rfl rfl hT.1 rfl (d' := 1) (by omega) (c_copyFrom hT hG (by omega) rfl (Nat.le_refl _)) ?_
      rintro v1 h1 ⟨rfl, hT1, hF1⟩
      have hC1 := (hF1.2 0 (by decide)).trans hC
      refine ex_go 80 rfl ?_
      refine ex_getf rfl hC1 rfl rfl ?_
      refine ex_getf rfl hT1.1 rfl rfl ?_
      exact ex_iret rfl (⟨rfl, hT1, hF1⟩)
end SMALL
