/-! text: what the model reads behind a word. -/
abbrev DRF (h : ev_H) (f : Nat → Nat) : Prop := IA h 62 57 (fun _ => True) (rv f)
abbrev DMF (h : ev_H) (f : Nat → Nat) : Prop := IA h 63 4 (fun _ => True) (fun t => nI (f (60 + t)))
def RFm (h h' : ev_H) : Prop := h'.length = h.length ∧ ∀ j, j ≠ 57 → j ≠ 62 → j ≠ 63 → h'[j]? = h[j]?
theorem RFm.rf {h : ev_H} : RFm h h := ⟨rfl, fun _ _ _ _ => rfl⟩
theorem RFm.tr {h h1 h2 : ev_H} (x : RFm h h1) (y : RFm h1 h2) : RFm h h2 := ⟨y.1.trans x.1, fun j a b c => (y.2 j a b c).trans (x.2 j a b c)⟩
theorem SB.rm {h h' : ev_H} {k : Nat} (x : SB k h h') (hk : k = 57 ∨ k = 62 ∨ k = 63) : RFm h h' := ⟨x.1, fun j a b c => x.2 j (by omega)⟩
theorem DRs {h1 : ev_H} {f : Nat → Nat} {k v : Nat} {x : Int32} {P : Nat → Prop} (hA : IA h1 62 57 P (fun i => if i = k then x else rv f i)) (hP : ∀ i, P i) (hx : x = rvx k v) : DRF h1 (up f k v) := hA.congr (fun i _ _ => ⟨hP i, by
  by_cases c : i = k
  · rw [if_pos c, hx, c, rv, up_eq]; rfl
  · rw [if_neg c, rv, rv, up_ne c]⟩)
theorem hI_max : ∀ a, a < 8 → ∀ hg, hg < 9 → (if nI a ≤ hIg hg then hIg hg else nI a) = hIg (max hg (a + 1)) := by decide
section MREAD
variable {scr : List Int32} {d : Nat} {h : ev_H} {n : Nat} {q : Nat → Int32} {tp : Nat → Nat} {tl p : Nat} {s : Sum (Nat × Nat) Nat} {f : Nat → Nat}
theorem vl_hi {lo hi : Nat} : vlS tp tl (lkS tp tl s lo hi) ≤ hi := by
  cases hs : lkS tp tl s lo hi with
  | inl e => exact Nat.zero_le _
  | inr r =>
    obtain ⟨h1, b1⟩ := ndS_r hs
    rw [decide_eq_true_eq] at b1
    exact b1.2
theorem c_readManA {k nn : Nat} (hM : MO h n q) (hTp : IA h 64 160 (fun i => i < tl) (fun i => nI (tp i))) (hq : q 4 = nI tl) (ht : tl ≤ 160) (hb : ∀ i, i < tl → tp i < 128) (m : MQS tp tl s q) (hD : DRF h f) (h0 : q 0 = nI nn) (hn : nn < 8) (hk : k ≤ 1) (hd : 4 ≤ d) : ev_X scr d cd_X6_readMan 0 [.ref 57, .int (nI k), .float 0] [] h (fun v h' => v = none ∧ RFm h h' ∧ ∃ q', MO h' n q' ∧ MQS tp tl (nxS tp tl (lkS tp tl (nxS tp tl (lkS tp tl (nxS tp tl (lkS tp tl s 0 9)) 0 99)) 0 3)) q' ∧ q' 0 = nI (nn + 1) ∧ (∀ j, (1 ≤ j ∧ j < 5) ∨ j = 11 → q' j = q j) ∧ DRF h' (adF f nn k (vlS tp tl (lkS tp tl s 0 9)) (vlS tp tl (lkS tp tl (nxS tp tl (lkS tp tl s 0 9)) 0 99)) (vlS tp tl (lkS tp tl (nxS tp tl (lkS tp tl (nxS tp tl (lkS tp tl s 0 9)) 0 99)) 0 3))) ∧ h'[63]? = h[63]?) := by
  refine ex_go 80 rfl ?_
  refine ex_getf rfl hM rfl rfl ?_
  refine ex_go 80 rfl ?_
  try dsimp only
  try simp only [nI_inc, nI_1, nI_add, nI_mul2, tb_and, tb_or, tb_andn, nI_x5, nI_x2, nI_p0, nI_p2, nI_p3, nI_p4, nI_q45]
  refine ex_getf rfl hM rfl rfl ?_
  refine ex_go 80 rfl ?_
  try dsimp only
  try simp only [nI_inc, nI_1, nI_add, nI_mul2, tb_and, tb_or, tb_andn, nI_x5, nI_x2, nI_p0, nI_p2, nI_p3, nI_p4, nI_q45]
  rw [h0, nI_x5, nI_p0]
  refine ex_is _ rfl hD rfl (by omega) (by omega) (fun h1 hA1 hB1 => ?_)
  have hD1 := DRs (v := k) hA1 (fun _ => Or.inl trivial) (rvx_n (by omega)).symm
  have hM1 := hB1.mo hM (by decide)
  refine ex_go 80 rfl ?_
  refine ex_getf rfl hM1 rfl rfl ?_
  refine ex_go 80 rfl ?_
  try dsimp only
  try simp only [nI_inc, nI_1, nI_add, nI_mul2, tb_and, tb_or, tb_andn, nI_x5, nI_x2, nI_p0, nI_p2, nI_p3, nI_p4, nI_q45]
  refine ex_ineT rfl (fun z => absurd ((nI_eq (b := 2) (by omega) (by decide)).mp z) (by omega)) ?_
  refine ex_go 80 rfl ?_
  refine ex_cvx rfl rfl rfl rfl hM1 rfl (d' := 3) (by omega) (c_readNumber (s := s) (lo := 0) (hi := 9) hM1 (hTp.sb hB1 (by decide)) hq ht hb m (by decide) (by decide) (Nat.le_refl _)) ?_
  rintro v2 h2 ⟨rfl, hB2, q2, hM2, m2, e2⟩
  have hD2 := hD1.sb hB2 (by decide)
  refine ex_is _ rfl hD2 rfl (by omega) (by omega) (fun h3 hA3 hB3 => ?_)
  have hD3 := DRs (v := vlS tp tl (lkS tp tl s 0 9)) hA3 (fun _ => Or.inl trivial) (rvx_n (by omega)).symm
  have hM3 := hB3.mo hM2 (by decide)
  refine ex_go 80 rfl ?_
  refine ex_getf rfl hM3 rfl rfl ?_
  refine ex_go 80 rfl ?_
  try dsimp only
  try simp only [nI_inc, nI_1, nI_add, nI_mul2, tb_and, tb_or, tb_andn, nI_x5, nI_x2, nI_p0, nI_p2, nI_p3, nI_p4, nI_q45]
  refine ex_cvx rfl rfl rfl rfl hM3 rfl (d' := 3) (by omega) (c_readNumber (s := nxS tp tl (lkS tp tl s 0 9)) (lo := 0) (hi := 99) hM3 (((hTp.sb hB1 (by decide)).sb hB2 (by decide)).sb hB3 (by decide)) ((e2 4 (by omega)).trans hq) ht hb m2 (by decide) (by decide) (Nat.le_refl _)) ?_
  rintro v4 h4 ⟨rfl, hB4, q4, hM4, m4, e4⟩
  have hD4 := hD3.sb hB4 (by decide)
  refine ex_is _ rfl hD4 rfl (by omega) (by omega) (fun h5 hA5 hB5 => ?_)
  have hD5 := DRs (v := vlS tp tl (lkS tp tl (nxS tp tl (lkS tp tl s 0 9)) 0 99)) hA5 (fun _ => Or.inl trivial) (rvx_n (by omega)).symm
  have hM5 := hB5.mo hM4 (by decide)
  refine ex_go 80 rfl ?_
  refine ex_getf rfl hM5 rfl rfl ?_
  refine ex_go 80 rfl ?_
  try dsimp only
  try simp only [nI_inc, nI_1, nI_add, nI_mul2, tb_and, tb_or, tb_andn, nI_x5, nI_x2, nI_p0, nI_p2, nI_p3, nI_p4, nI_q45]
  refine ex_ineT rfl (fun z => absurd ((nI_eq (b := 3) (by omega) (by decide)).mp z) (by omega)) ?_
  refine ex_go 80 rfl ?_
  refine ex_cvx rfl rfl rfl rfl hM5 rfl (d' := 3) (by omega) (c_readNumber (s := nxS tp tl (lkS tp tl (nxS tp tl (lkS tp tl s 0 9)) 0 99)) (lo := 0) (hi := 3) hM5 (((((hTp.sb hB1 (by decide)).sb hB2 (by decide)).sb hB3 (by decide)).sb hB4 (by decide)).sb hB5 (by decide)) ((e4 4 (by omega)).trans ((e2 4 (by omega)).trans hq)) ht hb m4 (by decide) (by decide) (Nat.le_refl _)) ?_
  rintro v6 h6 ⟨rfl, hB6, q6, hM6, m6, e6⟩
  have hD6 := hD5.sb hB6 (by decide)
  refine ex_is _ rfl hD6 rfl (by omega) (by omega) (fun h7 hA7 hB7 => ?_)
  have hv3 := vl_hi (tp := tp) (tl := tl) (s := nxS tp tl (lkS tp tl (nxS tp tl (lkS tp tl s 0 9)) 0 99)) (lo := 0) (hi := 3)
  have hD7 := DRs (v := vlS tp tl (lkS tp tl (nxS tp tl (lkS tp tl (nxS tp tl (lkS tp tl s 0 9)) 0 99)) 0 3)) hA7 (fun _ => Or.inl trivial) (by rw [rvx_t (by omega)]; exact (if_pos (by omega)).symm)
  have hM7 := hB7.mo hM6 (by decide)
  have z0 : q6 0 = nI nn := (e6 0 (by omega)).trans ((e4 0 (by omega)).trans ((e2 0 (by omega)).trans h0))
  refine ex_go 80 rfl ?_
  refine ex_getf rfl hM7 rfl rfl ?_
  refine ex_go 80 rfl ?_
  try dsimp only
  try simp only [nI_inc, nI_1, nI_add, nI_mul2, tb_and, tb_or, tb_andn, nI_x5, nI_x2, nI_p0, nI_p2, nI_p3, nI_p4, nI_q45]
  rw [z0, nI_1]
  refine ex_pf rfl hM7 rfl rfl (fun h8 hO8 hB8 => ?_)
  have hM8 : MO h8 n (ux q6 0 (nI (nn + 1))) := hO8
  refine ex_vret rfl ⟨rfl, ((((((hB1.rm (by decide)).tr (hB2.rm (by decide))).tr (hB3.rm (by decide))).tr (hB4.rm (by decide))).tr (hB5.rm (by decide))).tr (hB6.rm (by decide))).tr ((hB7.rm (by decide)).tr (hB8.rm (by decide))), _, hM8, m6.up (fun j _ _ => ux_ne (by omega)), ux_eq, fun j hj => ?_, hD7.sb hB8 (by decide), ?_⟩
  · rw [ux_ne (by omega), e6 j (by omega), e4 j (by omega), e2 j (by omega)]
  · exact (hB8.2 63 (by decide)).trans ((hB7.2 63 (by decide)).trans ((hB6.2 63 (by decide)).trans ((hB5.2 63 (by decide)).trans ((hB4.2 63 (by decide)).trans ((hB3.2 63 (by decide)).trans ((hB2.2 63 (by decide)).trans (hB1.2 63 (by decide))))))))
theorem c_readManB {nn : Nat} (hM : MO h n q) (hTp : IA h 64 160 (fun i => i < tl) (fun i => nI (tp i))) (hq : q 4 = nI tl) (ht : tl ≤ 160) (hb : ∀ i, i < tl → tp i < 128) (m : MQS tp tl s q) (hD : DRF h f) (h0 : q 0 = nI nn) (hn : nn < 8) (hd : 4 ≤ d) : ev_X scr d cd_X6_readMan 0 [.ref 57, .int (nI 2), .float 0] [] h (fun v h' => v = none ∧ RFm h h' ∧ ∃ q', MO h' n q' ∧ MQS tp tl (nxS tp tl (lkS tp tl (nxS tp tl (lkS tp tl s 0 99)) 0 3)) q' ∧ q' 0 = nI (nn + 1) ∧ (∀ j, (1 ≤ j ∧ j < 5) ∨ j = 11 → q' j = q j) ∧ DRF h' (adF f nn 2 0 (vlS tp tl (lkS tp tl s 0 99)) (vlS tp tl (lkS tp tl (nxS tp tl (lkS tp tl s 0 99)) 0 3))) ∧ h'[63]? = h[63]?) := by
  refine ex_go 80 rfl ?_
  refine ex_getf rfl hM rfl rfl ?_
  refine ex_go 80 rfl ?_
  try dsimp only
  try simp only [nI_inc, nI_1, nI_add, nI_mul2, tb_and, tb_or, tb_andn, nI_x5, nI_x2, nI_p0, nI_p2, nI_p3, nI_p4, nI_q45]
  refine ex_getf rfl hM rfl rfl ?_
  refine ex_go 80 rfl ?_
  try dsimp only
  try simp only [nI_inc, nI_1, nI_add, nI_mul2, tb_and, tb_or, tb_andn, nI_x5, nI_x2, nI_p0, nI_p2, nI_p3, nI_p4, nI_q45]
  rw [h0, nI_x5, nI_p0]
  refine ex_is _ rfl hD rfl (by omega) (by omega) (fun h1 hA1 hB1 => ?_)
  have hD1 := DRs (v := 2) hA1 (fun _ => Or.inl trivial) (rvx_n (by omega)).symm
  have hM1 := hB1.mo hM (by decide)
  refine ex_go 80 rfl ?_
  refine ex_getf rfl hM1 rfl rfl ?_
  refine ex_go 80 rfl ?_
  try dsimp only
  try simp only [nI_inc, nI_1, nI_add, nI_mul2, tb_and, tb_or, tb_andn, nI_x5, nI_x2, nI_p0, nI_p2, nI_p3, nI_p4, nI_q45]
  refine ex_ineF rfl (rfl) ?_
  refine ex_go 80 rfl ?_
  refine ex_is _ rfl hD1 rfl (by omega) (by omega) (fun h3 hA3 hB3 => ?_)
  have hD3 := DRs (v := 0) hA3 (fun _ => Or.inl trivial) (rvx_n (by omega)).symm
  have hM3 := hB3.mo hM1 (by decide)
  refine ex_go 80 rfl ?_
  refine ex_getf rfl hM3 rfl rfl ?_
  refine ex_go 80 rfl ?_
  try dsimp only
  try simp only [nI_inc, nI_1, nI_add, nI_mul2, tb_and, tb_or, tb_andn, nI_x5, nI_x2, nI_p0, nI_p2, nI_p3, nI_p4, nI_q45]
  refine ex_cvx rfl rfl rfl rfl hM3 rfl (d' := 3) (by omega) (c_readNumber (s := s) (lo := 0) (hi := 99) hM3 ((hTp.sb hB1 (by decide)).sb hB3 (by decide)) hq ht hb m (by decide) (by decide) (Nat.le_refl _)) ?_
  rintro v4 h4 ⟨rfl, hB4, q4, hM4, m4, e4⟩
  have hD4 := hD3.sb hB4 (by decide)
  refine ex_is _ rfl hD4 rfl (by omega) (by omega) (fun h5 hA5 hB5 => ?_)
  have hD5 := DRs (v := vlS tp tl (lkS tp tl s 0 99)) hA5 (fun _ => Or.inl trivial) (rvx_n (by omega)).symm
  have hM5 := hB5.mo hM4 (by decide)
  refine ex_go 80 rfl ?_
  refine ex_getf rfl hM5 rfl rfl ?_
  refine ex_go 80 rfl ?_
  try dsimp only
  try simp only [nI_inc, nI_1, nI_add, nI_mul2, tb_and, tb_or, tb_andn, nI_x5, nI_x2, nI_p0, nI_p2, nI_p3, nI_p4, nI_q45]
  refine ex_ineT rfl (by decide) ?_
  refine ex_go 80 rfl ?_
  refine ex_cvx rfl rfl rfl rfl hM5 rfl (d' := 3) (by omega) (c_readNumber (s := nxS tp tl (lkS tp tl s 0 99)) (lo := 0) (hi := 3) hM5 ((((hTp.sb hB1 (by decide)).sb hB3 (by decide)).sb hB4 (by decide)).sb hB5 (by decide)) ((e4 4 (by omega)).trans hq) ht hb m4 (by decide) (by decide) (Nat.le_refl _)) ?_
  rintro v6 h6 ⟨rfl, hB6, q6, hM6, m6, e6⟩
  have hD6 := hD5.sb hB6 (by decide)
  refine ex_is _ rfl hD6 rfl (by omega) (by omega) (fun h7 hA7 hB7 => ?_)
  have hv3 := vl_hi (tp := tp) (tl := tl) (s := nxS tp tl (lkS tp tl s 0 99)) (lo := 0) (hi := 3)
  have hD7 := DRs (v := vlS tp tl (lkS tp tl (nxS tp tl (lkS tp tl s 0 99)) 0 3)) hA7 (fun _ => Or.inl trivial) (by rw [rvx_t (by omega)]; exact (if_pos (by omega)).symm)
  have hM7 := hB7.mo hM6 (by decide)
  have z0 : q6 0 = nI nn := (e6 0 (by omega)).trans ((e4 0 (by omega)).trans h0)
  refine ex_go 80 rfl ?_
  refine ex_getf rfl hM7 rfl rfl ?_
  refine ex_go 80 rfl ?_
  try dsimp only
  try simp only [nI_inc, nI_1, nI_add, nI_mul2, tb_and, tb_or, tb_andn, nI_x5, nI_x2, nI_p0, nI_p2, nI_p3, nI_p4, nI_q45]
  rw [z0, nI_1]
  refine ex_pf rfl hM7 rfl rfl (fun h8 hO8 hB8 => ?_)
  have hM8 : MO h8 n (ux q6 0 (nI (nn + 1))) := hO8
  refine ex_vret rfl ⟨rfl, (((((hB1.rm (by decide)).tr (hB3.rm (by decide))).tr (hB4.rm (by decide))).tr (hB5.rm (by decide))).tr (hB6.rm (by decide))).tr ((hB7.rm (by decide)).tr (hB8.rm (by decide))), _, hM8, m6.up (fun j _ _ => ux_ne (by omega)), ux_eq, fun j hj => ?_, hD7.sb hB8 (by decide), ?_⟩
  · rw [ux_ne (by omega), e6 j (by omega), e4 j (by omega)]
  · exact (hB8.2 63 (by decide)).trans ((hB7.2 63 (by decide)).trans ((hB6.2 63 (by decide)).trans ((hB5.2 63 (by decide)).trans ((hB4.2 63 (by decide)).trans ((hB3.2 63 (by decide)).trans (hB1.2 63 (by decide)))))))
theorem c_readManC {nn : Nat} (hM : MO h n q) (hTp : IA h 64 160 (fun i => i < tl) (fun i => nI (tp i))) (hq : q 4 = nI tl) (ht : tl ≤ 160) (hb : ∀ i, i < tl → tp i < 128) (m : MQS tp tl s q) (hD : DRF h f) (h0 : q 0 = nI nn) (hn : nn < 8) (hd : 4 ≤ d) : ev_X scr d cd_X6_readMan 0 [.ref 57, .int (nI 3), .float 0] [] h (fun v h' => v = none ∧ RFm h h' ∧ ∃ q', MO h' n q' ∧ MQS tp tl (nxS tp tl (lkS tp tl (nxS tp tl (lkS tp tl s 0 9)) 0 99)) q' ∧ q' 0 = nI (nn + 1) ∧ (∀ j, (1 ≤ j ∧ j < 5) ∨ j = 11 → q' j = q j) ∧ DRF h' (adF f nn 3 (vlS tp tl (lkS tp tl s 0 9)) (vlS tp tl (lkS tp tl (nxS tp tl (lkS tp tl s 0 9)) 0 99)) 4) ∧ h'[63]? = h[63]?) := by
  refine ex_go 80 rfl ?_
  refine ex_getf rfl hM rfl rfl ?_
  refine ex_go 80 rfl ?_
  try dsimp only
  try simp only [nI_inc, nI_1, nI_add, nI_mul2, tb_and, tb_or, tb_andn, nI_x5, nI_x2, nI_p0, nI_p2, nI_p3, nI_p4, nI_q45]
  refine ex_getf rfl hM rfl rfl ?_
  refine ex_go 80 rfl ?_
  try dsimp only
  try simp only [nI_inc, nI_1, nI_add, nI_mul2, tb_and, tb_or, tb_andn, nI_x5, nI_x2, nI_p0, nI_p2, nI_p3, nI_p4, nI_q45]
  rw [h0, nI_x5, nI_p0]
  refine ex_is _ rfl hD rfl (by omega) (by omega) (fun h1 hA1 hB1 => ?_)
  have hD1 := DRs (v := 3) hA1 (fun _ => Or.inl trivial) (rvx_n (by omega)).symm
  have hM1 := hB1.mo hM (by decide)
  refine ex_go 80 rfl ?_
  refine ex_getf rfl hM1 rfl rfl ?_
  refine ex_go 80 rfl ?_
  try dsimp only
  try simp only [nI_inc, nI_1, nI_add, nI_mul2, tb_and, tb_or, tb_andn, nI_x5, nI_x2, nI_p0, nI_p2, nI_p3, nI_p4, nI_q45]
  refine ex_ineT rfl (by decide) ?_
  refine ex_go 80 rfl ?_
  refine ex_cvx rfl rfl rfl rfl hM1 rfl (d' := 3) (by omega) (c_readNumber (s := s) (lo := 0) (hi := 9) hM1 (hTp.sb hB1 (by decide)) hq ht hb m (by decide) (by decide) (Nat.le_refl _)) ?_
  rintro v2 h2 ⟨rfl, hB2, q2, hM2, m2, e2⟩
  have hD2 := hD1.sb hB2 (by decide)
  refine ex_is _ rfl hD2 rfl (by omega) (by omega) (fun h3 hA3 hB3 => ?_)
  have hD3 := DRs (v := vlS tp tl (lkS tp tl s 0 9)) hA3 (fun _ => Or.inl trivial) (rvx_n (by omega)).symm
  have hM3 := hB3.mo hM2 (by decide)
  refine ex_go 80 rfl ?_
  refine ex_getf rfl hM3 rfl rfl ?_
  refine ex_go 80 rfl ?_
  try dsimp only
  try simp only [nI_inc, nI_1, nI_add, nI_mul2, tb_and, tb_or, tb_andn, nI_x5, nI_x2, nI_p0, nI_p2, nI_p3, nI_p4, nI_q45]
  refine ex_cvx rfl rfl rfl rfl hM3 rfl (d' := 3) (by omega) (c_readNumber (s := nxS tp tl (lkS tp tl s 0 9)) (lo := 0) (hi := 99) hM3 (((hTp.sb hB1 (by decide)).sb hB2 (by decide)).sb hB3 (by decide)) ((e2 4 (by omega)).trans hq) ht hb m2 (by decide) (by decide) (Nat.le_refl _)) ?_
  rintro v4 h4 ⟨rfl, hB4, q4, hM4, m4, e4⟩
  have hD4 := hD3.sb hB4 (by decide)
  refine ex_is _ rfl hD4 rfl (by omega) (by omega) (fun h5 hA5 hB5 => ?_)
  have hD5 := DRs (v := vlS tp tl (lkS tp tl (nxS tp tl (lkS tp tl s 0 9)) 0 99)) hA5 (fun _ => Or.inl trivial) (rvx_n (by omega)).symm
  have hM5 := hB5.mo hM4 (by decide)
  refine ex_go 80 rfl ?_
  refine ex_getf rfl hM5 rfl rfl ?_
  refine ex_go 80 rfl ?_
  try dsimp only
  try simp only [nI_inc, nI_1, nI_add, nI_mul2, tb_and, tb_or, tb_andn, nI_x5, nI_x2, nI_p0, nI_p2, nI_p3, nI_p4, nI_q45]
  refine ex_ineF rfl (rfl) ?_
  refine ex_go 80 rfl ?_
  refine ex_is _ rfl hD5 rfl (by omega) (by omega) (fun h7 hA7 hB7 => ?_)
  have hD7 := DRs (v := 4) hA7 (fun _ => Or.inl trivial) (by rw [rvx_t (by omega)]; rfl)
  have hM7 := hB7.mo hM5 (by decide)
  have z0 : q4 0 = nI nn := (e4 0 (by omega)).trans ((e2 0 (by omega)).trans h0)
  refine ex_go 80 rfl ?_
  refine ex_getf rfl hM7 rfl rfl ?_
  refine ex_go 80 rfl ?_
  try dsimp only
  try simp only [nI_inc, nI_1, nI_add, nI_mul2, tb_and, tb_or, tb_andn, nI_x5, nI_x2, nI_p0, nI_p2, nI_p3, nI_p4, nI_q45]
  rw [z0, nI_1]
  refine ex_pf rfl hM7 rfl rfl (fun h8 hO8 hB8 => ?_)
  have hM8 : MO h8 n (ux q4 0 (nI (nn + 1))) := hO8
  refine ex_vret rfl ⟨rfl, (((((hB1.rm (by decide)).tr (hB2.rm (by decide))).tr (hB3.rm (by decide))).tr (hB4.rm (by decide))).tr (hB5.rm (by decide))).tr ((hB7.rm (by decide)).tr (hB8.rm (by decide))), _, hM8, m4.up (fun j _ _ => ux_ne (by omega)), ux_eq, fun j hj => ?_, hD7.sb hB8 (by decide), ?_⟩
  · rw [ux_ne (by omega), e4 j (by omega), e2 j (by omega)]
  · exact (hB8.2 63 (by decide)).trans ((hB7.2 63 (by decide)).trans ((hB5.2 63 (by decide)).trans ((hB4.2 63 (by decide)).trans ((hB3.2 63 (by decide)).trans ((hB2.2 63 (by decide)).trans (hB1.2 63 (by decide)))))))
theorem c_readKin {hg : Nat} (hM : MO h n q) (hTp : IA h 64 160 (fun i => i < tl) (fun i => nI (tp i))) (hq : q 4 = nI tl) (ht : tl ≤ 160) (hb : ∀ i, i < tl → tp i < 128) (m : MQS tp tl s q) (hD : DRF h f) (h3 : q 3 = hIg hg) (hg8 : hg ≤ 8) (hd : 4 ≤ d) : ev_X scr d cd_X6_readKin 0 [.ref 57, .float 0, .float 0] [] h (fun v h' => v = none ∧ RFm h h' ∧ h'[63]? = h[63]? ∧ LA h' 62 57 ∧ ∃ q', MO h' n q' ∧ MQS tp tl (nxS tp tl (ndS tp tl (lkS tp tl (nxS tp tl (lkS tp tl s 0 7)) 0 7) (fun p => decide (tV tp tl p ≠ vlS tp tl (lkS tp tl s 0 7))) 3)) q' ∧ (∀ j, j < 3 ∨ j = 4 ∨ j = 11 → q' j = q j) ∧ ∀ r, ndS tp tl (lkS tp tl (nxS tp tl (lkS tp tl s 0 7)) 0 7) (fun p => decide (tV tp tl p ≠ vlS tp tl (lkS tp tl s 0 7))) 3 = .inr r → DRF h' (kiF f (vlS tp tl (lkS tp tl s 0 7)) (vlS tp tl (lkS tp tl (nxS tp tl (lkS tp tl s 0 7)) 0 7)) true) ∧ q' 3 = hIg (max (max hg (vlS tp tl (lkS tp tl s 0 7) + 1)) (vlS tp tl (lkS tp tl (nxS tp tl (lkS tp tl s 0 7)) 0 7) + 1))) := by
  refine ex_go 80 rfl ?_
  refine ex_cvx rfl rfl rfl rfl hM rfl (d' := 3) (by omega) (c_readNumber (s := s) (lo := 0) (hi := 7) hM hTp hq ht hb m (by decide) (by decide) (Nat.le_refl _)) ?_
  rintro v1 h1 ⟨rfl, hB1, q1, hM1, m1, e1⟩
  refine ex_go 80 rfl ?_
  refine ex_cvx rfl rfl rfl rfl hM1 rfl (d' := 1) (by omega) (c_looked (s := nxS tp tl (lkS tp tl s 0 7)) (tp := tp) (tl := tl) (lo := 0) (hi := 7) hM1 m1 (by decide) (by decide) (Nat.le_refl _)) ?_
  rintro v2 h2 ⟨rfl, hB2, q2, hM2, m2, e2⟩
  have hBB := hB1.tr hB2
  have hD2 := hD.sb hBB (by decide)
  have hT2 := hTp.sb hBB (by decide)
  have ha := vl_hi (tp := tp) (tl := tl) (s := s) (lo := 0) (hi := 7)
  have hbb := vl_hi (tp := tp) (tl := tl) (s := nxS tp tl (lkS tp tl s 0 7)) (lo := 0) (hi := 7)
  have z3 : q2 3 = hIg hg := (e2 3 (by omega)).trans ((e1 3 (by omega)).trans h3)
  have eo : ∀ j, j < 5 ∨ j = 11 → q2 j = q j := fun j hj => (e2 j hj).trans (e1 j hj)
  clear e1 e2 m1 hM1
  generalize lkS tp tl (nxS tp tl (lkS tp tl s 0 7)) 0 7 = sB at *
  generalize vlS tp tl (lkS tp tl s 0 7) = a at *
  cases sB with
  | inl e =>
    obtain ⟨c0, x⟩ := e
    obtain ⟨k1, k2, k3, k4⟩ := m2.1 c0 x rfl
    have hne := c8_ne k3 k4
    refine ex_go 80 rfl ?_
    refine ex_getf rfl hM2 rfl rfl ?_
    rw [k1]
    refine ex_zneT rfl (hne) ?_
    refine ex_go 80 rfl ?_
    refine ex_getf rfl hM2 rfl rfl ?_
    rw [k1]
    refine ex_zneT rfl (hne) ?_
    refine ex_go 80 rfl ?_
    refine ex_cvx rfl rfl rfl rfl hM2 rfl (d' := 2) (by omega) (c_nextS (s := .inl (c0, x)) (tp := tp) (tl := tl) hM2 hT2 ((eo 4 (by omega)).trans hq) ht hb m2 (Nat.le_refl _)) ?_
    rintro v3 h3' ⟨rfl, hB3, q3, hM3, m3, e3⟩
    refine ex_vret rfl ⟨rfl, (hBB.rm (by decide)).tr (hB3.rm (by decide)), (hB3.2 63 (by decide)).trans (hBB.2 63 (by decide)), (hD2.sb hB3 (by decide)).la, q3, hM3, m3, fun j hj => (e3 j (by omega)).trans (eo j (by omega)), fun r e => ?_⟩
    cases e
  | inr p =>
    obtain ⟨k1, k5, k6, k7, k8, kp, ko⟩ := m2.2 p rfl
    have ev : vlS tp tl (.inr p) = tV tp tl p := rfl
    rw [ev] at hbb ⊢
    have mm := m2.nd (b := fun p => decide (tV tp tl p ≠ a)) (bv := decide (tV tp tl p ≠ a)) (c := 3) (fun r z => by cases z; rfl) (by decide)
    refine ex_go 80 rfl ?_
    refine ex_getf rfl hM2 rfl rfl ?_
    rw [k1]
    refine ex_zneF rfl (rfl) ?_
    refine ex_go 80 rfl ?_
    refine ex_ieqM 1 2 20 (v := nI (tb_b (decide (tV tp tl p ≠ a)))) rfl rfl rfl (if01 (by rw [nI_eq (by omega) (by omega)]; exact Decidable.not_not.symm)) ?_
    refine ex_go 80 rfl ?_
    refine ex_cvx rfl rfl rfl rfl hM2 rfl (d' := 0) (by omega) (c_needs hM2 (decide (tV tp tl p ≠ a))) ?_
    rintro v4 h4 ⟨rfl, hM4, hB4⟩
    have hD4 := hD2.sb hB4 (by decide)
    have hT4 := hT2.sb hB4 (by decide)
    by_cases ce : tV tp tl p ≠ a
    · rw [decide_eq_true ce] at hM4
      have e9 : ndq q2 true 3 = q2 := by
        unfold ndq
        rw [if_neg (fun z => absurd z.1 (by decide))]
      rw [e9] at hM4
      have eS : ndS tp tl (.inr p) (fun p => decide (tV tp tl p ≠ a)) 3 = .inr p := ndS_t (decide_eq_true ce)
      rw [eS]
      refine ex_go 80 rfl ?_
      refine ex_getf rfl hM4 rfl rfl ?_
      rw [k1]
      refine ex_zneF rfl (rfl) ?_
      refine ex_go 80 rfl ?_
      refine ex_getf rfl hM4 rfl rfl ?_
      refine ex_go 80 rfl ?_
      try dsimp only
      try simp only [nI_inc, nI_1, nI_add, nI_mul2, tb_and, tb_or, tb_andn, nI_x5, nI_x2, nI_p0, nI_p2, nI_p3, nI_p4, nI_q45]
      refine ex_ia _ rfl hD4 rfl (by first | exact trivial | assumption | (show _ < _; omega)) (by omega) (by omega) rfl ?_
      refine ex_go 80 rfl ?_
      try dsimp only
      try simp only [nI_inc, nI_1, nI_add, nI_mul2, tb_and, tb_or, tb_andn, nI_x5, nI_x2, nI_p0, nI_p2, nI_p3, nI_p4, nI_q45]
      rw [rv_4, tb_sh1 _ (by omega), tb_or]
      refine ex_is _ rfl hD4 rfl (by omega) (by omega) (fun h5 hA5 hB5 => ?_)
      have hD5 := DRs (v := f (5 * a + 4) ||| 2 ^ tV tp tl p) hA5 (fun _ => Or.inl trivial) (rvx_n (by omega)).symm
      have hM5 := hB5.mo hM4 (by decide)
      refine ex_go 80 rfl ?_
      refine ex_getf rfl hM5 rfl rfl ?_
      refine ex_go 80 rfl ?_
      try dsimp only
      try simp only [nI_inc, nI_1, nI_add, nI_mul2, tb_and, tb_or, tb_andn, nI_x5, nI_x2, nI_p0, nI_p2, nI_p3, nI_p4, nI_q45]
      refine ex_ia _ rfl hD5 rfl (by first | exact trivial | assumption | (show _ < _; omega)) (by omega) (by omega) rfl ?_
      refine ex_go 80 rfl ?_
      try dsimp only
      try simp only [nI_inc, nI_1, nI_add, nI_mul2, tb_and, tb_or, tb_andn, nI_x5, nI_x2, nI_p0, nI_p2, nI_p3, nI_p4, nI_q45]
      rw [rv_4, up_ne (by omega), tb_sh1 _ (by omega), tb_or]
      refine ex_is _ rfl hD5 rfl (by omega) (by omega) (fun h6 hA6 hB6 => ?_)
      have hD6 : DRF h6 (kiF f a (tV tp tl p) true) := DRs (v := f (5 * tV tp tl p + 4) ||| 2 ^ a) hA6 (fun _ => Or.inl trivial) (rvx_n (by omega)).symm
      have hM6 := hB6.mo hM5 (by decide)
      have hT6 := (hT4.sb hB5 (by decide)).sb hB6 (by decide)
      have hR6 : RFm h h6 := (hBB.rm (by decide)).tr ((hB4.rm (by decide)).tr ((hB5.rm (by decide)).tr (hB6.rm (by decide))))
      have h63 : h6[63]? = h[63]? := (hB6.2 63 (by decide)).trans ((hB5.2 63 (by decide)).trans ((hB4.2 63 (by decide)).trans (hBB.2 63 (by decide))))
      have x1 := hI_max a (by omega) hg (by omega)
      have x2 := hI_max (tV tp tl p) (by omega) (max hg (a + 1)) (by omega)
      have T62 : ∀ v0, v0 = hIg (max hg (a + 1)) → ev_X scr d cd_X6_readKin 62 [.ref 57, .int (nI a), .int (nI (tV tp tl p))] [.int v0, .ref 57] h6 (fun v h' => v = none ∧ RFm h h' ∧ h'[63]? = h[63]? ∧ LA h' 62 57 ∧ ∃ q', MO h' n q' ∧ MQS tp tl (nxS tp tl (.inr p)) q' ∧ (∀ j, j < 3 ∨ j = 4 ∨ j = 11 → q' j = q j) ∧ ∀ r, (.inr p : Sum (Nat × Nat) Nat) = .inr r → DRF h' (kiF f a (tV tp tl p) true) ∧ q' 3 = hIg (max (max hg (a + 1)) (tV tp tl p + 1))) := by
        intro v0 hv0
        rw [hv0]
        refine ex_pf rfl hM6 rfl rfl (fun h7 hO7 hB7 => ?_)
        have hM7 : MO h7 n (ux q2 3 (hIg (max hg (a + 1)))) := hO7
        have T72 : ∀ v0, v0 = hIg (max (max hg (a + 1)) (tV tp tl p + 1)) → ev_X scr d cd_X6_readKin 72 [.ref 57, .int (nI a), .int (nI (tV tp tl p))] [.int v0, .ref 57] h7 (fun v h' => v = none ∧ RFm h h' ∧ h'[63]? = h[63]? ∧ LA h' 62 57 ∧ ∃ q', MO h' n q' ∧ MQS tp tl (nxS tp tl (.inr p)) q' ∧ (∀ j, j < 3 ∨ j = 4 ∨ j = 11 → q' j = q j) ∧ ∀ r, (.inr p : Sum (Nat × Nat) Nat) = .inr r → DRF h' (kiF f a (tV tp tl p) true) ∧ q' 3 = hIg (max (max hg (a + 1)) (tV tp tl p + 1))) := by
          intro v0 hv0
          rw [hv0]
          refine ex_pf rfl hM7 rfl rfl (fun h8 hO8 hB8 => ?_)
          have hM8 : MO h8 n (ux (ux q2 3 (hIg (max hg (a + 1)))) 3 (hIg (max (max hg (a + 1)) (tV tp tl p + 1)))) := hO8
          refine ex_go 80 rfl ?_
          refine ex_cvx rfl rfl rfl rfl hM8 rfl (d' := 2) (by omega) (c_nextS (s := .inr p) (tp := tp) (tl := tl) hM8 ((hT6.sb hB7 (by decide)).sb hB8 (by decide)) (by rw [ux_ne (by decide), ux_ne (by decide)]; exact (eo 4 (by omega)).trans hq) ht hb (m2.up (fun j _ _ => by rw [ux_ne (by omega), ux_ne (by omega)])) (Nat.le_refl _)) ?_
          rintro v9 h9 ⟨rfl, hB9, q9, hM9, m9, e9'⟩
          have hD9 := ((hD6.sb hB7 (by decide)).sb hB8 (by decide)).sb hB9 (by decide)
          refine ex_vret rfl ⟨rfl, hR6.tr ((hB7.rm (by decide)).tr ((hB8.rm (by decide)).tr (hB9.rm (by decide)))), (hB9.2 63 (by decide)).trans ((hB8.2 63 (by decide)).trans ((hB7.2 63 (by decide)).trans h63)), hD9.la, q9, hM9, m9, fun j hj => ?_, fun r _ => ⟨hD9, ?_⟩⟩
          · rw [e9' j (by omega), ux_ne (by omega), ux_ne (by omega), eo j (by omega)]
          · rw [e9' 3 (by omega), ux_eq]
        refine ex_go 80 rfl ?_
        refine ex_getf rfl hM7 rfl rfl ?_
        rw [show ux q2 3 (hIg (max hg (a + 1))) 3 = hIg (max hg (a + 1)) from ux_eq]
        by_cases cl : nI (tV tp tl p) ≤ hIg (max hg (a + 1))
        · rw [if_pos cl] at x2
          refine ex_ileT rfl (cl) ?_
          refine ex_go 80 rfl ?_
          refine ex_getf rfl hM7 rfl rfl ?_
          rw [show ux q2 3 (hIg (max hg (a + 1))) 3 = hIg (max hg (a + 1)) from ux_eq]
          exact T72 _ x2
        · rw [if_neg cl] at x2
          refine ex_ileF rfl (cl) ?_
          refine ex_go 2 rfl ?_
          exact T72 _ x2
      refine ex_go 80 rfl ?_
      refine ex_getf rfl hM6 rfl rfl ?_
      rw [z3]
      by_cases cl : nI a ≤ hIg hg
      · rw [if_pos cl] at x1
        refine ex_ileT rfl (cl) ?_
        refine ex_go 80 rfl ?_
        refine ex_getf rfl hM6 rfl rfl ?_
        rw [z3]
        exact T62 _ x1
      · rw [if_neg cl] at x1
        refine ex_ileF rfl (cl) ?_
        refine ex_go 2 rfl ?_
        exact T62 _ x1
    · rw [decide_eq_false ce] at hM4 mm
      have e9 : ndq q2 false 3 = ux (ux q2 9 3) 10 (q2 6) := by
        unfold ndq
        rw [if_pos ⟨rfl, k1⟩]
      have e9' : ndq q2 false (nI 3) = ux (ux q2 9 3) 10 (q2 6) := e9
      rw [e9] at hM4
      rw [e9'] at mm
      have z9 : ux (ux q2 9 3) 10 (q2 6) 9 = 3 := by rw [ux_ne (by decide), ux_eq]
      have eS : ndS tp tl (.inr p) (fun p => decide (tV tp tl p ≠ a)) 3 = .inl (3, tS tp tl p) := ndS_f (decide_eq_false ce)
      rw [eS] at mm ⊢
      refine ex_go 80 rfl ?_
      refine ex_getf rfl hM4 rfl rfl ?_
      rw [z9]
      refine ex_zneT rfl (by decide) ?_
      refine ex_go 80 rfl ?_
      refine ex_cvx rfl rfl rfl rfl hM4 rfl (d' := 2) (by omega) (c_nextS (s := .inl (3, tS tp tl p)) (tp := tp) (tl := tl) hM4 hT4 (by rw [ux_ne (by decide), ux_ne (by decide)]; exact (eo 4 (by omega)).trans hq) ht hb mm (Nat.le_refl _)) ?_
      rintro v5 h5 ⟨rfl, hB5, q5, hM5, m5, e5⟩
      refine ex_vret rfl ⟨rfl, (hBB.rm (by decide)).tr ((hB4.rm (by decide)).tr (hB5.rm (by decide))), (hB5.2 63 (by decide)).trans ((hB4.2 63 (by decide)).trans (hBB.2 63 (by decide))), (hD4.sb hB5 (by decide)).la, q5, hM5, m5, fun j hj => ?_, fun r e => ?_⟩
      · rw [e5 j (by omega), ux_ne (by omega), ux_ne (by omega), eo j (by omega)]
      · cases e
end MREAD
