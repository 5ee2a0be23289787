/-! text: the model's line. -/
def tlI (ft wt : Bool) : Int32 := nI (16 * tb_b ft + 32 * tb_b wt)
section MLINE
variable {scr : List Int32} {d : Nat} {h : ev_H} {n : Nat} {q : Nat → Int32} {tp : Nat → Nat} {tl p : Nat} {s : Sum (Nat × Nat) Nat} {f : Nat → Nat}
theorem c_readMost {mt : Nat} (hM : MO h n q) (hTp : IA h 64 160 (fun i => i < tl) (fun i => nI (tp i))) (hq : q 4 = nI tl) (ht : tl ≤ 160) (hb : ∀ i, i < tl → tp i < 128) (m : MQS tp tl s q) (hDm : DMF h f) (h2 : q 2 = nI mt) (hmt : mt < 16) (hd : 4 ≤ d) : ev_X scr d cd_X6_readMost 0 [.ref 57, .float 0, .float 0] [] h (fun v h' => v = none ∧ RFm h h' ∧ h'[62]? = h[62]? ∧ LA h' 63 4 ∧ ∃ q', MO h' n q' ∧ MQS tp tl (nxS tp tl (lkS tp tl (nxS tp tl (ndS tp tl (lkS tp tl s 0 3) (fun p => decide (mt.testBit (tV tp tl p) = false)) 4)) 1 5)) q' ∧ (∀ j, j < 2 ∨ j = 3 ∨ j = 4 ∨ j = 11 → q' j = q j) ∧ ∀ r, nxS tp tl (lkS tp tl (nxS tp tl (ndS tp tl (lkS tp tl s 0 3) (fun p => decide (mt.testBit (tV tp tl p) = false)) 4)) 1 5) = .inr r → DMF h' (up f (60 + vlS tp tl (lkS tp tl s 0 3)) (vlS tp tl (lkS tp tl (nxS tp tl (ndS tp tl (lkS tp tl s 0 3) (fun p => decide (mt.testBit (tV tp tl p) = false)) 4)) 1 5))) ∧ q' 2 = nI (mt ||| 2 ^ vlS tp tl (lkS tp tl s 0 3))) := by
  refine ex_go 80 rfl ?_
  refine ex_cvx rfl rfl rfl rfl hM rfl (d' := 1) (by omega) (c_looked (s := s) (tp := tp) (tl := tl) (lo := 0) (hi := 3) hM m (by decide) (by decide) (Nat.le_refl _)) ?_
  rintro v1 h1 ⟨rfl, hB1, q1, hM1, m1, e1⟩
  have ha := vl_hi (tp := tp) (tl := tl) (s := s) (lo := 0) (hi := 3)
  generalize hs1 : lkS tp tl s 0 3 = s1 at *
  generalize hva : vlS tp tl s1 = a at *
  generalize hQ : (fun (v : Option Value) (h' : ev_H) => v = none ∧ RFm h h' ∧ h'[62]? = h[62]? ∧ LA h' 63 4 ∧ ∃ q', MO h' n q' ∧ MQS tp tl (nxS tp tl (lkS tp tl (nxS tp tl (ndS tp tl s1 (fun p => decide (mt.testBit (tV tp tl p) = false)) 4)) 1 5)) q' ∧ (∀ j, j < 2 ∨ j = 3 ∨ j = 4 ∨ j = 11 → q' j = q j) ∧ ∀ r, nxS tp tl (lkS tp tl (nxS tp tl (ndS tp tl s1 (fun p => decide (mt.testBit (tV tp tl p) = false)) 4)) 1 5) = .inr r → DMF h' (up f (60 + a) (vlS tp tl (lkS tp tl (nxS tp tl (ndS tp tl s1 (fun p => decide (mt.testBit (tV tp tl p) = false)) 4)) 1 5))) ∧ q' 2 = nI (mt ||| 2 ^ a)) = Q
  have T29 : ∀ h2 q2, MO h2 n q2 → MQS tp tl (ndS tp tl s1 (fun p => decide (mt.testBit (tV tp tl p) = false)) 4) q2 → SB 57 h h2 → (∀ j, j < 2 ∨ j = 3 ∨ j = 4 ∨ j = 11 → q2 j = q j) → (∀ r, s1 = .inr r → q2 2 = nI (mt ||| 2 ^ a)) → ev_X scr d cd_X6_readMost 29 [.ref 57, .int (nI a), .float 0] [] h2 Q := by
    intro h2 q2 hM2 m2 hB2 e2 x2
    have x3 : ∀ r, nxS tp tl (lkS tp tl (nxS tp tl (ndS tp tl s1 (fun p => decide (mt.testBit (tV tp tl p) = false)) 4)) 1 5) = .inr r → q2 2 = nI (mt ||| 2 ^ a) := by
      intro r hr
      obtain ⟨p1, w1, _⟩ := nxS_r hr
      obtain ⟨w2, _⟩ := ndS_r w1
      obtain ⟨w3, _⟩ := ndS_r w2
      obtain ⟨p2, w4, _⟩ := nxS_r w3
      obtain ⟨w5, _⟩ := ndS_r w4
      exact x2 _ w5
    generalize ndS tp tl s1 (fun p => decide (mt.testBit (tV tp tl p) = false)) 4 = s2 at *
    refine ex_go 80 rfl ?_
    refine ex_cvx rfl rfl rfl rfl hM2 rfl (d' := 2) (by omega) (c_nextS (s := s2) (tp := tp) (tl := tl) hM2 (hTp.sb hB2 (by decide)) ((e2 4 (by omega)).trans hq) ht hb m2 (Nat.le_refl _)) ?_
    rintro v3 h3 ⟨rfl, hB3, q3, hM3, m3, e3⟩
    have hB23 := hB2.tr hB3
    refine ex_go 80 rfl ?_
    refine ex_cvx rfl rfl rfl rfl hM3 rfl (d' := 3) (by omega) (c_readNumber (s := nxS tp tl s2) (lo := 1) (hi := 5) hM3 (hTp.sb hB23 (by decide)) ((e3 4 (by omega)).trans ((e2 4 (by omega)).trans hq)) ht hb m3 (by decide) (by decide) (Nat.le_refl _)) ?_
    rintro v4 h4 ⟨rfl, hB4, q4, hM4, m4, e4⟩
    have hB24 := hB23.tr hB4
    have hDm4 := hDm.sb hB24 (by decide)
    have fin : ∀ h5, SB 63 h4 h5 → LA h5 63 4 → (∀ r, nxS tp tl (lkS tp tl (nxS tp tl s2) 1 5) = .inr r → DMF h5 (up f (60 + a) (vlS tp tl (lkS tp tl (nxS tp tl s2) 1 5)))) → Q none h5 := by
      intro h5 hB5 hL5 hD5
      rw [← hQ]
      refine ⟨rfl, (hB24.rm (by decide)).tr (hB5.rm (by decide)), (hB5.2 62 (by decide)).trans (hB24.2 62 (by decide)), hL5, q4, hB5.mo hM4 (by decide), m4, fun j hj => ?_, fun r hr => ⟨hD5 r hr, ?_⟩⟩
      · rw [e4 j (by omega), e3 j (by omega), e2 j hj]
      · rw [e4 2 (by omega), e3 2 (by omega)]
        exact x3 r hr
    generalize lkS tp tl (nxS tp tl s2) 1 5 = s4 at *
    refine ex_go 80 rfl ?_
    refine ex_getf rfl hM4 rfl rfl ?_
    refine ex_go 80 rfl ?_
    refine ex_getf rfl hM4 rfl rfl ?_
    cases hs : nxS tp tl s4 with
    | inl e =>
      obtain ⟨c0, x⟩ := e
      obtain ⟨k1, k2, k3, k4⟩ := m4.1 c0 x hs
      rw [k1]
      refine ex_zneT rfl (c8_ne k3 k4) ?_
      refine ex_go 80 rfl ?_
      refine ex_getf rfl hM4 rfl rfl ?_
      refine ex_go 80 rfl ?_
      refine ex_ia a rfl hDm4 rfl trivial (by omega) (by omega) rfl ?_
      refine ex_is a rfl hDm4 rfl (by omega) (by omega) (fun h5 hA5 hB5 => ?_)
      exact ex_vret rfl (fin h5 hB5 hA5.la (fun r hr => by rw [hs] at hr; cases hr))
    | inr r =>
      obtain ⟨k1, _⟩ := m4.2 r hs
      rw [k1]
      refine ex_zneF rfl rfl ?_
      refine ex_go 80 rfl ?_
      refine ex_is a rfl hDm4 rfl (by omega) (by omega) (fun h5 hA5 hB5 => ?_)
      refine ex_vret rfl (fin h5 hB5 hA5.la (fun r hr => hA5.congr (fun t _ _ => ⟨Or.inl trivial, ?_⟩)))
      by_cases ct : t = a
      · rw [if_pos ct, ct, up_eq]
      · rw [if_neg ct, up_ne (by omega)]
  refine ex_go 80 rfl ?_
  refine ex_getf rfl hM1 rfl rfl ?_
  cases s1 with
  | inl e =>
    obtain ⟨c0, x⟩ := e
    obtain ⟨k1, k2, k3, k4⟩ := m1.1 c0 x rfl
    rw [k1]
    refine ex_zneT rfl (c8_ne k3 k4) ?_
    exact T29 h1 q1 hM1 m1 hB1 (fun j hj => e1 j (by omega)) (fun r z => (by cases z))
  | inr p1 =>
    obtain ⟨k1, k5, k6, k7, k8, kp, ko⟩ := m1.2 p1 rfl
    have z2 : q1 2 = nI mt := (e1 2 (by omega)).trans h2
    have ev : tV tp tl p1 = a := hva
    have mm := m1.nd (b := fun p => decide (mt.testBit (tV tp tl p) = false)) (bv := decide (mt.testBit a = false)) (c := 4) (fun r z => by cases z; show decide (mt.testBit (tV tp tl p1) = false) = _; rw [ev]) (by decide)
    rw [k1]
    refine ex_zneF rfl (rfl) ?_
    refine ex_go 80 rfl ?_
    refine ex_getf rfl hM1 rfl rfl ?_
    refine ex_go 80 rfl ?_
    try dsimp only
    try simp only [nI_inc, nI_1, nI_add, nI_mul2, tb_and, tb_or, tb_andn, nI_x5, nI_x2, nI_p0, nI_p2, nI_p3, nI_p4, nI_q45]
    rw [z2, tb_bit (by omega) _ (by omega)]
    refine ex_zneM 1 2 19 (v := nI (tb_b (decide (mt.testBit a = false)))) rfl rfl rfl (if10 (tb_b0 _)) ?_
    refine ex_go 80 rfl ?_
    refine ex_cvx rfl rfl rfl rfl hM1 rfl (d' := 0) (by omega) (c_needs hM1 (decide (mt.testBit a = false))) ?_
    rintro v4 h4 ⟨rfl, hM4, hB4⟩
    have z4 : ndq q1 (decide (mt.testBit a = false)) 4 2 = nI mt := by rw [ndq_o (by decide)]; exact z2
    refine ex_go 80 rfl ?_
    refine ex_getf rfl hM4 rfl rfl ?_
    refine ex_go 80 rfl ?_
    try dsimp only
    try simp only [nI_inc, nI_1, nI_add, nI_mul2, tb_and, tb_or, tb_andn, nI_x5, nI_x2, nI_p0, nI_p2, nI_p3, nI_p4, nI_q45]
    rw [z4, tb_sh1 _ (by omega), tb_or]
    refine ex_pf rfl hM4 rfl rfl (fun h5 hO5 hB5 => ?_)
    have hM5 : MO h5 n (ux (ndq q1 (decide (mt.testBit a = false)) 4) 2 (nI (mt ||| 2 ^ a))) := hO5
    refine T29 h5 _ hM5 (mm.up (fun j _ _ => ?_)) ((hB1.tr hB4).tr hB5) (fun j hj => ?_) (fun r _ => ux_eq)
    · rw [ux_ne (by omega)]
      rfl
    · rw [ux_ne (by omega), ndq_o (by omega), e1 j (by omega)]
theorem ndS_1 {b : Nat → Bool} {c : Nat} (hb : ∀ p, b p = true) : ndS tp tl s b c = s := by
  cases s with
  | inl e => rfl
  | inr p => exact ndS_t (hb p)
theorem ndS_c {b b' : Nat → Bool} {c : Nat} (hb : ∀ p, b p = b' p) : ndS tp tl s b c = ndS tp tl s b' c := by
  rw [show b = b' from funext hb]
theorem lkC_n {w mt i a : Nat} (h6 : ¬ (w = 6 ∧ i = 0)) (h7 : ¬ (w = 7 ∧ i = 1)) : lkC tp tl w mt i a s = lkS tp tl s (loL.getD (3 * w + i) 0) (hiL.getD (3 * w + i) 0) := by
  unfold lkC
  rw [ndS_1 (c := 4) (fun p => by rw [decide_eq_false (fun z => h6 ⟨z.1, z.2.1⟩)]; rfl), ndS_1 (c := 3) (fun p => by rw [decide_eq_false (fun z => h7 ⟨z.1, z.2.1⟩)]; rfl)]
theorem c_readLineOf {w nn mt hg : Nat} {s0 : Sum (Nat × Nat) Nat} (hM : MO h n q) (hTp : IA h 64 160 (fun i => i < tl) (fun i => nI (tp i))) (hq : q 4 = nI tl) (ht : tl ≤ 160) (hb : ∀ i, i < tl → tp i < 128) (m : MQS tp tl (nxS tp tl s0) q) (hD : DRF h f) (hDm : DMF h f) (h0 : q 0 = nI nn) (hn : w ≤ 3 → nn < 8) (h2 : q 2 = nI mt) (hmt : mt < 16) (h3 : q 3 = hIg hg) (hg8 : hg ≤ 8) (hw : w < 8) (hd : 5 ≤ d) : ev_X scr d cd_X6_readLineOf 0 [.ref 57, .int (nI w)] [] h (fun v h' => v = none ∧ RFm h h' ∧ LA h' 62 57 ∧ LA h' 63 4 ∧ ∃ q', MO h' n q' ∧ MQS tp tl (nxS tp tl (csS tp tl w mt s0 (nmL w))) q' ∧ (q' 1 = q 1 ∧ q' 4 = q 4 ∧ q' 11 = q 11) ∧ ∀ r, nxS tp tl (csS tp tl w mt s0 (nmL w)) = .inr r → DRF h' (pFf w nn f (fun i => vlS tp tl (csS tp tl w mt s0 (i + 1)))) ∧ DMF h' (pFf w nn f (fun i => vlS tp tl (csS tp tl w mt s0 (i + 1)))) ∧ q' 0 = nI (pNn w nn) ∧ q' 2 = nI (pMm w mt (fun i => vlS tp tl (csS tp tl w mt s0 (i + 1)))) ∧ q' 3 = hIg (pHh w hg (fun i => vlS tp tl (csS tp tl w mt s0 (i + 1))))) := by
  have dmA : ∀ {h' : ev_H} {k o x y : Nat}, nn < 8 → h'[63]? = h[63]? → DMF h' (adF f nn k o x y) := fun hnn e => (hDm.kept e).congr (fun t _ _ => ⟨trivial, by rw [adF_o (by omega)]⟩)
  rcases w_8 hw with rfl | rfl | rfl | rfl | rfl | rfl | rfl | rfl
  · have c1 : csS tp tl 0 mt s0 1 = lkS tp tl (nxS tp tl s0) 0 9 := lkC_n (by decide) (by decide)
    have c2 : csS tp tl 0 mt s0 2 = lkS tp tl (nxS tp tl (lkS tp tl (nxS tp tl s0) 0 9)) 0 99 := by
      rw [← c1]; exact lkC_n (by decide) (by decide)
    have c3 : csS tp tl 0 mt s0 3 = lkS tp tl (nxS tp tl (lkS tp tl (nxS tp tl (lkS tp tl (nxS tp tl s0) 0 9)) 0 99)) 0 3 := by
      rw [← c2]; exact lkC_n (by decide) (by decide)
    refine ex_go 80 rfl ?_
    refine ex_tsw (t := 26) rfl (by decide) ?_
    refine ex_go 80 rfl ?_
    refine ex_cvx rfl rfl rfl rfl hM rfl (d' := 4) (by omega) (c_readManA (k := 0) (s := nxS tp tl s0) hM hTp hq ht hb m hD h0 (hn (by decide)) (by decide) (Nat.le_refl _)) ?_
    rintro v1 h1 ⟨rfl, hR1, q1, hM1, m1, z0, e1, hD1, h63⟩
    rw [← c3, ← c2, ← c1] at hD1
    rw [← c3] at m1
    exact ex_vret rfl ⟨rfl, hR1, hD1.la, (hDm.kept h63).la, q1, hM1, m1, ⟨e1 1 (by omega), e1 4 (by omega), e1 11 (by omega)⟩, fun r _ => ⟨hD1, dmA (hn (by decide)) h63, z0, (e1 2 (by omega)).trans h2, (e1 3 (by omega)).trans h3⟩⟩
  · have c1 : csS tp tl 1 mt s0 1 = lkS tp tl (nxS tp tl s0) 0 9 := lkC_n (by decide) (by decide)
    have c2 : csS tp tl 1 mt s0 2 = lkS tp tl (nxS tp tl (lkS tp tl (nxS tp tl s0) 0 9)) 0 99 := by
      rw [← c1]; exact lkC_n (by decide) (by decide)
    have c3 : csS tp tl 1 mt s0 3 = lkS tp tl (nxS tp tl (lkS tp tl (nxS tp tl (lkS tp tl (nxS tp tl s0) 0 9)) 0 99)) 0 3 := by
      rw [← c2]; exact lkC_n (by decide) (by decide)
    refine ex_go 80 rfl ?_
    refine ex_tsw (t := 26) rfl (by decide) ?_
    refine ex_go 80 rfl ?_
    refine ex_cvx rfl rfl rfl rfl hM rfl (d' := 4) (by omega) (c_readManA (k := 1) (s := nxS tp tl s0) hM hTp hq ht hb m hD h0 (hn (by decide)) (by decide) (Nat.le_refl _)) ?_
    rintro v1 h1 ⟨rfl, hR1, q1, hM1, m1, z0, e1, hD1, h63⟩
    rw [← c3, ← c2, ← c1] at hD1
    rw [← c3] at m1
    exact ex_vret rfl ⟨rfl, hR1, hD1.la, (hDm.kept h63).la, q1, hM1, m1, ⟨e1 1 (by omega), e1 4 (by omega), e1 11 (by omega)⟩, fun r _ => ⟨hD1, dmA (hn (by decide)) h63, z0, (e1 2 (by omega)).trans h2, (e1 3 (by omega)).trans h3⟩⟩
  · have c1 : csS tp tl 2 mt s0 1 = lkS tp tl (nxS tp tl s0) 0 99 := lkC_n (by decide) (by decide)
    have c2 : csS tp tl 2 mt s0 2 = lkS tp tl (nxS tp tl (lkS tp tl (nxS tp tl s0) 0 99)) 0 3 := by
      rw [← c1]; exact lkC_n (by decide) (by decide)
    refine ex_go 80 rfl ?_
    refine ex_tsw (t := 26) rfl (by decide) ?_
    refine ex_go 80 rfl ?_
    refine ex_cvx rfl rfl rfl rfl hM rfl (d' := 4) (by omega) (c_readManB (s := nxS tp tl s0) hM hTp hq ht hb m hD h0 (hn (by decide)) (Nat.le_refl _)) ?_
    rintro v1 h1 ⟨rfl, hR1, q1, hM1, m1, z0, e1, hD1, h63⟩
    rw [← c2, ← c1] at hD1
    rw [← c2] at m1
    exact ex_vret rfl ⟨rfl, hR1, hD1.la, (hDm.kept h63).la, q1, hM1, m1, ⟨e1 1 (by omega), e1 4 (by omega), e1 11 (by omega)⟩, fun r _ => ⟨hD1, dmA (hn (by decide)) h63, z0, (e1 2 (by omega)).trans h2, (e1 3 (by omega)).trans h3⟩⟩
  · have c1 : csS tp tl 3 mt s0 1 = lkS tp tl (nxS tp tl s0) 0 9 := lkC_n (by decide) (by decide)
    have c2 : csS tp tl 3 mt s0 2 = lkS tp tl (nxS tp tl (lkS tp tl (nxS tp tl s0) 0 9)) 0 99 := by
      rw [← c1]; exact lkC_n (by decide) (by decide)
    refine ex_go 80 rfl ?_
    refine ex_tsw (t := 26) rfl (by decide) ?_
    refine ex_go 80 rfl ?_
    refine ex_cvx rfl rfl rfl rfl hM rfl (d' := 4) (by omega) (c_readManC (s := nxS tp tl s0) hM hTp hq ht hb m hD h0 (hn (by decide)) (Nat.le_refl _)) ?_
    rintro v1 h1 ⟨rfl, hR1, q1, hM1, m1, z0, e1, hD1, h63⟩
    rw [← c2, ← c1] at hD1
    rw [← c2] at m1
    exact ex_vret rfl ⟨rfl, hR1, hD1.la, (hDm.kept h63).la, q1, hM1, m1, ⟨e1 1 (by omega), e1 4 (by omega), e1 11 (by omega)⟩, fun r _ => ⟨hD1, dmA (hn (by decide)) h63, z0, (e1 2 (by omega)).trans h2, (e1 3 (by omega)).trans h3⟩⟩
  · have c1 : csS tp tl 4 mt s0 1 = lkS tp tl (nxS tp tl s0) 0 99 := lkC_n (by decide) (by decide)
    refine ex_go 80 rfl ?_
    refine ex_tsw (t := 2) rfl (by decide) ?_
    refine ex_go 80 rfl ?_
    refine ex_getf rfl hM rfl rfl ?_
    refine ex_go 80 rfl ?_
    refine ex_cvx rfl rfl rfl rfl hM rfl (d' := 3) (by omega) (c_readNumber (s := nxS tp tl s0) (lo := 0) (hi := 99) hM hTp hq ht hb m (by decide) (by decide) (Nat.le_refl _)) ?_
    rintro v1 h1 ⟨rfl, hB1, q1, hM1, m1, e1⟩
    rw [← c1] at m1 ⊢
    have hD1 := hD.sb hB1 (by decide)
    refine ex_is 41 rfl hD1 rfl (by omega) (by omega) (fun h2' hA2 hB2 => ?_)
    have hD2 := DRs (v := vlS tp tl (csS tp tl 4 mt s0 1)) hA2 (fun _ => Or.inl trivial) (rvx_n (by decide)).symm
    have hDm2 := (hDm.sb hB1 (by decide)).sb hB2 (by decide)
    refine ex_go 80 rfl ?_
    exact ex_vret rfl ⟨rfl, (hB1.rm (by decide)).tr (hB2.rm (by decide)), hD2.la, hDm2.la, q1, hB2.mo hM1 (by decide), m1, ⟨e1 1 (by omega), e1 4 (by omega), e1 11 (by omega)⟩, fun r _ => ⟨hD2, hDm2.congr (fun t _ _ => ⟨trivial, by show nI (f (60 + t)) = nI (up f 41 _ (60 + t)); rw [up_ne (by omega)]⟩), (e1 0 (by omega)).trans h0, (e1 2 (by omega)).trans h2, (e1 3 (by omega)).trans h3⟩⟩
  · have c1 : csS tp tl 5 mt s0 1 = lkS tp tl (nxS tp tl s0) 0 9 := lkC_n (by decide) (by decide)
    refine ex_go 80 rfl ?_
    refine ex_tsw (t := 11) rfl (by decide) ?_
    refine ex_go 80 rfl ?_
    refine ex_getf rfl hM rfl rfl ?_
    refine ex_go 80 rfl ?_
    refine ex_cvx rfl rfl rfl rfl hM rfl (d' := 3) (by omega) (c_readNumber (s := nxS tp tl s0) (lo := 0) (hi := 9) hM hTp hq ht hb m (by decide) (by decide) (Nat.le_refl _)) ?_
    rintro v1 h1 ⟨rfl, hB1, q1, hM1, m1, e1⟩
    rw [← c1] at m1 ⊢
    have hD1 := hD.sb hB1 (by decide)
    refine ex_is 42 rfl hD1 rfl (by omega) (by omega) (fun h2' hA2 hB2 => ?_)
    have hD2 := DRs (v := vlS tp tl (csS tp tl 5 mt s0 1)) hA2 (fun _ => Or.inl trivial) (rvx_n (by decide)).symm
    have hDm2 := (hDm.sb hB1 (by decide)).sb hB2 (by decide)
    refine ex_go 80 rfl ?_
    exact ex_vret rfl ⟨rfl, (hB1.rm (by decide)).tr (hB2.rm (by decide)), hD2.la, hDm2.la, q1, hB2.mo hM1 (by decide), m1, ⟨e1 1 (by omega), e1 4 (by omega), e1 11 (by omega)⟩, fun r _ => ⟨hD2, hDm2.congr (fun t _ _ => ⟨trivial, by show nI (f (60 + t)) = nI (up f 42 _ (60 + t)); rw [up_ne (by omega)]⟩), (e1 0 (by omega)).trans h0, (e1 2 (by omega)).trans h2, (e1 3 (by omega)).trans h3⟩⟩
  · have c1 : csS tp tl 6 mt s0 1 = ndS tp tl (lkS tp tl (nxS tp tl s0) 0 3) (fun p => decide (mt.testBit (tV tp tl p) = false)) 4 := by
      show lkC tp tl 6 mt 0 _ (nxS tp tl s0) = _
      unfold lkC
      rw [ndS_1 (c := 3) (fun p => by rw [decide_eq_false (fun z => absurd z.1 (by decide))]; rfl)]
      refine ndS_c (fun p => ?_)
      cases mt.testBit (tV tp tl p) <;> simp
    have c2 : csS tp tl 6 mt s0 2 = lkS tp tl (nxS tp tl (csS tp tl 6 mt s0 1)) 1 5 := lkC_n (by decide) (by decide)
    refine ex_go 80 rfl ?_
    refine ex_tsw (t := 20) rfl (by decide) ?_
    refine ex_go 80 rfl ?_
    refine ex_cvx rfl rfl rfl rfl hM rfl (d' := 4) (by omega) (c_readMost (s := nxS tp tl s0) hM hTp hq ht hb m hDm h2 hmt (Nat.le_refl _)) ?_
    rintro v1 h1 ⟨rfl, hR1, h62, hL1, q1, hM1, m1, e1, x1⟩
    rw [← c1, ← c2] at m1 x1
    have hD1 := hD.kept h62
    refine ex_go 80 rfl (ex_vret rfl ⟨rfl, hR1, hD1.la, hL1, q1, hM1, m1, ⟨e1 1 (by omega), e1 4 (by omega), e1 11 (by omega)⟩, fun r hr => ?_⟩)
    obtain ⟨y1, y2⟩ := x1 r hr
    obtain ⟨r2, w2, _⟩ := nxS_r hr
    obtain ⟨r1, w1⟩ := csS_i (i := 1) w2 (by decide)
    have w3 := w1
    rw [c1] at w3
    obtain ⟨w4, _⟩ := ndS_r w3
    have ea : vlS tp tl (lkS tp tl (nxS tp tl s0) 0 3) = vlS tp tl (csS tp tl 6 mt s0 1) := by rw [w4, w1]
    have hb0 : vlS tp tl (csS tp tl 6 mt s0 1) ≤ 3 := by rw [← ea]; exact vl_hi
    rw [ea] at y1 y2
    refine ⟨hD1.congr (fun j hj _ => ⟨trivial, ?_⟩), y1, (e1 0 (by omega)).trans h0, y2, (e1 3 (by omega)).trans h3⟩
    show rv f j = rv (up f (60 + vlS tp tl (csS tp tl 6 mt s0 1)) _) j
    unfold rv
    rw [up_ne (by omega)]
  · have c1 : csS tp tl 7 mt s0 1 = lkS tp tl (nxS tp tl s0) 0 7 := lkC_n (by decide) (by decide)
    have c2 : csS tp tl 7 mt s0 2 = ndS tp tl (lkS tp tl (nxS tp tl (lkS tp tl (nxS tp tl s0) 0 7)) 0 7) (fun p => decide (tV tp tl p ≠ vlS tp tl (lkS tp tl (nxS tp tl s0) 0 7))) 3 := by
      rw [← c1]
      show lkC tp tl 7 mt 1 (v0S tp tl 7 s0) (nxS tp tl (csS tp tl 7 mt s0 1)) = _
      unfold lkC
      rw [ndS_1 (c := 4) (fun p => by rw [decide_eq_false (fun z => absurd z.1 (by decide))]; rfl)]
      refine ndS_c (fun p => ?_)
      rw [show v0S tp tl 7 s0 = vlS tp tl (csS tp tl 7 mt s0 1) by rw [c1]; rfl]
      by_cases ce : tV tp tl p = vlS tp tl (csS tp tl 7 mt s0 1)
      · rw [decide_eq_true ⟨rfl, rfl, ce⟩, decide_eq_false (fun z => z ce)]
        rfl
      · rw [decide_eq_false (fun z => ce z.2.2), decide_eq_true ce]
        rfl
    refine ex_go 80 rfl ?_
    refine ex_tsw (t := 23) rfl (by decide) ?_
    refine ex_go 80 rfl ?_
    refine ex_cvx rfl rfl rfl rfl hM rfl (d' := 4) (by omega) (c_readKin (s := nxS tp tl s0) hM hTp hq ht hb m hD h3 hg8 (Nat.le_refl _)) ?_
    rintro v1 h1 ⟨rfl, hR1, h63, hL1, q1, hM1, m1, e1, x1⟩
    rw [← c2] at m1 x1
    have hDm1 := hDm.kept h63
    refine ex_go 80 rfl (ex_vret rfl ⟨rfl, hR1, hL1, hDm1.la, q1, hM1, m1, ⟨e1 1 (by omega), e1 4 (by omega), e1 11 (by omega)⟩, fun r hr => ?_⟩)
    obtain ⟨r2, w2, _⟩ := nxS_r hr
    obtain ⟨y1, y2⟩ := x1 r2 w2
    have w3 := w2
    have w3' : csS tp tl 7 mt s0 2 = .inr r2 := w2
    rw [c2] at w3'
    obtain ⟨w4, _⟩ := ndS_r w3'
    have eb : vlS tp tl (lkS tp tl (nxS tp tl (lkS tp tl (nxS tp tl s0) 0 7)) 0 7) = vlS tp tl (csS tp tl 7 mt s0 2) := by rw [w4, show csS tp tl 7 mt s0 2 = .inr r2 from w2]
    rw [eb, ← c1] at y1 y2
    have hb0 : vlS tp tl (csS tp tl 7 mt s0 1) ≤ 7 := by rw [c1]; exact vl_hi
    have hb1 : vlS tp tl (csS tp tl 7 mt s0 2) ≤ 7 := by rw [← eb]; exact vl_hi
    refine ⟨y1, hDm1.congr (fun t _ _ => ⟨trivial, ?_⟩), (e1 0 (by omega)).trans h0, (e1 2 (by omega)).trans h2, y2⟩
    show nI (f (60 + t)) = nI (kiF f (vlS tp tl (csS tp tl 7 mt s0 1)) (vlS tp tl (csS tp tl 7 mt s0 2)) true (60 + t))
    unfold kiF
    rw [up_ne (by omega), up_ne (by omega)]
end MLINE
