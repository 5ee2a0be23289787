/-! text: the class's call; both sides. -/
def CTQ (h : ev_H) (tl : Nat) (x : Nat → Int32) (R : Sum (Nat × Nat) Nat × Nat × (Nat → Nat) × Nat × Nat) (v : Option Value) (h' : ev_H) : Prop := TL h' ∧ TEL h' ∧ h'.length = h.length ∧ (∀ j, (j = 19 ∨ j = 21 ∨ j = 22 ∨ 25 ≤ j) → h'[j]? = h[j]?) ∧ ∃ x', CO h' x' ∧ x' 0 = 0 ∧ x' 2 = x 2 ∧ (∀ c w, vdS tl R = .inl (c, w) → v = some (.int (-10 - nI w)) ∧ x' 1 = nI c ∧ ∀ j, ((1 ≤ j ∧ j ≤ 9) ∨ j = 20) → h'[j]? = h[j]?) ∧ ∀ r, vdS tl R = .inr r → v = some (.int (nI R.2.2.2.2)) ∧ x' 1 = 0 ∧ TA h' 1 R.2.1 R.2.2.1 ∧ KB h' 20 (fun _ => false)
section CTEXT
variable {scr : List Int32} {d : Nat} {h : ev_H} {n : Nat} {x : Nat → Int32} {tp : Nat → Nat} {tl : Nat} {f : Nat → Nat} {kp : Nat → Bool}
theorem k_text (hC : CO h x) (hx : x 0 = nI tl) (hT : TA h 1 n f) (hTL : TL h) (hTp : TP h tl tp) (hKp : KB h 20 kp) (hTe : TEL h) (ht : tl ≤ 160) (hb : ∀ i, i < tl → tp i < 128) (hd : 10 ≤ d) : ev_X scr d cd_X5_text 0 [.ref 0, .float 0, .float 0] [] h (CTQ h tl x (txS tp tl (tl + 1) (tkS tp tl 0) 0 f0F false false 0 0 0)) := by
  obtain ⟨nR, fR, hR⟩ := hTL
  obtain ⟨⟨y, va, vb, hO⟩, hL⟩ := hTe
  refine ex_go 80 rfl ?_
  refine ex_getf rfl hC rfl rfl ?_
  refine ex_go 80 rfl ?_
  refine ex_getf rfl hC rfl rfl ?_
  refine ex_go 80 rfl ?_
  refine ex_getf rfl hC rfl rfl ?_
  refine ex_go 80 rfl ?_
  refine ex_getf rfl hC rfl rfl ?_
  rw [hx]
  refine ex_cvx rfl rfl rfl rfl hO rfl (d' := 9) (by omega) (c_tell hO hR hTp hL ht hb (Nat.le_refl _)) ?_
  rintro v1 h1 ⟨hF1, hL1, hTL1, y1, hO1, q1, q2⟩
  generalize txS tp tl (tl + 1) (tkS tp tl 0) 0 f0F false false 0 0 0 = R at *
  have hC1 : CO h1 x := (hF1.2 0 (by omega)).trans hC
  have hT1 := hT.same (h' := h1) (fun j _ _ => hF1.2 j (by omega))
  have hK1 : KB h1 20 kp := hKp.kept (hF1.2 20 (by omega))
  cases hv : vdS tl R with
  | inl e =>
    obtain ⟨c, w⟩ := e
    obtain ⟨rfl, f1, f2⟩ := q1 c w hv
    refine ex_go 80 rfl ?_
    refine ex_pf rfl hC1 rfl rfl (fun h2 hO2 hB2 => ?_)
    have hC2 : CO h2 (ux x 0 0) := hO2
    have hT2 : TO h2 y1 := (hB2.2 23 (by decide)).trans hO1
    refine ex_go 80 rfl ?_
    refine ex_getf rfl hC2 rfl rfl ?_
    refine ex_getf rfl hT2 rfl rfl ?_
    refine ex_pf rfl hC2 rfl rfl (fun h3 hO3 hB3 => ?_)
    have hC3 : CO h3 (ux (ux x 0 0) 1 (y1 1)) := hO3
    have hT3 : TO h3 y1 := (hB3.2 23 (by decide)).trans hT2
    have hB13 := hB2.tr hB3
    refine ex_go 80 rfl ?_
    refine ex_zneF rfl (rfl) ?_
    refine ex_go 80 rfl ?_
    refine ex_getf rfl hC3 rfl rfl ?_
    refine ex_getf rfl hT3 rfl rfl ?_
    refine ex_go 80 rfl ?_
    try dsimp only
    try simp only [nI_inc, nI_1, nI_add, nI_mul2, tb_and, tb_or, tb_andn]
    rw [f2]
    refine ex_iret rfl ⟨hTL1.same (fun j _ _ => hB13.2 j (by omega)), ⟨⟨y1, _, _, hT3⟩, hL1.kept (hB13.2 24 (by decide))⟩, hB13.1.trans hF1.1, fun j hj => (hB13.2 j (by omega)).trans (hF1.2 j (by omega)), _, hC3, rfl, rfl, fun c' w' e' => ?_, fun r e' => ?_⟩
    · rw [hv] at e'
      cases e'
      exact ⟨rfl, f1, fun j hj => (hB13.2 j (by omega)).trans (hF1.2 j (by omega))⟩
    · rw [hv] at e'
      cases e'
  | inr r =>
    obtain ⟨rfl, f1, f0, hR1⟩ := q2 r hv
    refine ex_go 80 rfl ?_
    refine ex_pf rfl hC1 rfl rfl (fun h2 hO2 hB2 => ?_)
    have hC2 : CO h2 (ux x 0 0) := hO2
    have hT2 : TO h2 y1 := (hB2.2 23 (by decide)).trans hO1
    refine ex_go 80 rfl ?_
    refine ex_getf rfl hC2 rfl rfl ?_
    refine ex_getf rfl hT2 rfl rfl ?_
    refine ex_pf rfl hC2 rfl rfl (fun h3 hO3 hB3 => ?_)
    have hC3 : CO h3 (ux (ux x 0 0) 1 (y1 1)) := hO3
    have hT3 : TO h3 y1 := (hB3.2 23 (by decide)).trans hT2
    have hB13 := hB2.tr hB3
    have hW3 := hT1.same (h' := h3) (fun j _ _ => hB13.2 j (by omega))
    have hR3 := hR1.same (h' := h3) (fun j _ _ => hB13.2 j (by omega))
    have hK3 : KB h3 20 kp := hK1.kept (hB13.2 20 (by decide))
    refine ex_go 80 rfl ?_
    refine ex_zneT rfl (by decide) ?_
    refine ex_go 80 rfl ?_
    refine ex_getf rfl hC3 rfl rfl ?_
    refine ex_go 80 rfl ?_
    refine ex_getf rfl hC3 rfl rfl ?_
    refine ex_cvx rfl rfl rfl rfl hW3.1 rfl (d' := 1) (by omega) (c_copyFrom hW3 hR3 (by decide) rfl (Nat.le_refl _)) ?_
    rintro v4 h4 ⟨rfl, hW4, hF4⟩
    have hC4 : CO h4 (ux (ux x 0 0) 1 (y1 1)) := (hF4.2 0 (by omega)).trans hC3
    have hT4 : TO h4 y1 := (hF4.2 23 (by omega)).trans hT3
    have hR4 := hR3.same (h' := h4) (fun j _ _ => hF4.2 j (by omega))
    have hK4 : KB h4 20 kp := hK3.kept (hF4.2 20 (by omega))
    refine ex_go 80 rfl ?_
    refine ev_loop 2 (fun i => ∀ h5, BA h5 20 2 2 (fun _ => True) (fun k => if k < i then nI 0 else nI (tb_b (kp k))) → SB 20 h4 h5 → ev_X scr d cd_X5_text 33 [.ref 0, .int 1, .int (nI i)] [] h5 (CTQ h tl x R)) (fun i hi K h5 hA5 hB5 => ?_) (fun h5 hA5 hB5 => ?_) h4 (hK4.congr (fun k _ _ => ⟨trivial, by rw [if_neg (Nat.not_lt_zero k)]⟩)) SB.rf
    · have hC5 : CO h5 (ux (ux x 0 0) 1 (y1 1)) := (hB5.2 0 (by decide)).trans hC4
      refine ex_nop rfl ?_
      refine ex_go 80 rfl ?_
      refine ex_igeF rfl (nI_ge hi (by first | omega | decide)) ?_
      refine ex_go 80 rfl ?_
      refine ex_getf rfl hC5 rfl rfl ?_
      refine ex_go 80 rfl ?_
      refine ex_bs _ rfl hA5 rfl (Or.inr ⟨rfl, show vp_nar .boolean 0 = nI 0 from rfl⟩) (by omega) (by omega) (fun h6 hA6 hB6 => ?_)
      refine ex_go 80 rfl ?_
      try dsimp only
      try simp only [nI_inc, nI_1, nI_add, nI_mul2, tb_and, tb_or, tb_andn]
      refine K h6 (hA6.congr (fun k _ _ => ⟨Or.inl trivial, ?_⟩)) (hB5.tr hB6)
      by_cases c : k = i
      · rw [if_pos c, if_pos (by omega)]
      · rw [if_neg c]
        by_cases c2 : k < i
        · rw [if_pos c2, if_pos (by omega)]
        · rw [if_neg c2, if_neg (by omega)]
    · have hC5 : CO h5 (ux (ux x 0 0) 1 (y1 1)) := (hB5.2 0 (by decide)).trans hC4
      have hT5 : TO h5 y1 := (hB5.2 23 (by decide)).trans hT4
      refine ex_nop rfl ?_
      refine ex_go 80 rfl ?_
      refine ex_igeT rfl (nI_le (Nat.le_refl _) (by first | omega | decide)) ?_
      refine ex_go 80 rfl ?_
      refine ex_getf rfl hC5 rfl rfl ?_
      refine ex_getf rfl hT5 rfl rfl ?_
      rw [f0]
      refine ex_iret rfl ⟨⟨_, _, hR4.same (fun j _ _ => hB5.2 j (by omega))⟩, ⟨⟨y1, _, _, hT5⟩, ((hL1.kept (hB13.2 24 (by decide))).kept (hF4.2 24 (by omega))).kept (hB5.2 24 (by decide))⟩, hB5.1.trans (hF4.1.trans (hB13.1.trans hF1.1)), fun j hj => (hB5.2 j (by omega)).trans ((hF4.2 j (by omega)).trans ((hB13.2 j (by omega)).trans (hF1.2 j (by omega)))), _, hC5, rfl, rfl, fun c' w' e' => ?_, fun r' e' => ⟨rfl, f1, hW4.same (fun j _ _ => hB5.2 j (by omega)), hA5.congr (fun k hk _ => ⟨trivial, by rw [if_pos (by omega)]; rfl⟩)⟩⟩
      rw [hv] at e'
      cases e'
end CTEXT
section TTEXT
variable {scr : List Int32} {h : ev_H}
theorem t_text (W : WLD h) : ∃ a, TW scr h cd_X5_text [.ref 0, .float 0, .float 0] cd_X6_text [.ref 57, .float 0] (.int a) := by
  obtain ⟨n, f, x, q, im, kp, fk, tl, tp, sv, sl, ss, sc, w1, r1, p, ft, fk2, len⟩ := W
  obtain ⟨p1, p2, p3, p4, p5, p6⟩ := p
  obtain ⟨⟨a0, a1⟩, a2, a3, a4, a5, a6, a7, a8, a9⟩ := w1
  obtain ⟨v1, h1, e1, hTL1, hTe1, hl1, hE1, x', hC1, x0, x2, c1, c2⟩ := k_text (scr := scr) (d := 50) a0 a1 a2 a3 a6 a4.2.1 a7 p4 p5 (by decide)
  have r2 := r1.same (h' := h1) (fun j hj => hE1 j (by omega))
  obtain ⟨⟨b0, b1⟩, b2, b3, b4, b5, b6, b7, b8, b9⟩ := id r2
  obtain ⟨v2, h2, e2, hL2, hL2', hl2, q', q4, q11, d1, d2⟩ := r_text (scr := scr) (d := 50) b0 b7 b1 p4 p5 b2 b4 b5.1 b6.1 b6.2 (by decide)
  generalize txS tp tl (tl + 1) (tkS tp tl 0) 0 f0F false false 0 0 0 = R at *
  have len2 := (hl2.trans hl1).trans len
  cases hv : vdS tl R with
  | inl e =>
    obtain ⟨c, w⟩ := e
    obtain ⟨rfl, y1, hE1'⟩ := c1 c w hv
    obtain ⟨rfl, q9, hM2, hE2⟩ := d1 c w hv
    have w2 : WC h1 n f x' kp fk 0 tp sv sl ss sc := ⟨⟨hC1, x0⟩, a2.same (fun j _ _ => hE1' j (by omega)), hTL1, ⟨(hE1 19 (by omega)).trans a4.1, a4.2.1.kept (hE1' 20 (by omega)), fun k hk => by
      obtain ⟨n2, f2, t, i⟩ := a4.2.2 k hk
      exact ⟨n2, f2, t.same (fun j _ _ => hE1 j (by omega)), i⟩⟩, a5.same (fun j _ => hE1 j (by omega)), (a6.kept (hE1 22 (by omega))).congr (fun i _ hp => absurd hp (Nat.not_lt_zero i)), hTe1, a8.same (fun j _ _ => hE1 j (by omega)), a9.same (hE1 30 (by omega))⟩
    have w3 := w2.same (h' := h2) (fun j hj => hE2 j (by omega) (by omega) (by omega))
    have r3 : WR h2 n f q' im kp fk 0 tp sv sl ss sc := ⟨⟨hM2, q4⟩, b2.kept (hE2 _ (by decide) (by decide) (by decide)), ⟨b3.1.kept (hE2 _ (by decide) (by decide) (by decide)), b3.2.1.kept (hE2 _ (by decide) (by decide) (by decide)), b3.2.2.kept (hE2 _ (by decide) (by decide) (by decide))⟩, b4.kept (hE2 _ (by decide) (by decide) (by decide)), ⟨b5.1.kept (hE2 _ (by decide) (by decide) (by decide)), b5.2⟩, ⟨hL2, hL2'⟩, (b7.kept (hE2 _ (by decide) (by decide) (by decide))).congr (fun i _ hp => absurd hp (Nat.not_lt_zero i)), ⟨b8.1.kept (hE2 _ (by decide) (by decide) (by decide)), b8.2.1.kept (hE2 _ (by decide) (by decide) (by decide)), b8.2.2.kept (hE2 _ (by decide) (by decide) (by decide))⟩, b9.kept (hE2 _ (by decide) (by decide) (by decide))⟩
    exact ⟨_, h1, h2, e1, ⟨_, b0⟩, e2, n, f, x', q', im, kp, fk, 0, tp, sv, sl, ss, sc, w3, r3, ⟨p1, ⟨y1.trans q9.symm, x2.trans (p2.2.trans q11.symm)⟩, p3, Nat.zero_le _, fun i hi => absurd hi (Nat.not_lt_zero i), p6⟩, ft, fk2, len2⟩
  | inr r =>
    obtain ⟨rfl, y1, hT1, hK1⟩ := c2 r hv
    obtain ⟨rfl, q9, hM2, hS2, hMo2, hK2, g2, hE2⟩ := d2 r hv
    have ftk4 : ftk R.2.1 R.2.2.1 4 = true := by
      unfold vdS at hv
      revert hv
      cases R.1 with
      | inl e => intro hv; cases hv
      | inr r' =>
        intro hv
        have hv' : vdE tl R.2.1 R.2.2.1 R.2.2.2.1 r' = .inr r := hv
        unfold vdE at hv'
        by_cases ck : R.2.2.2.1 < 2 ^ R.2.1
        · rw [if_pos ck] at hv'
          by_cases cf : ftk R.2.1 R.2.2.1 4 = true
          · exact cf
          · rw [if_neg cf] at hv'
            cases hv'
        · rw [if_neg ck] at hv'
          cases hv'
    have w2 : WC h1 R.2.1 R.2.2.1 x' (fun _ => false) fk 0 tp sv sl ss sc := ⟨⟨hC1, x0⟩, hT1, hTL1, ⟨(hE1 19 (by omega)).trans a4.1, hK1, fun k hk => by
      obtain ⟨n2, f2, t, i⟩ := a4.2.2 k hk
      exact ⟨n2, f2, t.same (fun j _ _ => hE1 j (by omega)), fun z => absurd z Bool.false_ne_true⟩⟩, a5.same (fun j _ => hE1 j (by omega)), (a6.kept (hE1 22 (by omega))).congr (fun i _ hp => absurd hp (Nat.not_lt_zero i)), hTe1, a8.same (fun j _ _ => hE1 j (by omega)), a9.same (hE1 30 (by omega))⟩
    have w3 := w2.same (h' := h2) (fun j hj => hE2 j (by omega) (by omega) (by omega) (by omega) (by omega) (by omega))
    have r3 : WR h2 R.2.1 R.2.2.1 q' im (fun _ => false) fk 0 tp sv sl ss sc := ⟨⟨hM2, q4⟩, hS2, ⟨b3.1.kept (hE2 _ (by decide) (by decide) (by decide) (by decide) (by decide) (by decide)), b3.2.1.kept (hE2 _ (by decide) (by decide) (by decide) (by decide) (by decide) (by decide)), b3.2.2.kept (hE2 _ (by decide) (by decide) (by decide) (by decide) (by decide) (by decide))⟩, hMo2, ⟨hK2, fun k _ z => absurd z Bool.false_ne_true⟩, ⟨hL2, hL2'⟩, (b7.kept (hE2 _ (by decide) (by decide) (by decide) (by decide) (by decide) (by decide))).congr (fun i _ hp => absurd hp (Nat.not_lt_zero i)), ⟨b8.1.kept (hE2 _ (by decide) (by decide) (by decide) (by decide) (by decide) (by decide)), b8.2.1.kept (hE2 _ (by decide) (by decide) (by decide) (by decide) (by decide) (by decide)), b8.2.2.kept (hE2 _ (by decide) (by decide) (by decide) (by decide) (by decide) (by decide))⟩, b9.kept (hE2 _ (by decide) (by decide) (by decide) (by decide) (by decide) (by decide))⟩
    exact ⟨_, h1, h2, e1, ⟨_, b0⟩, e2, R.2.1, R.2.2.1, x', q', im, fun _ => false, fk, 0, tp, sv, sl, ss, sc, w3, r3, ⟨g2, ⟨y1.trans q9.symm, x2.trans (p2.2.trans q11.symm)⟩, fun k _ z => absurd z Bool.false_ne_true, Nat.zero_le _, fun i hi => absurd hi (Nat.not_lt_zero i), p6⟩, fun t ht => ftk_t 4 ftk4 t ht, fun k _ z => absurd z Bool.false_ne_true, len2⟩
end TTEXT
