/-! text: the class tells. -/
def TQ (h : ev_H) (tl : Nat) (R : Sum (Nat × Nat) Nat × Nat × (Nat → Nat) × Nat × Nat) (v : Option Value) (h' : ev_H) : Prop := CFr h h' ∧ LA h' 24 3 ∧ TL h' ∧ ∃ y', TO h' y' ∧ (∀ c x, vdS tl R = .inl (c, x) → v = some (.int 0) ∧ y' 1 = nI c ∧ y' 2 = nI x) ∧ ∀ r, vdS tl R = .inr r → v = some (.int 1) ∧ y' 1 = 0 ∧ y' 0 = nI R.2.2.2.2 ∧ TA h' 10 R.2.1 R.2.2.1
section CTELL
variable {scr : List Int32} {d : Nat} {h : ev_H} {tp : Nat → Nat} {tl p n mt km : Nat} {y : Nat → Int32} {f : Nat → Nat} {ft wt : Bool}
theorem TA.f0 {a : Nat} (hT : TA h a 0 clF) : TA h a 0 f0F := by
  obtain ⟨hO, t1, t2, t3, t4, t5, t6, t7, t8⟩ := hT
  refine ⟨hO, t1.congr (fun m _ hm => absurd hm (Nat.not_lt_zero m)), t2.congr (fun m _ hm => absurd hm (Nat.not_lt_zero m)), t3.congr (fun m _ hm => absurd hm (Nat.not_lt_zero m)), t4.congr (fun m _ hm => absurd hm (Nat.not_lt_zero m)), t5.congr (fun m hm _ => ⟨trivial, ?_⟩), t6.congr (fun m hm _ => ⟨trivial, ?_⟩), t7.congr (fun m _ hm => absurd hm (Nat.not_lt_zero m)), t8.congr (fun m _ hm => absurd hm (Nat.not_lt_zero m))⟩
  · show nI (clF (5 * m + 4)) = nI (f0F (5 * m + 4))
    unfold f0F
    rw [if_neg (by omega)]
  · show nI (clF (60 + m)) = nI (f0F (60 + m))
    unfold f0F
    rw [if_neg (by omega)]
theorem c_start {va vb : Value} (hO : h[23]? = some (.inr (3, [.int (y 0), .int (y 1), .int (y 2), va, vb, .int (y 3), .int (y 4), .int (y 5), .int (y 6), .int (y 7), .ref 24, .int (y 8), .int (y 9), .int (y 10), .int (y 11)]))) (hT : TA h 10 n f) (hd : 1 ≤ d) : ev_X scr d cd_X3_start 0 [.ref 23, .ref 22, .int (nI tl), .ref 10] [] h (fun v h' => v = none ∧ TA h' 10 0 f0F ∧ h'[24]? = h[24]? ∧ CFr h h' ∧ ∃ y', TO h' y' ∧ y' 0 = 0 ∧ y' 1 = 0 ∧ y' 3 = nI tl ∧ y' 4 = 0 ∧ y' 8 = 0 ∧ y' 9 = 0 ∧ y' 10 = 0 ∧ y' 11 = 0) := by
  refine ex_go 80 rfl ?_
  refine ex_pr2 rfl hO rfl rfl (fun h1 hO1 hB1 => ?_)
  refine ex_go 80 rfl ?_
  refine ex_pf rfl hO1 rfl rfl (fun h2 hO2 hB2 => ?_)
  refine ex_go 80 rfl ?_
  refine ex_pr2 rfl hO2 rfl rfl (fun h3 hO3 hB3 => ?_)
  have hO3' : TO h3 (ux y 3 (nI tl)) := hO3
  have hC3 : SB 23 h h3 := (hB1.tr hB2).tr hB3
  have hT3 := hT.same (h' := h3) (fun j _ _ => hC3.2 j (by omega))
  refine ex_go 80 rfl ?_
  refine ex_getf rfl hO3' rfl rfl ?_
  refine ex_cvx rfl rfl rfl rfl hT3.1 rfl (d' := 0) (by omega) (c_clear hT3) ?_
  rintro v4 h4 ⟨rfl, hT4, hF4⟩
  have hO4 : TO h4 (ux y 3 (nI tl)) := (hF4.2 23 (by omega)).trans hO3'
  refine ex_go 80 rfl ?_
  refine ex_pf rfl hO4 rfl rfl (fun h5 hO5 hB5 => ?_)
  have hO5' : TO h5 (ux (ux y 3 (nI tl)) 0 0) := hO5
  refine ex_go 80 rfl ?_
  refine ex_pf rfl hO5' rfl rfl (fun h6 hO6 hB6 => ?_)
  have hO6' : TO h6 (ux (ux (ux y 3 (nI tl)) 0 0) 1 0) := hO6
  refine ex_go 80 rfl ?_
  refine ex_pf rfl hO6' rfl rfl (fun h7 hO7 hB7 => ?_)
  have hO7' : TO h7 (ux (ux (ux (ux y 3 (nI tl)) 0 0) 1 0) 2 0) := hO7
  refine ex_go 80 rfl ?_
  refine ex_pf rfl hO7' rfl rfl (fun h8 hO8 hB8 => ?_)
  have hO8' : TO h8 (ux (ux (ux (ux (ux y 3 (nI tl)) 0 0) 1 0) 2 0) 4 0) := hO8
  refine ex_go 80 rfl ?_
  refine ex_pz rfl hO8' rfl rfl rfl (fun h9 hO9 hB9 => ?_)
  have hO9' : TO h9 (ux (ux (ux (ux (ux (ux y 3 (nI tl)) 0 0) 1 0) 2 0) 4 0) 8 0) := hO9
  refine ex_go 80 rfl ?_
  refine ex_pz rfl hO9' rfl rfl rfl (fun h10 hO10 hB10 => ?_)
  have hO10' : TO h10 (ux (ux (ux (ux (ux (ux (ux y 3 (nI tl)) 0 0) 1 0) 2 0) 4 0) 8 0) 9 0) := hO10
  refine ex_go 80 rfl ?_
  refine ex_pf rfl hO10' rfl rfl (fun h11 hO11 hB11 => ?_)
  have hO11' : TO h11 (ux (ux (ux (ux (ux (ux (ux (ux y 3 (nI tl)) 0 0) 1 0) 2 0) 4 0) 8 0) 9 0) 10 0) := hO11
  refine ex_go 80 rfl ?_
  refine ex_pf rfl hO11' rfl rfl (fun h12 hO12 hB12 => ?_)
  have hO12' : TO h12 (ux (ux (ux (ux (ux (ux (ux (ux (ux y 3 (nI tl)) 0 0) 1 0) 2 0) 4 0) 8 0) 9 0) 10 0) 11 0) := hO12
  have hB4 : SB 23 h4 h12 := ((((((hB5.tr hB6).tr hB7).tr hB8).tr hB9).tr hB10).tr hB11).tr hB12
  exact ex_vret rfl (⟨rfl, (hT4.same (fun j _ _ => hB4.2 j (by omega))).f0, (hB4.2 24 (by decide)).trans ((hF4.2 24 (by omega)).trans (hC3.2 24 (by decide))), (hC3.cf (by omega)).tr (hF4.cf.tr (hB4.cf (by omega))), _, hO12', rfl, rfl, rfl, rfl, rfl, rfl, rfl, rfl⟩)
theorem c_agrees {r : Nat} (hO : TO h y) (hT : TA h 10 n f) (hn : n ≤ 8) (g60 : ∀ t, t < 4 → f (60 + t) < 1000) (h3 : y 3 = nI tl) (hk : y 11 = nI km) (hkm : km < 256) (hd : 2 ≤ d) : ev_X scr d cd_X3_agrees 0 [.ref 23, .float 0] [] h (fun v h' => ∃ y', TO h' y' ∧ SB 23 h h' ∧ (∀ c x, vdE tl n f km r = .inl (c, x) → v = some (.int 0) ∧ y' 1 = nI c ∧ y' 2 = nI x) ∧ ∀ r', vdE tl n f km r = .inr r' → v = some (.int 1) ∧ y' = y) := by
  have bad : ∀ {h2 : ev_H} {c : Nat}, vdE tl n f km r = .inl (c, tl) → TO h2 (ux (ux y 1 (nI c)) 2 (nI tl)) → SB 23 h h2 → ∃ y', TO h2 y' ∧ SB 23 h h2 ∧ (∀ c x, vdE tl n f km r = .inl (c, x) → (some (.int 0) : Option Value) = some (.int 0) ∧ y' 1 = nI c ∧ y' 2 = nI x) ∧ ∀ r', vdE tl n f km r = .inr r' → (some (.int 0) : Option Value) = some (.int 1) ∧ y' = y := by
    intro h2 c e hO2 hB2
    refine ⟨_, hO2, hB2, fun c' x' e' => ?_, fun r' e' => ?_⟩
    · rw [e] at e'
      cases e'
      exact ⟨rfl, by rw [ux_ne (by decide), ux_eq], ux_eq⟩
    · rw [e] at e'
      cases e'
  refine ex_go 80 rfl ?_
  refine ex_getf rfl hO rfl rfl ?_
  refine ex_go 80 rfl ?_
  refine ex_getf rfl hO rfl rfl ?_
  refine ex_cv rfl rfl rfl rfl hT.1 rfl (d' := 0) (by omega) (c_allMen hT hn) ?_
  refine ex_go 80 rfl ?_
  try dsimp only
  try simp only [nI_inc, nI_1, nI_add, nI_mul2, tb_and, tb_or, tb_andn]
  rw [hk, tb_andn]
  by_cases c : km < 2 ^ n
  · have L : ftk n f 0 = true → ev_X scr d cd_X3_agrees 17 [.ref 23, .int (nI 0)] [] h (fun v h' => ∃ y', TO h' y' ∧ SB 23 h h' ∧ (∀ c x, vdE tl n f km r = .inl (c, x) → v = some (.int 0) ∧ y' 1 = nI c ∧ y' 2 = nI x) ∧ ∀ r', vdE tl n f km r = .inr r' → v = some (.int 1) ∧ y' = y) := by
      refine ev_loop 4 (fun t => ftk n f t = true → ev_X scr d cd_X3_agrees 17 [.ref 23, .int (nI t)] [] h (fun v h' => ∃ y', TO h' y' ∧ SB 23 h h' ∧ (∀ c x, vdE tl n f km r = .inl (c, x) → v = some (.int 0) ∧ y' 1 = nI c ∧ y' 2 = nI x) ∧ ∀ r', vdE tl n f km r = .inr r' → v = some (.int 1) ∧ y' = y)) (fun t hi K hf => ?_) (fun hf => ?_)
      · have h8 := pc8_le (bs (fun m => decide (f (5 * m + 3) = t)) n)
        have h6 := g60 t hi
        have es : sz n f t = pc8 (bs (fun m => decide (f (5 * m + 3) = t)) n) := rfl
        refine ex_nop rfl ?_
        refine ex_go 80 rfl ?_
        refine ex_igeF rfl (nI_ge hi (by first | omega | decide)) ?_
        refine ex_go 80 rfl ?_
        refine ex_getf rfl hO rfl rfl ?_
        refine ex_go 80 rfl ?_
        refine ex_cv rfl rfl rfl rfl hT.1 rfl (d' := 1) (by omega) (c_sizeOfTen hT hn hi (Nat.le_refl _)) ?_
        refine ex_go 80 rfl ?_
        refine ex_getf rfl hO rfl rfl ?_
        refine ex_getf rfl hT.1 rfl rfl ?_
        refine ex_go 80 rfl ?_
        refine ex_ia _ rfl hT.2.2.2.2.2.2.1 rfl (by first | exact trivial | assumption | (show _ < _; omega)) (by omega) (by omega) rfl ?_
        by_cases cs : sz n f t ≤ f (60 + t)
        · refine ex_ileT rfl (nI_le (by omega) (by omega)) ?_
          refine ex_go 80 rfl ?_
          try dsimp only
          try simp only [nI_inc, nI_1, nI_add, nI_mul2, tb_and, tb_or, tb_andn]
          exact K (by rw [ftk, hf, decide_eq_true cs]; rfl)
        · refine ex_ileF rfl (fun z => cs (by rw [es]; exact (nI_leI (by omega) (by omega)).mp z)) ?_
          refine ex_go 80 rfl ?_
          refine ex_getf rfl hO rfl rfl ?_
          rw [h3]
          refine ex_cvx rfl rfl rfl rfl hO rfl (d' := 0) (by omega) (c_refuse hO) ?_
          rintro v3 h3' ⟨rfl, hO3, hB3⟩
          refine ex_tret rfl rfl (bad ?_ hO3 hB3)
          unfold vdE
          rw [if_pos c, ftk_f cs 4 hi, if_neg (by decide)]
      · refine ex_nop rfl ?_
        refine ex_go 80 rfl ?_
        refine ex_igeT rfl (nI_le (Nat.le_refl _) (by first | omega | decide)) ?_
        refine ex_go 80 rfl ?_
        refine ex_tret rfl rfl ⟨y, hO, SB.rf, fun c' x' e' => ?_, fun r' e' => ⟨rfl, rfl⟩⟩
        unfold vdE at e'
        rw [if_pos c, if_pos hf] at e'
        cases e'
    rw [wo_z.mpr c]
    refine ex_zeqT rfl (rfl) ?_
    refine ex_go 80 rfl ?_
    exact L rfl
  · refine ex_zeqF rfl (fun z => c (wo_z.mp ((nI_z (Nat.lt_of_le_of_lt (tb_wo_le _ _) (by omega))).mp z))) ?_
    refine ex_go 80 rfl ?_
    refine ex_getf rfl hO rfl rfl ?_
    rw [h3]
    refine ex_cvx rfl rfl rfl rfl hO rfl (d' := 0) (by omega) (c_refuse hO) ?_
    rintro v3 h3' ⟨rfl, hO3, hB3⟩
    refine ex_tret rfl rfl (bad ?_ hO3 hB3)
    unfold vdE
    rw [if_neg c]
theorem c_tell {va vb : Value} (hO : h[23]? = some (.inr (3, [.int (y 0), .int (y 1), .int (y 2), va, vb, .int (y 3), .int (y 4), .int (y 5), .int (y 6), .int (y 7), .ref 24, .int (y 8), .int (y 9), .int (y 10), .int (y 11)]))) (hT : TA h 10 n f) (hB : TP h tl tp) (hL : LA h 24 3) (ht : tl ≤ 160) (hb : ∀ i, i < tl → tp i < 128) (hd : 9 ≤ d) : ev_X scr d cd_X3_tell 0 [.ref 23, .ref 22, .int (nI tl), .ref 10, .float 0] [] h (TQ h tl (txS tp tl (tl + 1) (tkS tp tl 0) 0 f0F false false 0 0 0)) := by
  have L : ∀ m P i h1 y1 n f ft wt mt km hg, P ≤ tl → i ≤ P → tl < P + m → INVt n f mt km hg → CFr h h1 → TO h1 y1 → TA h1 10 n f → LA h1 24 3 → (y1 0 = nI i ∧ y1 1 = 0 ∧ y1 3 = nI tl ∧ y1 4 = nI P ∧ y1 8 = nI (tb_b ft) ∧ y1 9 = nI (tb_b wt) ∧ y1 10 = nI mt ∧ y1 11 = nI km) → ev_X scr d cd_X3_tell 7 [.ref 23, .ref 22, .int (nI tl), .ref 10, .int (nI i)] [] h1 (TQ h tl (txS tp tl m (tkS tp tl P) n f ft wt mt km i)) := by
    intro m
    induction m with
    | zero =>
      intro P i h1 y1 n f ft wt mt km hg hP hi hm
      omega
    | succ m ih =>
      intro P i h1 y1 n f ft wt mt km hg hP hi hm I hC hO1 hT1 hL1 hy
      obtain ⟨y0, y1', y3, y4, y8, y9, y10, y11⟩ := hy
      have hBt := hB.kept (hC.2 22 (by omega))
      have hn := I.1.1
      have bad : ∀ {h2 : ev_H} {y2 : Nat → Int32} {c x : Nat} {R : Sum (Nat × Nat) Nat × Nat × (Nat → Nat) × Nat × Nat}, vdS tl R = .inl (c, x) → TO h2 y2 → y2 1 = nI c → y2 2 = nI x → CFr h1 h2 → LA h2 24 3 → TL h2 → TQ h tl R (some (.int 0)) h2 := by
        intro h2 y2 c x R e hO2 e1 e2 hF hL2 hTL
        refine ⟨hC.tr hF, hL2, hTL, y2, hO2, fun c' x' e' => ?_, fun r e' => ?_⟩
        · rw [e] at e'
          cases e'
          exact ⟨rfl, e1, e2⟩
        · rw [e] at e'
          cases e'
      refine ex_nop rfl ?_
      refine ex_go 80 rfl ?_
      refine ex_igtF rfl (fun z => absurd ((nI_ltI (a := 160) (by decide) (by omega)).mp z) (by omega)) ?_
      refine ex_go 80 rfl ?_
      refine ex_cvx rfl rfl rfl rfl hO1 rfl (d' := 2) (by omega) (c_tokS hO1 hBt ht hb y3 y4 hP (Nat.le_refl _)) ?_
      rintro v2 h2 ⟨y2, hO2, hB2, e2, q2⟩
      have hT2 := hT1.same (h' := h2) (fun j _ _ => hB2.2 j (by omega))
      have hL2 := hL1.kept (hB2.2 24 (by decide))
      have hC2 : CFr h1 h2 := hB2.cf (by omega)
      cases hs : tkS tp tl P with
      | inl e =>
        obtain ⟨c, x⟩ := e
        obtain ⟨rfl, k1, k2⟩ := q2.1 c x hs
        refine ex_zneF rfl (rfl) ?_
        refine ex_go 80 rfl ?_
        refine ex_tret rfl rfl (bad ?_ hO2 k1 k2 hC2 hL2 ⟨_, _, hT2⟩)
        rw [txS_l]
        rfl
      | inr r =>
        obtain ⟨rfl, k0, ⟨k1, k2⟩, k4, k6, k5, k7⟩ := q2.2 r hs
        obtain ⟨rfl, _⟩ := tkS_r hs
        have hK4 : tK tp tl P < 1000 := by
          unfold tK
          repeat' split
          all_goals decide
        have z0 : y2 0 = nI i := (k0 0 (by omega)).trans y0
        have z1 : y2 1 = 0 := (k0 1 (by omega)).trans y1'
        have z3 : y2 3 = nI tl := (k0 3 (by omega)).trans y3
        have z8 := (k0 8 (by omega)).trans y8
        have z9 := (k0 9 (by omega)).trans y9
        have z10 := (k0 10 (by omega)).trans y10
        have z11 := (k0 11 (by omega)).trans y11
        refine ex_zneT rfl (by decide) ?_
        refine ex_go 80 rfl ?_
        refine ex_getf rfl hO2 rfl rfl ?_
        rw [k5]
        by_cases c0 : tK tp tl P = 0
        · rw [txS_0 c0, c0]
          refine ex_zneF rfl (rfl) ?_
          refine ex_go 80 rfl ?_
          refine ex_cvx rfl rfl rfl rfl hO2 rfl (d' := 2) (by omega) (c_agrees (r := P) (tl := tl) (km := km) hO2 hT2 hn (fun t ht => by have := (I.1.2.2.2.2.2.2.2.2.2 t ht).2; omega) z3 z11 I.2.2.1 (Nat.le_refl _)) ?_
          rintro v3 h3 ⟨y3', hO3, hB3, q3, q4⟩
          have ev : vdS tl ((.inr P : Sum (Nat × Nat) Nat), n, f, km, i) = vdE tl n f km P := rfl
          have hT3 := hT2.same (h' := h3) (fun j _ _ => hB3.2 j (by omega))
          cases hv : vdE tl n f km P with
          | inl e =>
            obtain ⟨c, x⟩ := e
            obtain ⟨rfl, f1, f2⟩ := q3 c x hv
            exact ex_tret rfl rfl (bad (ev.trans hv) hO3 f1 f2 (hC2.tr (hB3.cf (by omega))) (hL2.kept (hB3.2 24 (by decide))) ⟨_, _, hT3⟩)
          | inr r' =>
            obtain ⟨rfl, rfl⟩ := q4 r' hv
            refine ex_tret rfl rfl ⟨hC.tr (hC2.tr (hB3.cf (by omega))), hL2.kept (hB3.2 24 (by decide)), ⟨_, _, hT3⟩, _, hO3, fun c' x' e' => ?_, fun r2 _ => ⟨rfl, z1, z0, hT3⟩⟩
            rw [ev, hv] at e'
            cases e'
        · rw [txS_s c0]
          refine ex_zneT rfl (fun z => c0 ((nI_z (by omega)).mp z)) ?_
          refine ex_go 80 rfl ?_
          refine ex_cvx rfl rfl rfl rfl hO2 rfl (d' := 8) (by omega) (c_takeLine (p := P) (n := n) (ft := ft) (wt := wt) (mt := mt) (km := km) hO2 (hBt.kept (hB2.2 22 (by decide))) hT2 hL2 ht hb z3 hP k4 k6 k5 hn z8 z9 z10 (by have := I.2.1; omega) z11 (Nat.le_refl _)) ?_
          rintro v3 h3 ⟨hC3, hL3, hTL3, y3', hO3, q3, q4⟩
          cases hv : lnS tp tl n ft wt mt P with
          | inl e =>
            obtain ⟨c, x⟩ := e
            obtain ⟨rfl, f1, f2⟩ := q3 c x hv
            refine ex_zneF rfl (rfl) ?_
            refine ex_go 80 rfl ?_
            refine ex_tret rfl rfl (bad ?_ hO3 f1 f2 (hC2.tr hC3) hL3 hTL3)
            show vdS tl (txS tp tl m (.inl (c, x)) _ _ _ _ _ _ _) = _
            rw [txS_l]
            rfl
          | inr r' =>
            obtain ⟨rfl, f0, f4, f8, f9, f10, f11, hT3⟩ := q4 r' hv
            obtain ⟨_, _, _, _, l5, l6, l7, l8⟩ := ln_ok hP hv
            refine ex_zneT rfl (by decide) ?_
            refine ex_go 80 rfl ?_
            refine ex_getf rfl hO3 rfl rfl ?_
            refine ex_go 80 rfl ?_
            try dsimp only
            try simp only [nI_inc, nI_1, nI_add, nI_mul2, tb_and, tb_or, tb_andn]
            rw [(f0 0 (by omega)).trans z0, nI_1]
            refine ex_pf rfl hO3 rfl rfl (fun h4 hO4 hB4 => ?_)
            have hO4' : TO h4 (ux y3' 0 (nI (i + 1))) := hO4
            have hT4 := hT3.same (h' := h4) (fun j _ _ => hB4.2 j (by omega))
            refine ex_go 80 rfl ?_
            try dsimp only
            try simp only [nI_inc, nI_1, nI_add, nI_mul2, tb_and, tb_or, tb_andn]
            refine ih (tE tp tl r') (i + 1) h4 _ _ _ _ _ _ _ _ l8 (by omega) (by omega) (I.line hP hv) (hC.tr (hC2.tr (hC3.tr (hB4.cf (by omega))))) hO4' hT4 (hL3.kept (hB4.2 24 (by decide))) ⟨rfl, ?_, ?_, ?_, ?_, ?_, ?_, ?_⟩
            · rw [ux_ne (by decide)]; exact (f0 1 (by omega)).trans z1
            · rw [ux_ne (by decide)]; exact (f0 3 (by omega)).trans z3
            · rw [ux_ne (by decide)]; exact f4
            · rw [ux_ne (by decide)]; exact f8
            · rw [ux_ne (by decide)]; exact f9
            · rw [ux_ne (by decide)]; exact f10
            · rw [ux_ne (by decide)]; exact f11
  refine ex_go 80 rfl ?_
  refine ex_cvx rfl rfl rfl rfl hO rfl (d' := 1) (by omega) (c_start (tl := tl) hO hT (Nat.le_refl _)) ?_
  rintro v1 h1 ⟨rfl, hT1, hL1, hC1, y1, hO1, e0, e1, e3, e4, e8, e9, e10, e11⟩
  refine ex_go 80 rfl ?_
  exact L (tl + 1) 0 0 h1 y1 0 f0F false false 0 0 0 (by omega) (by omega) (by omega) f0_gd hC1 hO1 hT1 (hL.kept hL1) ⟨e0, e1, e3, e4, e8, e9, e10, e11⟩
end CTELL
