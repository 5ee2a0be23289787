/-! best: by rows, and both. -/
def bst (n : Nat) (f : Nat → Nat) : Nat × (Nat → Nat) := scn n f n 0 (fun _ => 4) (1000000, fun _ => 4)
def ek (n : Nat) (f : Nat → Nat) : Nat → Nat
  | 0 => 0
  | k + 1 => ek n f k + (if f (5 * (n - (k + 1))) = 3 then 0 else 1)
theorem ek_le (n : Nat) (f : Nat → Nat) : ∀ k, ek n f k ≤ k
  | 0 => Nat.le_refl _
  | k + 1 => by
    have := ek_le n f k
    rw [ek]
    split <;> omega
def dgt (n : Nat) (f : Nat → Nat) (r m : Nat) : Nat := if f (5 * m) = 3 then 4 else r / 4 ^ ek n f (n - 1 - m) % 4
theorem dgt_p (n : Nat) (f : Nat → Nat) (r : Nat) : prp n f (dgt n f r) := fun m _ => by
  unfold dgt
  refine ⟨fun c => if_pos c, fun c => ?_⟩
  rw [if_neg c]
  exact Nat.mod_lt _ (by decide)
/-- rows from b on, c of them -/
def lfs (n : Nat) (f : Nat → Nat) (b : Nat) (s : Nat × (Nat → Nat)) : Nat → Nat × (Nat → Nat)
  | 0 => s
  | c + 1 => lf n f (dgt n f (b + c)) (lfs n f b s c)
theorem lfs_app (n : Nat) (f : Nat → Nat) (b : Nat) (s : Nat × (Nat → Nat)) (c : Nat) : ∀ c', lfs n f b s (c + c') = lfs n f (b + c) (lfs n f b s c) c'
  | 0 => rfl
  | c' + 1 => by rw [← Nat.add_assoc, lfs, lfs, lfs_app n f b s c c', Nat.add_assoc]
def E2 (n : Nat) (s s' : Nat × (Nat → Nat)) : Prop := s.1 = s'.1 ∧ ∀ j, j < n → s.2 j = s'.2 j
theorem lf_E {n : Nat} {f a a' : Nat → Nat} {s s' : Nat × (Nat → Nat)} (ha : ∀ j, j < n → a j = a' j) (hs : E2 n s s') : E2 n (lf n f a s) (lf n f a' s') := by
  unfold lf
  rw [vld_c ha, Hh_c ha, hs.1]
  split
  · exact ⟨rfl, ha⟩
  · exact hs
theorem lfs_scn {n : Nat} {f : Nat → Nat} : ∀ k m R a s s', m + k = n → E2 n s s' → (∀ j, j < m → ∀ r, r < 4 ^ ek n f k → dgt n f (R * 4 ^ ek n f k + r) j = a j) → E2 n (lfs n f (R * 4 ^ ek n f k) s (4 ^ ek n f k)) (scn n f k m a s')
  | 0, m, R, a, s, s', hk, hs, ha => by
    show E2 n (lf n f (dgt n f (R * 1 + 0)) s) (lf n f a s')
    exact lf_E (fun j hj => ha j (by omega) 0 (Nat.pow_pos (by decide))) hs
  | k + 1, m, R, a, s, s', hk, hs, ha => by
    have em : n - (k + 1) = m := by omega
    have em2 : n - 1 - m = k := by omega
    rw [scn]
    have eek : ek n f (k + 1) = ek n f k + (if f (5 * m) = 3 then 0 else 1) := by rw [ek, em]
    by_cases c : f (5 * m) = 3
    · have e : ek n f (k + 1) = ek n f k := by rw [eek, if_pos c, Nat.add_zero]
      rw [e] at ha ⊢
      rw [if_pos c]
      refine lfs_scn k (m + 1) R (up a m 4) s s' (by omega) hs (fun j hj r hr => ?_)
      by_cases cj : j = m
      · rw [cj, up_eq]; exact if_pos c
      · rw [up_ne cj]; exact ha j (by omega) r hr
    · have e : ek n f (k + 1) = ek n f k + 1 := by rw [eek, if_neg c]
      rw [e] at ha ⊢
      rw [if_neg c]
      have hB : 0 < 4 ^ ek n f k := Nat.pow_pos (by decide)
      have e4 : 4 ^ (ek n f k + 1) = 4 ^ ek n f k + 4 ^ ek n f k + 4 ^ ek n f k + 4 ^ ek n f k := by rw [Nat.pow_succ]; omega
      have step : ∀ t, t < 4 → ∀ u u', E2 n u u' → E2 n (lfs n f ((4 * R + t) * 4 ^ ek n f k) u (4 ^ ek n f k)) (scn n f k (m + 1) (up a m t) u') := by
        intro t ht u u' hu
        refine lfs_scn k (m + 1) (4 * R + t) (up a m t) u u' (by omega) hu (fun j hj r hr => ?_)
        by_cases cj : j = m
        · rw [cj, up_eq]
          unfold dgt
          rw [if_neg c, em2, Nat.mul_comm, Nat.mul_add_div hB, Nat.div_eq_of_lt hr]
          omega
        · rw [up_ne cj, ← ha j (by omega) (t * 4 ^ ek n f k + r) (by
            rw [e4]
            have : t * 4 ^ ek n f k ≤ 3 * 4 ^ ek n f k := Nat.mul_le_mul_right _ (by omega)
            omega)]
          congr 1
          rw [Nat.pow_succ, Nat.add_mul, Nat.add_assoc]
          congr 1
          rw [Nat.mul_comm (4 ^ ek n f k) 4, ← Nat.mul_assoc, Nat.mul_comm R 4]
      have e0 : R * 4 ^ (ek n f k + 1) = (4 * R + 0) * 4 ^ ek n f k := by rw [Nat.pow_succ, Nat.mul_comm (4 ^ ek n f k) 4, ← Nat.mul_assoc, Nat.mul_comm R 4]; rfl
      have e1 : ∀ t, (4 * R + t) * 4 ^ ek n f k + 4 ^ ek n f k = (4 * R + (t + 1)) * 4 ^ ek n f k := fun t => by
        show _ = ((4 * R + t) + 1) * _
        rw [Nat.add_mul (4 * R + t) 1, Nat.one_mul]
      rw [e0, e4, lfs_app, lfs_app, lfs_app, ← Nat.add_assoc, ← Nat.add_assoc, e1 0, e1 1, e1 2]
      exact step 3 (by decide) _ _ (step 2 (by decide) _ _ (step 1 (by decide) _ _ (step 0 (by decide) _ _ hs)))
/-- two beginnings that are both beyond all -/
theorem scn_two {n : Nat} {f : Nat → Nat} {i i' : Nat × (Nat → Nat)} (hi : ∀ a, Hh n f a < i.1 ∨ ¬ prp n f a) (hi' : ∀ a, Hh n f a < i'.1 ∨ ¬ prp n f a) : ∀ k m a s s', m + k = n → (∀ j, j < m → (f (5 * j) = 3 → a j = 4) ∧ (f (5 * j) ≠ 3 → a j < 4)) → (s = s' ∨ (s = i ∧ s' = i')) → (scn n f k m a s = scn n f k m a s' ∨ (scn n f k m a s = i ∧ scn n f k m a s' = i'))
  | 0, m, a, s, s', hk, hp, h => by
    rw [scn, scn]
    rcases h with h | ⟨h, h'⟩
    · rw [h]; exact Or.inl rfl
    · rw [h, h']
      have pp : prp n f a := fun j hj => hp j (by omega)
      have c1 : Hh n f a < i.1 := (hi a).elim id (fun z => absurd pp z)
      have c2 : Hh n f a < i'.1 := (hi' a).elim id (fun z => absurd pp z)
      unfold lf
      by_cases c : vld n f a = true
      · rw [if_pos ⟨c, c1⟩, if_pos ⟨c, c2⟩]; exact Or.inl rfl
      · rw [if_neg (fun z => c z.1), if_neg (fun z => c z.1)]; exact Or.inr ⟨rfl, rfl⟩
  | k + 1, m, a, s, s', hk, hp, h => by
    have hp' : ∀ t, ((f (5 * m) = 3 → t = 4) ∧ (f (5 * m) ≠ 3 → t < 4)) → ∀ j, j < m + 1 → (f (5 * j) = 3 → up a m t j = 4) ∧ (f (5 * j) ≠ 3 → up a m t j < 4) := fun t ht j hj => by
      by_cases c : j = m
      · rw [c, up_eq]; exact ht
      · rw [up_ne c]; exact hp j (by omega)
    rw [scn, scn]
    by_cases c : f (5 * m) = 3
    · rw [if_pos c, if_pos c]
      exact scn_two hi hi' k (m + 1) _ _ _ (by omega) (hp' 4 ⟨fun _ => rfl, fun z => absurd c z⟩) h
    · rw [if_neg c, if_neg c]
      have q : ∀ t, t < 4 → (f (5 * m) = 3 → t = 4) ∧ (f (5 * m) ≠ 3 → t < 4) := fun t ht => ⟨fun z => absurd z c, fun _ => ht⟩
      exact scn_two hi hi' k (m + 1) _ _ _ (by omega) (hp' 3 (q 3 (by decide))) (scn_two hi hi' k (m + 1) _ _ _ (by omega) (hp' 2 (q 2 (by decide))) (scn_two hi hi' k (m + 1) _ _ _ (by omega) (hp' 1 (q 1 (by decide))) (scn_two hi hi' k (m + 1) _ _ _ (by omega) (hp' 0 (q 0 (by decide))) h)))
theorem scn_w {n : Nat} {f : Nat → Nat} : ∀ k m a s, m + k = n → (∀ j, j < m → f (5 * j) = 3 → a j = 4) → (∀ j, j < n → f (5 * j) = 3 → s.2 j = 4) → ∀ j, j < n → f (5 * j) = 3 → (scn n f k m a s).2 j = 4
  | 0, m, a, s, hk, hp, hs => by
    rw [scn, lf]
    split
    · exact fun j hj c => hp j (by omega) c
    · exact hs
  | k + 1, m, a, s, hk, hp, hs => by
    rw [scn]
    by_cases c : f (5 * m) = 3
    · rw [if_pos c]
      refine scn_w k (m + 1) _ _ (by omega) (fun j hj cj => ?_) hs
      by_cases e : j = m
      · rw [e, up_eq]
      · rw [up_ne e]; exact hp j (by omega) cj
    · rw [if_neg c]
      have hp' : ∀ t j, j < m + 1 → f (5 * j) = 3 → up a m t j = 4 := fun t j hj cj => by
        have e : j ≠ m := fun e => c (by rw [← e]; exact cj)
        rw [up_ne e]; exact hp j (by omega) cj
      exact scn_w k (m + 1) _ _ (by omega) (hp' 3) (scn_w k (m + 1) _ _ (by omega) (hp' 2) (scn_w k (m + 1) _ _ (by omega) (hp' 1) (scn_w k (m + 1) _ _ (by omega) (hp' 0) hs)))
def rf (n : Nat) (f : Nat → Nat) : Nat → Nat × Nat
  | 0 => (1000000000, 0)
  | r + 1 => if vld n f (dgt n f r) = true ∧ Hh n f (dgt n f r) < (rf n f r).1 then (Hh n f (dgt n f r), r) else rf n f r
theorem rf_lfs (n : Nat) (f : Nat → Nat) : ∀ r, lfs n f 0 (1000000000, dgt n f 0) r = ((rf n f r).1, dgt n f (rf n f r).2)
  | 0 => rfl
  | r + 1 => by
    rw [lfs, rf_lfs n f r, rf, lf, Nat.zero_add]
    dsimp only
    split
    · rfl
    · rfl
theorem rf_le (n : Nat) (f : Nat → Nat) : ∀ r, (rf n f r).1 ≤ 1000000000 ∧ (rf n f r).2 ≤ r
  | 0 => ⟨Nat.le_refl _, Nat.le_refl _⟩
  | r + 1 => by
    obtain ⟨h1, h2⟩ := rf_le n f r
    rw [rf]
    split
    · rename_i c
      exact ⟨by dsimp only; omega, by dsimp only; omega⟩
    · exact ⟨h1, by omega⟩
theorem rf_bst {n : Nat} {f : Nat → Nat} (g : GD n f) (ft : FIT n f) : (rf n f (4 ^ ek n f n)).1 = (bst n f).1 ∧ ∀ j, j < n → dgt n f (rf n f (4 ^ ek n f n)).2 j = (bst n f).2 j := by
  have hn := g.1
  have h1 := lfs_scn (n := n) (f := f) n 0 0 (fun _ => 4) (1000000000, dgt n f 0) (1000000000, dgt n f 0) (by omega) ⟨rfl, fun _ _ => rfl⟩ (fun j hj => absurd hj (Nat.not_lt_zero j))
  rw [Nat.zero_mul, rf_lfs] at h1
  have big : ∀ z, 100000 ≤ z → ∀ a, Hh n f a < z ∨ ¬ prp n f a := fun z hz a => by
    by_cases c : prp n f a
    · left
      rw [H_sum g c]
      have := hsm_lt g (otA n f a)
      omega
    · exact Or.inr c
  have h2 := scn_two (n := n) (f := f) (i := (1000000000, dgt n f 0)) (i' := (1000000, fun _ => 4)) (big _ (show 100000 ≤ 1000000000 by decide)) (big _ (show 100000 ≤ 1000000 by decide)) n 0 (fun _ => 4) _ _ (by omega) (fun j hj => absurd hj (Nat.not_lt_zero j)) (Or.inr ⟨rfl, rfl⟩)
  have pc : prp n f (fun m => f (5 * m + 3)) := fun m hm => by
    obtain ⟨a1, a2, a3, a4, a5, a6⟩ := g.2.1 m hm
    refine ⟨fun c => a5.mp c, fun c => ?_⟩
    show f (5 * m + 3) < 4
    have : ¬ f (5 * m + 3) = 4 := fun z => c (a5.mpr z)
    omega
  have vc : vld n f (fun m => f (5 * m + 3)) = true := (vb_iff n f _ 4).mpr (fun t ht => by
    have := ft t ht
    rw [sz_sm hn] at this
    exact this)
  have h3 := scn_le (n := n) (f := f) n 0 (fun _ => 4) (1000000, fun _ => 4) (by omega) (fun m => f (5 * m + 3)) ⟨fun j hj => absurd hj (Nat.not_lt_zero j), pc⟩ vc
  have h4 : Hh n f (fun m => f (5 * m + 3)) < 100000 := by
    rw [H_sum g pc]
    exact hsm_lt g _
  rcases h2 with h2 | ⟨_, h2⟩
  · unfold bst
    rw [← h2]
    exact h1
  · rw [h2] at h3
    dsimp only at h3
    omega
theorem bst_lt {n : Nat} {f : Nat → Nat} (g : GD n f) (ft : FIT n f) : (bst n f).1 < 100000 := by
  have hn := g.1
  have pc : prp n f (fun m => f (5 * m + 3)) := fun m hm => by
    obtain ⟨a1, a2, a3, a4, a5, a6⟩ := g.2.1 m hm
    refine ⟨fun c => a5.mp c, fun c => ?_⟩
    show f (5 * m + 3) < 4
    have : ¬ f (5 * m + 3) = 4 := fun z => c (a5.mpr z)
    omega
  have vc : vld n f (fun m => f (5 * m + 3)) = true := (vb_iff n f _ 4).mpr (fun t ht => by
    have := ft t ht
    rw [sz_sm hn] at this
    exact this)
  have h3 := scn_le (n := n) (f := f) n 0 (fun _ => 4) (1000000, fun _ => 4) (by omega) (fun m => f (5 * m + 3)) ⟨fun j hj => absurd hj (Nat.not_lt_zero j), pc⟩ vc
  have h4 : Hh n f (fun m => f (5 * m + 3)) < 100000 := by
    rw [H_sum g pc]
    exact hsm_lt g _
  exact Nat.lt_of_le_of_lt h3 h4
def a_best (n : Nat) (f : Nat → Nat) (w : Int32) : Int32 := if w = 0 then nI (bst n f).1 else if isM n (w - 10) = true then tv ((bst n f).2 (ix (w - 10))) else -1
theorem neg10 {n : Nat} (hn : n ≤ 8) {w : Int32} (h : w < 0) : isM n (w - 10) = false := by
  have e := Int32.toInt_sub w 10
  rw [show (10 : Int32).toInt = 10 by decide, Int.bmod_def] at e
  have r2 := Int32.le_toInt w
  have h0 := Int32.lt_iff_toInt_lt.mp h
  rw [show (0 : Int32).toInt = 0 by decide] at h0
  simp only [isM, Bool.and_eq_false_iff, decide_eq_false_iff_not]
  generalize (w - 10).toInt = X at *
  generalize w.toInt = Y at *
  split at e <;> omega
section BEST
variable {scr : List Int32} {d : Nat} {h : ev_H} {n : Nat} {f : Nat → Nat} {x q im : Nat → Int32}
theorem c_searchP (hP : PUT h) (hT : TA h 1 n f) (g : GD n f) (hd : 20 ≤ d) : ev_X scr d cd_X1_search 0 [.ref 25, .ref 1, .float 0] [] h (fun v h' => v = none ∧ TI h' n f (fun _ => 4) 0 (bst n f) ∧ FR 25 29 h h') := by
  have hn := g.1
  obtain ⟨⟨y, a0, hO⟩, l1, l2, l3, l4⟩ := hP
  refine ex_go 80 rfl ?_
  refine ex_pr2 rfl hO rfl rfl (fun h1 hO1 hB1 => ?_)
  refine ex_go 80 rfl ?_
  refine ex_pf rfl hO1 rfl rfl (fun h2 hO2 hB2 => ?_)
  have hBB := hB1.tr hB2
  have hO2' : PO h2 1000000 := hO2
  have l3' := l3.sb hBB (by decide)
  have l4' := l4.sb hBB (by decide)
  refine ex_go 80 rfl ?_
  refine ev_loop 4 (fun t => ∀ h3, IA h3 28 4 (fun j => j < t ∧ True) (fun _ => 0) → IA h3 29 4 (fun j => j < t ∧ True) (fun _ => 0) → FR 28 29 h2 h3 → ev_X scr d cd_X1_search 8 [.ref 25, .ref 1, .int (nI t)] [] h3 _) (fun t ht K h3 hZ3 hG3 hF3 => ?_) (fun h3 hZ3 hG3 hF3 => ?_) h2 l3'.none l4'.none FR.rf
  · have hO3 := (hF3.2 25 (by decide)).trans hO2'
    refine ex_nop rfl ?_
    refine ex_go 80 rfl ?_
    refine ex_igeF rfl (nI_ge ht (by decide)) ?_
    refine ex_go 80 rfl ?_
    refine ex_getf rfl hO3 rfl rfl ?_
    refine ex_go 80 rfl ?_
    refine ex_is _ rfl hZ3 rfl (by omega) (by omega) (fun h4 hA4 hB4 => ?_)
    have hO4 := (hB4.2 25 (by decide)).trans hO3
    have hG4 := hG3.sb hB4 (by decide)
    refine ex_go 80 rfl ?_
    refine ex_getf rfl hO4 rfl rfl ?_
    refine ex_go 80 rfl ?_
    refine ex_is _ rfl hG4 rfl (by omega) (by omega) (fun h5 hA5 hB5 => ?_)
    refine ex_go 80 rfl ?_
    try dsimp only
    try simp only [nI_inc, nI_1, nI_add, nI_mul2, tb_and, tb_or, tb_andn]
    exact K h5 ((hA4.grow (fun _ => rfl)).sb hB5 (by decide)) (hA5.grow (fun _ => rfl)) ((hF3.tr (hB4.fr (by decide) (by decide))).tr (hB5.fr (by decide) (by decide)))
  · have hO3 := (hF3.2 25 (by decide)).trans hO2'
    have hF : FR 25 29 h h3 := (hBB.fr (by decide) (by decide)).tr (hF3.wide (by decide) (by decide))
    have hI3 : TI h3 n f (fun _ => 4) 0 (1000000, fun _ => 4) := ⟨hO3, hT.same (fun j _ _ => hF.2 j (by omega)), ((l1.sb hBB (by decide)).fr hF3 (by decide)).congr (fun j _ hp => absurd hp.2 (by decide)), ((l2.sb hBB (by decide)).fr hF3 (by decide)).congr (fun j _ hp => absurd hp (Nat.not_lt_zero j)), hZ3.full.congr (fun j _ hp => ⟨hp, rfl⟩), hG3.full.congr (fun j _ hp => ⟨hp, rfl⟩)⟩
    refine ex_nop rfl ?_
    refine ex_go 80 rfl ?_
    refine ex_igeT rfl (nI_le (Nat.le_refl 4) (by decide)) ?_
    refine ex_go 80 rfl ?_
    refine ex_cvx rfl rfl rfl rfl hO3 rfl (d' := 15) (by omega) (c_seatFrom g n 0 (fun _ => 4) (1000000, fun _ => 4) h3 15 (by omega) (by omega) (fun j hj => absurd hj (Nat.not_lt_zero j)) (fun t _ => Nat.zero_le _) hI3 (Nat.lt_of_lt_of_le (hsm_lt g _) (by decide)) (Nat.le_refl _)) ?_
    rintro v h4 ⟨rfl, hI4, hF4⟩
    exact ex_vret rfl ⟨rfl, hI4, hF.tr hF4⟩
theorem k_best (hC : CO h x) (hT : TA h 1 n f) (hP : PUT h) (g : GD n f) (ft : FIT n f) {w : Int32} (hd : 30 ≤ d) : ev_X scr d cd_X5_best 0 [.ref 0, .int w, .float 0] [] h (fun v h' => v = some (.int (a_best n f w)) ∧ PUT h' ∧ FR 25 29 h h') := by
  have hn := g.1
  have bl := bst_lt g ft
  obtain ⟨⟨y, a0, hO⟩, -⟩ := id hP
  have fin : (w = 0 ∨ isM n (w - 10) = true) → ev_X scr d cd_X5_best 29 [.ref 0, .int w, .int (if w = 0 then 0 else w - 10)] [] h (fun v h' => v = some (.int (if w = 0 then nI (bst n f).1 else tv ((bst n f).2 (ix (w - 10))))) ∧ PUT h' ∧ FR 25 29 h h') := by
    intro hw
    refine ex_go 80 rfl ?_
    refine ex_getf rfl hC rfl rfl ?_
    refine ex_go 80 rfl ?_
    refine ex_getf rfl hC rfl rfl ?_
    refine ex_cvx rfl rfl rfl rfl hO rfl (d' := 20) (by omega) (c_searchP hP hT g (Nat.le_refl _)) ?_
    rintro v1 h1 ⟨rfl, hI1, hF1⟩
    obtain ⟨hO1, hT1, hS1, hY1, hZ1, hG1⟩ := id hI1
    have hC1 := (hF1.2 0 (by decide)).trans hC
    have hP1 : PUT h1 := ⟨⟨_, _, hO1⟩, hS1.la, hY1.la, hZ1.la, hG1.la⟩
    by_cases c : w = 0
    · rw [if_pos c, if_pos c]
      refine ex_go 80 rfl ?_
      refine ex_zneF rfl (c) ?_
      refine ex_go 80 rfl ?_
      refine ex_getf rfl hC1 rfl rfl ?_
      refine ex_getf rfl hO1 rfl rfl ?_
      refine ex_go 80 rfl ?_
      exact ex_iret rfl (⟨rfl, hP1, hF1⟩)
    · rw [if_neg c, if_neg c]
      obtain ⟨i, hi, ei⟩ := isM_of (hw.elim (fun z => absurd z c) id) (by omega)
      rw [ei, ix_nI (by omega)]
      have hsi : i < n ∧ (bst n f).1 < 1000000 := ⟨hi, by omega⟩
      refine ex_go 80 rfl ?_
      refine ex_zneT rfl (c) ?_
      refine ex_go 80 rfl ?_
      refine ex_getf rfl hC1 rfl rfl ?_
      refine ex_getf rfl hO1 rfl rfl ?_
      refine ex_go 80 rfl ?_
      refine ex_ia _ rfl hS1 rfl (by first | exact trivial | assumption | (show _ < _; omega)) (by omega) (by omega) rfl ?_
      exact ex_iret rfl (⟨rfl, hP1, hF1⟩)
  unfold a_best
  refine ex_go 80 rfl ?_
  refine ex_zneM 3 2 7 (v := if w = 0 then 0 else w - 10) rfl rfl rfl (by by_cases c : w = 0 <;> simp [c]) ?_
  refine ex_go 80 rfl ?_
  refine ex_zlt rfl (fun k1 => ?_) (fun k1 => ?_)
  · have c : ¬ w = 0 := fun z => by rw [z] at k1; exact absurd k1 (by decide)
    rw [if_neg c, if_neg c, neg10 hn k1]
    refine ex_go 80 rfl ?_
    exact ex_iret rfl (⟨rfl, hP, FR.rf⟩)
  · refine ex_go 80 rfl ?_
    refine ex_zeq rfl (fun k2 => ?_) (fun k2 => ?_)
    · have hf := fin (Or.inl k2)
      rw [if_pos k2] at hf ⊢
      refine ex_go 80 rfl ?_
      refine ex_zeqT rfl (k2) ?_
      rw [if_pos k2] at hf ⊢
      exact hf
    · skip
      rw [if_neg k2, if_neg k2]
      refine ex_go 80 rfl ?_
      refine ex_getf rfl hC rfl rfl ?_
      refine ex_go 80 rfl ?_
      refine ex_cv rfl rfl rfl rfl hT.1 rfl (d' := 0) (by omega) (c_hasMan hT hn) ?_
      cases hm : isM n (w - 10)
      · refine ex_zneF rfl (by decide) ?_
        refine ex_go 80 rfl ?_
        exact ex_iret rfl (⟨rfl, hP, FR.rf⟩)
      · have hf := fin (Or.inr hm)
        rw [if_neg k2, if_neg k2] at hf
        rw [if_pos rfl]
        obtain ⟨i, hi, ei⟩ := isM_of hm (by omega)
        rw [ei, ix_nI (by omega)] at hf ⊢
        refine ex_zneT rfl (by decide) ?_
        refine ex_go 80 rfl ?_
        refine ex_zeqF rfl (k2) ?_
        refine ex_go 80 rfl ?_
        refine ex_getf rfl hC rfl rfl ?_
        refine ex_getf rfl hT.1 rfl rfl ?_
        refine ex_go 80 rfl ?_
        refine ex_ia _ rfl hT.2.2.2.2.1 rfl (by first | exact trivial | assumption | (show _ < _; omega)) (by omega) (by omega) rfl ?_
        refine ex_zge rfl (fun k3 => ?_) (fun k3 => ?_)
        · exact hf
        · have h4 := (tv_neg _).mp (Int32.not_le.mp k3)
          obtain ⟨a1, a2, a3, a4, a5, a6⟩ := g.2.1 i hi
          have e4 : (bst n f).2 i = 4 := scn_w n 0 (fun _ => 4) (1000000, fun _ => 4) (by omega) (fun j hj => absurd hj (Nat.not_lt_zero j)) (fun _ _ _ => rfl) i hi (a5.mpr (by omega))
          rw [e4]
          refine ex_go 80 rfl ?_
          exact ex_iret rfl (⟨rfl, hP, FR.rf⟩)
end BEST
