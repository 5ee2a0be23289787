/-! Each call, one side and the other, over all that there is. -/
def FIT (n : Nat) (f : Nat → Nat) : Prop := ∀ t, t < 4 → sz n f t ≤ f (60 + t)
def KT (n : Nat) (f f' : Nat → Nat) : Prop := (∀ m, m < n → f' (5 * m + 3) = f (5 * m + 3)) ∧ ∀ t, t < 4 → f' (60 + t) = f (60 + t)
theorem KT.rf {n : Nat} {f : Nat → Nat} : KT n f f := ⟨fun _ _ => rfl, fun _ _ => rfl⟩
theorem KT.fit {n : Nat} {f f' : Nat → Nat} (k : KT n f f') (x : FIT n f) : FIT n f' := fun t ht => by
  have e : sz n f' t = sz n f t := by
    unfold sz
    rw [bs_cong (fun i hi => by rw [k.1 i hi])]
  rw [e, k.2 t ht]
  exact x t ht
theorem sz_sm {n : Nat} (hn : n ≤ 8) (f : Nat → Nat) (t : Nat) : sz n f t = sm (fun m => tb_b (decide (f (5 * m + 3) = t))) n := pc8_bs _ hn
theorem sz_one {n : Nat} (hn : n ≤ 8) {f f' : Nat → Nat} {i : Nat} (hi : i < n) (ho : ∀ m, m < n → m ≠ i → f' (5 * m + 3) = f (5 * m + 3)) (t : Nat) : sz n f' t + tb_b (decide (f (5 * i + 3) = t)) = sz n f t + tb_b (decide (f' (5 * i + 3) = t)) := by
  rw [sz_sm hn, sz_sm hn]
  exact sm_one (g := fun m => tb_b (decide (f' (5 * m + 3) = t))) (g' := fun m => tb_b (decide (f (5 * m + 3) = t))) hi (fun j hj hji => by rw [ho j hj hji])
theorem seF_hi {f : Nat → Nat} {i t k : Nat} (hk : k ≠ 5 * i) (hk2 : k ≠ 5 * i + 3) : seF f i t k = f k := by
  unfold seF
  split
  · rw [up_ne hk, up_ne hk2]
  · rw [up_ne hk2]
theorem seF_t {f : Nat → Nat} {i t : Nat} : seF f i t (5 * i + 3) = t := by
  unfold seF
  split
  · rw [up_ne (by omega), up_eq]
  · rw [up_eq]
theorem mo_move {n : Nat} {f : Nat → Nat} (g : GD n f) (m t : Int32) : ∀ k, k < 4 → s_move n f m t (60 + k) = f (60 + k) := fun k _ => s_move_60 g m t (by omega)
theorem fit_move {n : Nat} {f : Nat → Nat} (g : GD n f) (x : FIT n f) (m t : Int32) : FIT n (s_move n f m t) := by
  have hn := g.1
  cases hb : mvok n f m t
  · rw [s_move_f hb]; exact x
  · obtain ⟨i, j, hi, hj, rfl, rfl, hw⟩ := mvok_t hn hb
    have e : s_move n f (nI i) (nI j) = seF f i j := by
      unfold s_move
      rw [isM_nI hi (by omega), isM_nI hj (by omega), ix_nI (by omega), ix_nI (by omega), Bool.true_and, if_pos rfl, if_pos hw]
    rw [e]
    intro u hu
    have h1 := sz_one hn (f := f) (f' := seF f i j) hi (fun k hk hki => seF_hi (by omega) (by omega)) u
    rw [seF_t] at h1
    rw [seF_hi (by omega) (by omega)]
    have hx := x u hu
    by_cases c : j = u
    · rw [decide_eq_true c] at h1
      by_cases c2 : f (5 * i + 3) = u
      · rw [decide_eq_true c2] at h1
        omega
      · rw [decide_eq_false c2] at h1
        have hlt : ¬ f (60 + u) ≤ sz n f u := fun c3 => by
          rw [← c] at c2 c3
          have : wns n f i j = -3 := if_pos ⟨c2, c3⟩
          rw [this] at hw
          exact absurd hw (by decide)
        have : tb_b true = 1 := rfl
        have : tb_b false = 0 := rfl
        omega
    · rw [decide_eq_false c] at h1
      have : tb_b false = 0 := rfl
      omega
theorem gvF_u {f : Nat → Nat} {i k : Nat} (h1 : k ≠ 40) (h2 : k ≠ 5 * i) (h3 : k ≠ 5 * i + 3) : gvF f i k = f k := by
  unfold gvF
  rw [up_ne h1, up_ne h2, up_ne h3]
theorem mo_leave {n : Nat} {f : Nat → Nat} (g : GD n f) (m : Int32) : ∀ k, k < 4 → s_leave n f m (60 + k) = f (60 + k) := fun k hk => by
  have hn := g.1
  unfold s_leave
  by_cases c : rit n f m = 0
  · rw [if_pos c]
    obtain ⟨i, hi, rfl, ht, e⟩ := rit_0 hn c
    rw [e, gvF_u (by omega) (by omega) (by omega)]
  · rw [if_neg c]
theorem fit_leave {n : Nat} {f : Nat → Nat} (g : GD n f) (x : FIT n f) (m : Int32) : FIT n (s_leave n f m) := by
  have hn := g.1
  unfold s_leave
  by_cases c : rit n f m = 0
  · rw [if_pos c]
    obtain ⟨i, hi, rfl, ht, e⟩ := rit_0 hn c
    rw [e]
    intro u hu
    have h1 := sz_one hn (f := f) (f' := gvF f i) hi (fun k hk hki => gvF_u (by omega) (by omega) (by omega)) u
    have e4 : gvF f i (5 * i + 3) = 4 := by
      unfold gvF
      rw [up_ne (by omega), up_ne (by omega), up_eq]
    rw [e4, decide_eq_false (p := 4 = u) (by omega)] at h1
    rw [gvF_u (by omega) (by omega) (by omega)]
    have hx := x u hu
    have : tb_b false = 0 := rfl
    omega
  · rw [if_neg c]; exact x
theorem mo_swap {n : Nat} {f : Nat → Nat} (g : GD n f) (m k : Int32) : ∀ t, t < 4 → s_swap n f m k (60 + t) = f (60 + t) := fun t ht => by
  have hn := g.1
  unfold s_swap
  by_cases c : prm n m k = true
  · rw [if_pos c]
    obtain ⟨i, j, hi, hj, hij, rfl, rfl, ei, ej⟩ := prm_of hn c
    rw [ei, ej]
    split
    · unfold exF
      rw [up_ne (by omega), up_ne (by omega)]
    · rfl
  · rw [if_neg c]
theorem fit_swap {n : Nat} {f : Nat → Nat} (g : GD n f) (x : FIT n f) (m k : Int32) : FIT n (s_swap n f m k) := by
  have hn := g.1
  unfold s_swap
  by_cases c : prm n m k = true
  · rw [if_pos c]
    obtain ⟨i, j, hi, hj, hij, rfl, rfl, ei, ej⟩ := prm_of hn c
    rw [ei, ej]
    split
    · intro u hu
      have h1 := sz_one hn (f := f) (f' := up f (5 * i + 3) (f (5 * j + 3))) hi (fun k hk hki => up_ne (by omega)) u
      have h2 := sz_one hn (f := up f (5 * i + 3) (f (5 * j + 3))) (f' := exF f i j) hj (fun k hk hki => by unfold exF; rw [up_ne (by omega)]) u
      rw [up_eq] at h1
      have e1 : up f (5 * i + 3) (f (5 * j + 3)) (5 * j + 3) = f (5 * j + 3) := up_ne (by omega)
      have e2 : exF f i j (5 * j + 3) = f (5 * i + 3) := by unfold exF; rw [up_eq]
      have e3 : exF f i j (60 + u) = f (60 + u) := by unfold exF; rw [up_ne (by omega), up_ne (by omega)]
      rw [e1, e2] at h2
      rw [e3]
      have hx := x u hu
      omega
    · exact x
  · rw [if_neg c]; exact x
theorem kt_watch {n : Nat} {f : Nat → Nat} (g : GD n f) (m : Int32) (b : Bool) : KT n f (s_watch n f m b) := by
  have hn := g.1
  unfold s_watch
  split
  · exact ⟨fun k hk => up_ne (by omega), fun t ht => up_ne (by omega)⟩
  · exact KT.rf
theorem kt_kin {n : Nat} {f : Nat → Nat} (g : GD n f) (m k : Int32) (b : Bool) : KT n f (s_kin n f m k b) := by
  have hn := g.1
  unfold s_kin
  by_cases c : prm n m k = true
  · rw [if_pos c]
    obtain ⟨i, j, hi, hj, hij, rfl, rfl, ei, ej⟩ := prm_of hn c
    rw [ei, ej]
    unfold kiF
    exact ⟨fun k hk => by rw [up_ne (by omega), up_ne (by omega)], fun t ht => by rw [up_ne (by omega), up_ne (by omega)]⟩
  · rw [if_neg c]; exact KT.rf
theorem kt_odd {n : Nat} {f : Nat → Nat} (g : GD n f) (m v : Int32) : KT n f (s_odd n f m v) := by
  have hn := g.1
  unfold s_odd
  by_cases c : (isM n m && isM 10 v) = true
  · rw [if_pos c]
    rw [Bool.and_eq_true] at c
    obtain ⟨i, hi, rfl⟩ := isM_of c.1 (by omega)
    rw [ix_nI (by omega)]
    split
    · exact KT.rf
    · exact ⟨fun k hk => up_ne (by omega), fun t ht => up_ne (by omega)⟩
  · rw [if_neg c]; exact KT.rf
theorem kt_goods {n : Nat} {f : Nat → Nat} (g : GD n f) (m v : Int32) : KT n f (s_goods n f m v) := by
  have hn := g.1
  unfold s_goods
  by_cases c : (isM n m && isM 100 v) = true
  · rw [if_pos c]
    rw [Bool.and_eq_true] at c
    obtain ⟨i, hi, rfl⟩ := isM_of c.1 (by omega)
    rw [ix_nI (by omega)]
    exact ⟨fun k hk => up_ne (by omega), fun t ht => up_ne (by omega)⟩
  · rw [if_neg c]; exact KT.rf
theorem kt_law {n : Nat} {f : Nat → Nat} (g : GD n f) (w v : Int32) : KT n f (s_law f w v) := by
  have hn := g.1
  unfold s_law
  split
  · exact ⟨fun k hk => up_ne (by omega), fun t ht => up_ne (by omega)⟩
  · split
    · exact ⟨fun k hk => up_ne (by omega), fun t ht => up_ne (by omega)⟩
    · exact KT.rf
theorem kt_year {n : Nat} {f : Nat → Nat} (g : GD n f) (w : Int32) : KT n f (s_year n f w) := by
  have hn := g.1
  unfold s_year
  split
  · split
    · exact KT.rf
    · exact ⟨fun k hk => by rw [wg_ne (by omega), up_ne (by omega)], fun t ht => by rw [wg_ne (by omega), up_ne (by omega)]⟩
  · exact KT.rf
theorem kt_see {n : Nat} {f : Nat → Nat} (g : GD n f) (m v : Int32) : KT n f (s_see n f m v) := by
  have hn := g.1
  have h44 := g.2.2.2.2.2.2.2.1
  unfold s_see
  split
  · split
    · exact KT.rf
    · rename_i c
      unfold seeF
      exact ⟨fun k hk => by rw [up_ne (by omega), up_ne (by omega), up_ne (by omega)], fun t ht => by rw [up_ne (by omega), up_ne (by omega), up_ne (by omega)]⟩
  · exact KT.rf
theorem kt_forget {n : Nat} {f : Nat → Nat} (g : GD n f) (v : Int32) : KT n f (s_forget f v) := by
  have hn := g.1
  unfold s_forget
  split
  · exact ⟨fun k hk => up_ne (by omega), fun t ht => up_ne (by omega)⟩
  · exact KT.rf
def WLD (h : ev_H) : Prop := ∃ (n : Nat) (f : Nat → Nat) (x q im : Nat → Int32) (kp : Nat → Bool) (fk : Nat → Nat → Nat) (tl : Nat) (tp : Nat → Nat) (sv : Nat → Bool) (sl ss : Nat → Nat) (sc : Nat → Nat → Int32), WC h n f x kp fk tl tp sv sl ss sc ∧ WR h n f q im kp fk tl tp sv sl ss sc ∧ PU n f x q kp fk tl tp sl ss ∧ FIT n f ∧ (∀ k, k < 2 → kp k = true → FIT n (fk k)) ∧ h.length = 71
def TW (scr : List Int32) (h : ev_H) (cdc : List ev_I) (lc : List Value) (cdm : List ev_I) (lm : List Value) (a : Value) : Prop := ∃ h1 h2, ev_V scr 50 cdc 0 lc [] h (some a, h1) ∧ (∃ vs, h1[57]? = some (.inr (6, vs))) ∧ ev_V scr 50 cdm 0 lm [] h1 (some a, h2) ∧ WLD h2
section CALLS2
variable {scr : List Int32} {h : ev_H} {n : Nat} {f f' : Nat → Nat} {x q im : Nat → Int32} {kp : Nat → Bool} {fk : Nat → Nat → Nat} {tl : Nat} {tp : Nat → Nat} {sv : Nat → Bool} {sl ss : Nat → Nat} {sc : Nat → Nat → Int32} {cdc cdm : List ev_I} {lc lm : List Value} {a : Value}
theorem tw_town (w : WC h n f x kp fk tl tp sv sl ss sc) (r : WR h n f q im kp fk tl tp sv sl ss sc) (p : PU n f x q kp fk tl tp sl ss) (fk2 : ∀ k, k < 2 → kp k = true → FIT n (fk k)) (len : h.length = 71) (C : ev_X scr 50 cdc 0 lc [] h (CQ h n f' a)) (R : ∀ h1, WR h1 n f q im kp fk tl tp sv sl ss sc → ev_X scr 50 cdm 0 lm [] h1 (RQ h1 f' im a)) (g' : GD n f') (hm : ∀ t, t < 4 → f' (60 + t) = f (60 + t)) (fit : FIT n f') : TW scr h cdc lc cdm lm a := by
  obtain ⟨v1, h1, e1, rfl, hT1, hL1, hF1⟩ := C
  have w1 := w.town hF1 hT1 hL1
  have r1 := r.same (h' := h1) (fun j hj => hF1.2 j (by omega))
  obtain ⟨v2, h2, e2, rfl, hS2, hR2, hY2⟩ := R h1 r1
  have r2 := r1.st hY2 hS2 hR2 hm
  have w2 := w1.same (h' := h2) (fun j hj => hY2.2 j (by omega) (by omega) (by omega) (by omega))
  obtain ⟨p1, p2, p3, p4⟩ := p
  exact ⟨h1, h2, e1, ⟨_, r1.1.1⟩, e2, n, f', x, q, im, kp, fk, tl, tp, sv, sl, ss, sc, w2, r2, ⟨g', p2, fun k hk hkp => ⟨(p3 k hk hkp).1, fun t ht => ((p3 k hk hkp).2 t ht).trans (hm t ht).symm⟩, p4⟩, fit, fk2, (hY2.1.trans hF1.1).trans len⟩
theorem t_rule (W : WLD h) (w : Int32) : ∃ a, TW scr h cd_X5_rule [.ref 0, .int w] cd_X6_rule [.ref 57, .int w, .float 0, .float 0] (.int a) := by
  obtain ⟨n, f, x, q, im, kp, fk, tl, tp, sv, sl, ss, sc, w1, r1, p, ft, fk2, len⟩ := W
  exact ⟨_, tw_town w1 r1 p fk2 len (k_rule w1.1.1 w1.2.1 w1.2.2.1 p.1 (by decide)) (fun h1 r2 => r_rule r2.1.1 r2.2.1 r2.2.2.1 p.1 (by decide)) (p.1) (fun _ _ => rfl) (ft)⟩
theorem t_man (W : WLD h) (m w : Int32) : ∃ a, TW scr h cd_X5_man [.ref 0, .int m, .int w] cd_X6_man [.ref 57, .int m, .int w] (.int a) := by
  obtain ⟨n, f, x, q, im, kp, fk, tl, tp, sv, sl, ss, sc, w1, r1, p, ft, fk2, len⟩ := W
  exact ⟨_, tw_town w1 r1 p fk2 len (k_man w1.1.1 w1.2.1 w1.2.2.1 p.1 (by decide)) (fun h1 r2 => r_man r2.1.1 r2.2.1 r2.2.2.1 p.1 (by decide)) (p.1) (fun _ _ => rfl) (ft)⟩
theorem t_ten (W : WLD h) (t w : Int32) : ∃ a, TW scr h cd_X5_ten [.ref 0, .int t, .int w] cd_X6_ten [.ref 57, .int t, .int w] (.int a) := by
  obtain ⟨n, f, x, q, im, kp, fk, tl, tp, sv, sl, ss, sc, w1, r1, p, ft, fk2, len⟩ := W
  exact ⟨_, tw_town w1 r1 p fk2 len (k_ten w1.1.1 w1.2.1 w1.2.2.1 p.1 (by decide)) (fun h1 r2 => r_ten r2.1.1 r2.2.1 r2.2.2.1 r2.2.2.2.1 p.1 (by decide)) (p.1) (fun _ _ => rfl) (ft)⟩
theorem t_move (W : WLD h) (m t : Int32) : ∃ a, TW scr h cd_X5_move [.ref 0, .int m, .int t, .float 0] cd_X6_move [.ref 57, .int m, .int t, .float 0] (.int a) := by
  obtain ⟨n, f, x, q, im, kp, fk, tl, tp, sv, sl, ss, sc, w1, r1, p, ft, fk2, len⟩ := W
  exact ⟨_, tw_town w1 r1 p fk2 len (k_move w1.1.1 w1.2.1 w1.2.2.1 p.1 (by decide)) (fun h1 r2 => c_moveR r2.1.1 r2.2.1 r2.2.2.1 r2.2.2.2.1 p.1 (by decide)) (gd_move p.1 m t) (mo_move p.1 m t) (fit_move p.1 ft m t)⟩
theorem t_leave (W : WLD h) (m : Int32) : ∃ a, TW scr h cd_X5_leave [.ref 0, .int m, .float 0, .float 0] cd_X6_leave [.ref 57, .int m] (.int a) := by
  obtain ⟨n, f, x, q, im, kp, fk, tl, tp, sv, sl, ss, sc, w1, r1, p, ft, fk2, len⟩ := W
  exact ⟨_, tw_town w1 r1 p fk2 len (k_leave w1.1.1 w1.2.1 w1.2.2.1 p.1 (by decide)) (fun h1 r2 => r_leave r2.1.1 r2.2.1 r2.2.2.1 p.1 (by decide)) (gd_leave p.1 m) (mo_leave p.1 m) (fit_leave p.1 ft m)⟩
theorem t_swap (W : WLD h) (m k : Int32) : ∃ a, TW scr h cd_X5_swap [.ref 0, .int m, .int k] cd_X6_swap [.ref 57, .int m, .int k, .float 0, .float 0] (.int a) := by
  obtain ⟨n, f, x, q, im, kp, fk, tl, tp, sv, sl, ss, sc, w1, r1, p, ft, fk2, len⟩ := W
  exact ⟨_, tw_town w1 r1 p fk2 len (k_swap w1.1.1 w1.2.1 w1.2.2.1 p.1 (by decide)) (fun h1 r2 => r_swap r2.1.1 r2.2.1 r2.2.2.1 p.1 (by decide)) (gd_swap p.1 m k) (mo_swap p.1 m k) (fit_swap p.1 ft m k)⟩
theorem t_watch (W : WLD h) (m : Int32) (b : Bool) : ∃ a, TW scr h cd_X5_watch [.ref 0, .int m, .int (nI (tb_b b)), .float 0, .float 0] cd_X6_watch [.ref 57, .int m, .int (nI (tb_b b))] (.int a) := by
  obtain ⟨n, f, x, q, im, kp, fk, tl, tp, sv, sl, ss, sc, w1, r1, p, ft, fk2, len⟩ := W
  exact ⟨_, tw_town w1 r1 p fk2 len (k_watch w1.1.1 w1.2.1 w1.2.2.1 p.1 b (by decide)) (fun h1 r2 => r_watch r2.1.1 r2.2.1 r2.2.2.1 p.1 b (by decide)) (gd_watch p.1 m b) ((kt_watch p.1 m b).2) ((kt_watch p.1 m b).fit ft)⟩
theorem t_kin (W : WLD h) (m k : Int32) (b : Bool) : ∃ a, TW scr h cd_X5_kin [.ref 0, .int m, .int k, .int (nI (tb_b b)), .float 0] cd_X6_kin [.ref 57, .int m, .int k, .int (nI (tb_b b))] (.int a) := by
  obtain ⟨n, f, x, q, im, kp, fk, tl, tp, sv, sl, ss, sc, w1, r1, p, ft, fk2, len⟩ := W
  exact ⟨_, tw_town w1 r1 p fk2 len (k_kin w1.1.1 w1.2.1 w1.2.2.1 p.1 b (by decide)) (fun h1 r2 => r_kin r2.1.1 r2.2.1 r2.2.2.1 p.1 b (by decide)) (gd_kin p.1 m k b) ((kt_kin p.1 m k b).2) ((kt_kin p.1 m k b).fit ft)⟩
theorem t_odd (W : WLD h) (m v : Int32) : ∃ a, TW scr h cd_X5_odd [.ref 0, .int m, .int v, .float 0] cd_X6_odd [.ref 57, .int m, .int v] (.int a) := by
  obtain ⟨n, f, x, q, im, kp, fk, tl, tp, sv, sl, ss, sc, w1, r1, p, ft, fk2, len⟩ := W
  exact ⟨_, tw_town w1 r1 p fk2 len (k_odd w1.1.1 w1.2.1 w1.2.2.1 p.1 (by decide)) (fun h1 r2 => r_odd r2.1.1 r2.2.1 r2.2.2.1 p.1 (by decide)) (gd_odd p.1 m v) ((kt_odd p.1 m v).2) ((kt_odd p.1 m v).fit ft)⟩
theorem t_law (W : WLD h) (w v : Int32) : ∃ a, TW scr h cd_X5_law [.ref 0, .int w, .int v, .float 0] cd_X6_law [.ref 57, .int w, .int v] (.int a) := by
  obtain ⟨n, f, x, q, im, kp, fk, tl, tp, sv, sl, ss, sc, w1, r1, p, ft, fk2, len⟩ := W
  exact ⟨_, tw_town w1 r1 p fk2 len (k_law w1.1.1 w1.2.1 w1.2.2.1 p.1 (by decide)) (fun h1 r2 => r_law r2.1.1 r2.2.1 r2.2.2.1 (by decide)) (gd_law p.1 w v) ((kt_law p.1 w v).2) ((kt_law p.1 w v).fit ft)⟩
theorem t_goods (W : WLD h) (m v : Int32) : ∃ a, TW scr h cd_X5_goods [.ref 0, .int m, .int v, .float 0] cd_X6_goods [.ref 57, .int m, .int v] (.int a) := by
  obtain ⟨n, f, x, q, im, kp, fk, tl, tp, sv, sl, ss, sc, w1, r1, p, ft, fk2, len⟩ := W
  exact ⟨_, tw_town w1 r1 p fk2 len (k_goods w1.1.1 w1.2.1 w1.2.2.1 p.1 (by decide)) (fun h1 r2 => r_goods r2.1.1 r2.2.1 r2.2.2.1 p.1 (by decide)) (gd_goods p.1 m v) ((kt_goods p.1 m v).2) ((kt_goods p.1 m v).fit ft)⟩
theorem t_year (W : WLD h) (w : Int32) : ∃ a, TW scr h cd_X5_year [.ref 0, .int w] cd_X6_year [.ref 57, .int w, .float 0] (.int a) := by
  obtain ⟨n, f, x, q, im, kp, fk, tl, tp, sv, sl, ss, sc, w1, r1, p, ft, fk2, len⟩ := W
  exact ⟨_, tw_town w1 r1 p fk2 len (k_year w1.1.1 w1.2.1 w1.2.2.1 p.1 (by decide)) (fun h1 r2 => r_year r2.1.1 r2.2.1 r2.2.2.1 p.1 (by decide)) (gd_year p.1 w) ((kt_year p.1 w).2) ((kt_year p.1 w).fit ft)⟩
theorem t_pays (W : WLD h) (m w : Int32) : ∃ a, TW scr h cd_X5_pays [.ref 0, .int m, .int w] cd_X6_pays [.ref 57, .int m, .int w] (.int a) := by
  obtain ⟨n, f, x, q, im, kp, fk, tl, tp, sv, sl, ss, sc, w1, r1, p, ft, fk2, len⟩ := W
  exact ⟨_, tw_town w1 r1 p fk2 len (k_pays w1.1.1 w1.2.1 w1.2.2.1 p.1 (by decide)) (fun h1 r2 => r_pays r2.1.1 r2.2.1 r2.2.2.1 p.1 (by decide)) (p.1) (fun _ _ => rfl) (ft)⟩
theorem t_harm (W : WLD h)  : ∃ a, TW scr h cd_X5_harm [.ref 0] cd_X6_harm [.ref 57] (.int a) := by
  obtain ⟨n, f, x, q, im, kp, fk, tl, tp, sv, sl, ss, sc, w1, r1, p, ft, fk2, len⟩ := W
  exact ⟨_, tw_town w1 r1 p fk2 len (k_harm w1.1.1 w1.2.1 w1.2.2.1 p.1 (by decide)) (fun h1 r2 => r_harm r2.1.1 r2.2.1 r2.2.2.1 p.1 (by decide)) (p.1) (fun _ _ => rfl) (ft)⟩
theorem t_calm (W : WLD h) (t w : Int32) : ∃ a, TW scr h cd_X5_calm [.ref 0, .int t, .int w, .float 0] cd_X6_calm [.ref 57, .int t, .int w, .float 0, .float 0, .float 0, .float 0, .float 0, .float 0] (.long a) := by
  obtain ⟨n, f, x, q, im, kp, fk, tl, tp, sv, sl, ss, sc, w1, r1, p, ft, fk2, len⟩ := W
  exact ⟨_, tw_town w1 r1 p fk2 len (k_calm w1.1.1 w1.2.1 w1.2.2.1 p.1 (by decide)) (fun h1 r2 => r_calm r2.1.1 r2.2.1 r2.2.2.1 p.1 (by decide)) (p.1) (fun _ _ => rfl) (ft)⟩
theorem t_mean (W : WLD h) (m w : Int32) : ∃ a, TW scr h cd_X5_mean [.ref 0, .int m, .int w, .float 0, .float 0, .float 0, .float 0, .float 0, .float 0] cd_X6_mean [.ref 57, .int m, .int w, .float 0, .float 0, .float 0, .float 0, .float 0, .float 0, .float 0, .float 0] (.long a) := by
  obtain ⟨n, f, x, q, im, kp, fk, tl, tp, sv, sl, ss, sc, w1, r1, p, ft, fk2, len⟩ := W
  exact ⟨_, tw_town w1 r1 p fk2 len (k_mean w1.1.1 w1.2.1 w1.2.2.1 p.1 (by decide)) (fun h1 r2 => r_mean r2.1.1 r2.2.1 r2.2.2.1 p.1 (by decide)) (p.1) (fun _ _ => rfl) (ft)⟩
theorem t_change (W : WLD h) (w : Int32) : ∃ a, TW scr h cd_X5_change [.ref 0, .int w, .float 0, .float 0, .float 0, .float 0, .float 0] cd_X6_change [.ref 57, .int w, .float 0, .float 0, .float 0, .float 0, .float 0, .float 0, .float 0] (.int a) := by
  obtain ⟨n, f, x, q, im, kp, fk, tl, tp, sv, sl, ss, sc, w1, r1, p, ft, fk2, len⟩ := W
  exact ⟨_, tw_town w1 r1 p fk2 len (k_change w1.1.1 w1.2.1 w1.2.2.1 p.1 (by decide)) (fun h1 r2 => r_change r2.1.1 r2.2.1 r2.2.2.1 p.1 (by decide)) (p.1) (fun _ _ => rfl) (ft)⟩
theorem t_takes (W : WLD h) (m : Int32) : ∃ a, TW scr h cd_X5_takes [.ref 0, .int m, .float 0, .float 0, .float 0, .float 0] cd_X6_takes [.ref 57, .int m, .float 0, .float 0, .float 0, .float 0] (.int a) := by
  obtain ⟨n, f, x, q, im, kp, fk, tl, tp, sv, sl, ss, sc, w1, r1, p, ft, fk2, len⟩ := W
  exact ⟨_, tw_town w1 r1 p fk2 len (k_takes w1.1.1 w1.2.1 w1.2.2.1 p.1 (by decide)) (fun h1 r2 => r_takes r2.1.1 r2.2.1 r2.2.2.1 r2.2.2.2.1 p.1 (by decide)) (p.1) (fun _ _ => rfl) (ft)⟩
theorem t_weight (W : WLD h) (m : Int32) : ∃ a, TW scr h cd_X5_weight [.ref 0, .int m, .float 0, .float 0] cd_X6_weight [.ref 57, .int m, .float 0, .float 0] (.int a) := by
  obtain ⟨n, f, x, q, im, kp, fk, tl, tp, sv, sl, ss, sc, w1, r1, p, ft, fk2, len⟩ := W
  exact ⟨_, tw_town w1 r1 p fk2 len (k_weight w1.1.1 w1.2.1 w1.2.2.1 p.1 (by decide)) (fun h1 r2 => r_weight r2.1.1 r2.2.1 r2.2.2.1 p.1 (by decide)) (p.1) (fun _ _ => rfl) (ft)⟩
theorem t_should (W : WLD h) (m : Int32) : ∃ a, TW scr h cd_X5_should [.ref 0, .int m, .float 0, .float 0, .float 0, .float 0] cd_X6_should [.ref 57, .int m, .float 0, .float 0] (.int a) := by
  obtain ⟨n, f, x, q, im, kp, fk, tl, tp, sv, sl, ss, sc, w1, r1, p, ft, fk2, len⟩ := W
  exact ⟨_, tw_town w1 r1 p fk2 len (k_should w1.1.1 w1.2.1 w1.2.2.1 p.1 (by decide)) (fun h1 r2 => r_should r2.1.1 r2.2.1 r2.2.2.1 p.1 (by decide)) (p.1) (fun _ _ => rfl) (ft)⟩
theorem t_guard (W : WLD h) (w : Int32) : ∃ a, TW scr h cd_X5_guard [.ref 0, .int w, .float 0, .float 0] cd_X6_guard [.ref 57, .int w, .float 0, .float 0, .float 0, .float 0] (.int a) := by
  obtain ⟨n, f, x, q, im, kp, fk, tl, tp, sv, sl, ss, sc, w1, r1, p, ft, fk2, len⟩ := W
  exact ⟨_, tw_town w1 r1 p fk2 len (k_guard w1.1.1 w1.2.1 w1.2.2.1 p.1 (by decide)) (fun h1 r2 => r_guard r2.1.1 r2.2.1 r2.2.2.1 p.1 (by decide)) (p.1) (fun _ _ => rfl) (ft)⟩
theorem t_worth (W : WLD h) (m : Int32) : ∃ a, TW scr h cd_X5_worth [.ref 0, .int m, .float 0, .float 0, .float 0] cd_X6_worth [.ref 57, .int m, .float 0, .float 0] (.int a) := by
  obtain ⟨n, f, x, q, im, kp, fk, tl, tp, sv, sl, ss, sc, w1, r1, p, ft, fk2, len⟩ := W
  exact ⟨_, tw_town w1 r1 p fk2 len (k_worth w1.1.1 w1.2.1 w1.2.2.1 p.1 (by decide)) (fun h1 r2 => r_worth r2.1.1 r2.2.1 r2.2.2.1 p.1 (by decide)) (p.1) (fun _ _ => rfl) (ft)⟩
theorem t_see (W : WLD h) (m v : Int32) : ∃ a, TW scr h cd_X5_see [.ref 0, .int m, .int v] cd_X6_see [.ref 57, .int m, .int v] (.int a) := by
  obtain ⟨n, f, x, q, im, kp, fk, tl, tp, sv, sl, ss, sc, w1, r1, p, ft, fk2, len⟩ := W
  exact ⟨_, tw_town w1 r1 p fk2 len (k_see w1.1.1 w1.2.1 w1.2.2.1 p.1 (by decide)) (fun h1 r2 => r_see r2.1.1 r2.2.1 r2.2.2.1 p.1 (by decide)) (gd_see p.1 m v) ((kt_see p.1 m v).2) ((kt_see p.1 m v).fit ft)⟩
theorem t_forget (W : WLD h) (v : Int32) : ∃ a, TW scr h cd_X5_forget [.ref 0, .int v, .float 0] cd_X6_forget [.ref 57, .int v] (.int a) := by
  obtain ⟨n, f, x, q, im, kp, fk, tl, tp, sv, sl, ss, sc, w1, r1, p, ft, fk2, len⟩ := W
  exact ⟨_, tw_town w1 r1 p fk2 len (k_forget w1.1.1 w1.2.1 w1.2.2.1 p.1) (fun h1 r2 => r_forget r2.1.1 r2.2.1 r2.2.2.1 p.1 (by decide)) (gd_forget p.1 v) ((kt_forget p.1 v).2) ((kt_forget p.1 v).fit ft)⟩
theorem t_drift (W : WLD h) (s y w : Int32) : ∃ a, TW scr h cd_X5_drift [.ref 0, .int s, .int y, .int w, .float 0, .float 0, .float 0, .float 0, .float 0, .float 0] cd_X6_drift [.ref 57, .int s, .int y, .int w, .float 0, .float 0, .float 0, .float 0, .float 0] (.int a) := by
  obtain ⟨n, f, x, q, im, kp, fk, tl, tp, sv, sl, ss, sc, w1, r1, p, ft, fk2, len⟩ := W
  exact ⟨_, tw_town w1 r1 p fk2 len (k_drift w1.1.1 w1.2.1 w1.2.2.1 p.1 (by decide)) (fun h1 r2 => r_drift r2.1.1 r2.2.1 r2.2.2.1 p.1 (by decide)) (p.1) (fun _ _ => rfl) (ft)⟩
end CALLS2
