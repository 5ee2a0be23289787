/-! The other pairs. -/
section PAIRS2
variable {scr : List Int32} {h h' : ev_H} {n : Nat} {f f' : Nat → Nat} {x x' q q' im im' : Nat → Int32} {kp : Nat → Bool} {fk : Nat → Nat → Nat} {tl tl' : Nat} {tp tp' : Nat → Nat} {sv : Nat → Bool} {sl ss : Nat → Nat} {sc : Nat → Nat → Int32} {cdc cdm : List ev_I} {lc lm : List Value} {a : Value}
theorem t_fault (W : WLD h) : ∃ a, TW scr h cd_X5_fault [.ref 0] cd_X6_fault [.ref 57] (.int a) := by
  obtain ⟨n, f, x, q, im, kp, fk, tl, tp, sv, sl, ss, sc, w1, r1, p, ft, fk2, len⟩ := id W
  obtain ⟨v1, h1, e1, rfl, rfl⟩ := k_fault (scr := scr) (d := 50) w1.1.1
  obtain ⟨v2, h2, e2, rfl, rfl⟩ := r_fault (scr := scr) (d := 50) r1.1.1
  rw [← p.2.1.1] at e2
  exact ⟨_, _, _, e1, ⟨_, r1.1.1⟩, e2, W⟩
theorem t_torn (W : WLD h) : ∃ a, TW scr h cd_X5_torn [.ref 0] cd_X6_torn [.ref 57] (.int a) := by
  obtain ⟨n, f, x, q, im, kp, fk, tl, tp, sv, sl, ss, sc, w1, r1, p, ft, fk2, len⟩ := id W
  obtain ⟨v1, h1, e1, rfl, rfl⟩ := k_torn (scr := scr) (d := 50) w1.1.1
  obtain ⟨v2, h2, e2, rfl, rfl⟩ := r_torn (scr := scr) (d := 50) r1.1.1
  rw [← p.2.1.2] at e2
  exact ⟨_, _, _, e1, ⟨_, r1.1.1⟩, e2, W⟩
theorem tt_feed (W : WLD h) (c : Int32) : ∃ a, TW scr h cd_X5_feed [.ref 0, .int c] cd_X6_feed [.ref 57, .int c] (.int a) := by
  obtain ⟨n, f, x, q, im, kp, fk, tl, tp, sv, sl, ss, sc, w1, r1, p, ft, fk2, len⟩ := W
  obtain ⟨p1, p2, p3, p4, p5, p6⟩ := p
  obtain ⟨⟨a0, a1⟩, a2, a3, a4, a5, a6, a7, a8, a9⟩ := w1
  obtain ⟨v1, h1, e1, rfl, hC1, hT1, hl1, hE1⟩ := k_feed (scr := scr) (d := 50) (c := c) a0 a1 a6 p4
  have r2 := r1.same (h' := h1) (fun j hj => hE1 j (by omega) (by omega))
  have w2 : WC h1 n f (ux x 0 (nI (s_feed tl c))) kp fk (s_feed tl c) (t_feed tl tp c) sv sl ss sc := ⟨⟨hC1, ux_eq⟩, a2.same (fun j _ _ => hE1 j (by omega) (by omega)), a3.same (fun j _ _ => hE1 j (by omega) (by omega)), a4.same (fun j _ => hE1 j (by omega) (by omega)), a5.same (fun j _ => hE1 j (by omega) (by omega)), hT1, a7.same (fun j _ _ => hE1 j (by omega) (by omega)), a8.same (fun j _ _ => hE1 j (by omega) (by omega)), a9.same (hE1 30 (by decide) (by decide))⟩
  obtain ⟨⟨b0, b1⟩, b2, b3, b4, b5, b6, b7, b8, b9⟩ := id r2
  obtain ⟨v2, h2, e2, rfl, hM2, hT2, hl2, hE2⟩ := r_feed (scr := scr) (d := 50) (c := c) b0 b1 b7 p4 (by decide)
  have w3 := w2.same (h' := h2) (fun j hj => hE2 j (by omega) (by omega))
  have r3 : WR h2 n f (ux q 4 (nI (s_feed tl c))) im kp fk (s_feed tl c) (t_feed tl tp c) sv sl ss sc := ⟨⟨hM2, ux_eq⟩, b2.kept (hE2 _ (by decide) (by decide)), ⟨b3.1.kept (hE2 _ (by decide) (by decide)), b3.2.1.kept (hE2 _ (by decide) (by decide)), b3.2.2.kept (hE2 _ (by decide) (by decide))⟩, b4.kept (hE2 _ (by decide) (by decide)), ⟨b5.1.kept (hE2 _ (by decide) (by decide)), b5.2⟩, ⟨b6.1.kept (hE2 _ (by decide) (by decide)), b6.2.kept (hE2 _ (by decide) (by decide))⟩, hT2, ⟨b8.1.kept (hE2 _ (by decide) (by decide)), b8.2.1.kept (hE2 _ (by decide) (by decide)), b8.2.2.kept (hE2 _ (by decide) (by decide))⟩, b9.kept (hE2 _ (by decide) (by decide))⟩
  refine ⟨_, h1, h2, e1, ⟨_, b0⟩, e2, n, f, _, _, im, kp, fk, _, _, sv, sl, ss, sc, w3, r3, ⟨p1, ⟨?_, ?_⟩, p3, ?_, ?_, p6⟩, ft, fk2, (hl2.trans hl1).trans len⟩
  · rw [ux_ne (by decide), ux_ne (by decide)]; exact p2.1
  · rw [ux_ne (by decide), ux_ne (by decide)]; exact p2.2
  · unfold s_feed
    split
    · split
      · exact p4
      · rename_i c1 c2; omega
    · exact p4
  · unfold s_feed t_feed
    by_cases c1 : isM 128 c = true
    · rw [if_pos c1, if_pos c1]
      by_cases c2 : tl = 160
      · rw [if_pos c2, if_pos c2]; exact p5
      · rw [if_neg c2, if_neg c2]
        intro i hi
        obtain ⟨j, hj, rfl⟩ := isM_of c1 (by decide)
        rw [ix_nI (by omega)]
        by_cases c3 : i = tl
        · rw [c3, up_eq]; exact hj
        · rw [up_ne c3]; exact p5 i (by omega)
    · rw [if_neg c1, if_neg c1]; exact p5
theorem s_end_le {tl : Nat} {m : Int32} (ht : tl ≤ 160) : s_end tl m ≤ tl := by
  unfold s_end
  by_cases c : isM (tl + 1) m = true
  · rw [if_pos c]
    obtain ⟨j, hj, rfl⟩ := isM_of c (by omega)
    rw [ix_nI (by omega)]
    omega
  · rw [if_neg c]; exact Nat.le_refl _
theorem t_end (W : WLD h) (m : Int32) : ∃ a, TW scr h cd_X5_end [.ref 0, .int m, .float 0] cd_X6_end [.ref 57, .int m, .float 0] (.int a) := by
  obtain ⟨n, f, x, q, im, kp, fk, tl, tp, sv, sl, ss, sc, w1, r1, p, ft, fk2, len⟩ := W
  obtain ⟨p1, p2, p3, p4, p5, p6⟩ := p
  obtain ⟨⟨a0, a1⟩, a2, a3, a4, a5, a6, a7, a8, a9⟩ := w1
  have hle := s_end_le (m := m) p4
  obtain ⟨v1, h1, e1, rfl, hC1, hB1⟩ := k_end (scr := scr) (d := 50) (m := m) a0 a1 p4
  have r2 := r1.same (h' := h1) (fun j hj => hB1.2 j (by omega))
  have w2 : WC h1 n f (ux x 0 (nI (s_end tl m))) kp fk (s_end tl m) tp sv sl ss sc := ⟨⟨hC1, ux_eq⟩, a2.same (fun j _ _ => hB1.2 j (by omega)), a3.same (fun j _ _ => hB1.2 j (by omega)), a4.same (fun j _ => hB1.2 j (by omega)), a5.same (fun j _ => hB1.2 j (by omega)), (a6.kept (hB1.2 22 (by decide))).congr (fun i _ hp => ⟨by omega, rfl⟩), a7.same (fun j _ _ => hB1.2 j (by omega)), a8.same (fun j _ _ => hB1.2 j (by omega)), a9.same (hB1.2 30 (by decide))⟩
  obtain ⟨⟨b0, b1⟩, b2, b3, b4, b5, b6, b7, b8, b9⟩ := id r2
  obtain ⟨v2, h2, e2, rfl, hM2, hB2⟩ := r_end (scr := scr) (d := 50) (m := m) b0 b1 p4 (by decide)
  have w3 := w2.same (h' := h2) (fun j hj => hB2.2 j (by omega))
  have r3 : WR h2 n f (ux q 4 (nI (s_end tl m))) im kp fk (s_end tl m) tp sv sl ss sc := ⟨⟨hM2, ux_eq⟩, b2.kept (hB2.2 _ (by decide)), ⟨b3.1.kept (hB2.2 _ (by decide)), b3.2.1.kept (hB2.2 _ (by decide)), b3.2.2.kept (hB2.2 _ (by decide))⟩, b4.kept (hB2.2 _ (by decide)), ⟨b5.1.kept (hB2.2 _ (by decide)), b5.2⟩, ⟨b6.1.kept (hB2.2 _ (by decide)), b6.2.kept (hB2.2 _ (by decide))⟩, (b7.kept (hB2.2 _ (by decide))).congr (fun i _ hp => ⟨by omega, rfl⟩), ⟨b8.1.kept (hB2.2 _ (by decide)), b8.2.1.kept (hB2.2 _ (by decide)), b8.2.2.kept (hB2.2 _ (by decide))⟩, b9.kept (hB2.2 _ (by decide))⟩
  refine ⟨_, h1, h2, e1, ⟨_, b0⟩, e2, n, f, _, _, im, kp, fk, _, _, sv, sl, ss, sc, w3, r3, ⟨p1, ⟨?_, ?_⟩, p3, by omega, fun i hi => p5 i (by omega), p6⟩, ft, fk2, (hB2.1.trans hB1.1).trans len⟩
  · rw [ux_ne (by decide), ux_ne (by decide)]; exact p2.1
  · rw [ux_ne (by decide), ux_ne (by decide)]; exact p2.2
theorem t_keep (W : WLD h) (k : Int32) : ∃ a, TW scr h cd_X5_keep [.ref 0, .int k, .float 0] cd_X6_keep [.ref 57, .int k, .float 0] (.int a) := by
  obtain ⟨n, f, x, q, im, kp, fk, tl, tp, sv, sl, ss, sc, w1, r1, p, ft, fk2, len⟩ := W
  obtain ⟨p1, p2, p3, p4, p5, p6⟩ := p
  obtain ⟨⟨a0, a1⟩, a2, a3, a4, a5, a6, a7, a8, a9⟩ := w1
  obtain ⟨v1, h1, e1, rfl, hI1, hl1, hE1⟩ := k_keep (scr := scr) (d := 50) (k := k) a0 a2 a4 (by decide)
  have r2 := r1.same (h' := h1) (fun j hj => hE1 j (by omega) (by omega))
  have w2 : ∀ kp' fk', IMc h1 n kp' fk' → WC h1 n f x kp' fk' tl tp sv sl ss sc := fun kp' fk' hI => ⟨⟨(hE1 0 (by decide) (by decide)).trans a0, a1⟩, a2.same (fun j _ _ => hE1 j (by omega) (by omega)), a3.same (fun j _ _ => hE1 j (by omega) (by omega)), hI, a5.same (fun j _ => hE1 j (by omega) (by omega)), a6.kept (hE1 22 (by decide) (by decide)), a7.same (fun j _ _ => hE1 j (by omega) (by omega)), a8.same (fun j _ _ => hE1 j (by omega) (by omega)), a9.same (hE1 30 (by decide) (by decide))⟩
  obtain ⟨⟨b0, b1⟩, b2, b3, b4, b5, b6, b7, b8, b9⟩ := id r2
  obtain ⟨v2, h2, e2, rfl, hI2, hl2, hE2⟩ := r_keep (scr := scr) (d := 50) (k := k) b0 b2 b5 (by decide)
  have r3 : ∀ im' kp' fk', ST h2 f im' → IMr h2 im' kp' fk' → WR h2 n f q im' kp' fk' tl tp sv sl ss sc := fun im' kp' fk' hS hI => ⟨⟨(hE2 57 (by decide) (by decide)).trans b0, b1⟩, hS, ⟨b3.1.kept (hE2 _ (by decide) (by decide)), b3.2.1.kept (hE2 _ (by decide) (by decide)), b3.2.2.kept (hE2 _ (by decide) (by decide))⟩, b4.kept (hE2 _ (by decide) (by decide)), hI, ⟨b6.1.kept (hE2 _ (by decide) (by decide)), b6.2.kept (hE2 _ (by decide) (by decide))⟩, b7.kept (hE2 _ (by decide) (by decide)), ⟨b8.1.kept (hE2 _ (by decide) (by decide)), b8.2.1.kept (hE2 _ (by decide) (by decide)), b8.2.2.kept (hE2 _ (by decide) (by decide))⟩, b9.kept (hE2 _ (by decide) (by decide))⟩
  by_cases c : isM 2 k = true
  · rw [if_pos c] at hI1 hI2
    obtain ⟨im', hS2, hI2⟩ := hI2
    have w3 := (w2 _ _ hI1).same (h' := h2) (fun j hj => hE2 j (by omega) (by omega))
    have key : ∀ j, ukp kp (ix k) j = true → (j = ix k ∧ ufk fk (ix k) f j = f) ∨ (j ≠ ix k ∧ kp j = true ∧ ufk fk (ix k) f j = fk j) := by
      intro j hj
      unfold ukp at hj
      unfold ufk
      by_cases e : j = ix k
      · exact Or.inl ⟨e, if_pos e⟩
      · rw [if_neg e] at hj
        exact Or.inr ⟨e, hj, if_neg e⟩
    refine ⟨_, h1, h2, e1, ⟨_, b0⟩, e2, n, f, x, q, im', _, _, tl, tp, sv, sl, ss, sc, w3, r3 _ _ _ hS2 hI2, ⟨p1, p2, fun j hj hk => ?_, p4, p5, p6⟩, ft, fun j hj hk => ?_, (hl2.trans hl1).trans len⟩
    · rcases key j hk with ⟨_, e⟩ | ⟨_, e1, e⟩
      · rw [e]; exact ⟨p1, fun _ _ => rfl⟩
      · rw [e]; exact p3 j hj e1
    · rcases key j hk with ⟨_, e⟩ | ⟨_, e1, e⟩
      · rw [e]; exact ft
      · rw [e]; exact fk2 j hj e1
  · rw [if_neg c] at hI1 hI2
    have w3 := (w2 _ _ hI1).same (h' := h2) (fun j hj => hE2 j (by omega) (by omega))
    exact ⟨_, h1, h2, e1, ⟨_, b0⟩, e2, n, f, x, q, im, _, _, tl, tp, sv, sl, ss, sc, w3, r3 _ _ _ hI2.1 hI2.2, ⟨p1, p2, p3, p4, p5, p6⟩, ft, fk2, (hl2.trans hl1).trans len⟩
theorem t_back (W : WLD h) (k : Int32) : ∃ a, TW scr h cd_X5_back [.ref 0, .int k] cd_X6_back [.ref 57, .int k] (.int a) := by
  obtain ⟨n, f, x, q, im, kp, fk, tl, tp, sv, sl, ss, sc, w1, r1, p, ft, fk2, len⟩ := W
  have hk : ∀ z : Nat, (isM 2 k && kp (ix k)) = true → ix k < 2 ∧ kp (ix k) = true := fun z c => by
    rw [Bool.and_eq_true] at c
    obtain ⟨j, hj, rfl⟩ := isM_of c.1 (by decide)
    refine ⟨?_, c.2⟩
    rw [ix_nI (by omega)]
    exact hj
  refine ⟨a_back kp fk k, tw_town (f' := if (isM 2 k && kp (ix k)) = true then fk (ix k) else f) w1 r1 p fk2 len (ex_mono (k_back (scr := scr) (k := k) w1.1.1 w1.2.1 w1.2.2.2.1 (by decide)) ?_) (fun h1 r2 => ex_mono (r_back (scr := scr) (k := k) r2.1.1 r2.2.1 r2.2.2.2.2.1 (by decide)) ?_) ?_ (fun t ht => ?_) ?_⟩
  · rintro v h' ⟨rfl, hT, hF⟩
    exact cq_t w1.2.2.1 hT hF
  · rintro v h' ⟨rfl, hS, hB⟩
    exact rq_8 hS r2.2.2.1 hB
  · split
    · rename_i c
      exact (p.2.2.1 _ (hk 0 c).1 (hk 0 c).2).1
    · exact p.1
  · split
    · rename_i c
      exact (p.2.2.1 _ (hk 0 c).1 (hk 0 c).2).2 t ht
    · rfl
  · split
    · rename_i c
      exact fk2 _ (hk 0 c).1 (hk 0 c).2
    · exact ft
theorem tw_sheet {sv' : Nat → Bool} {sl' ss' : Nat → Nat} {sc' : Nat → Nat → Int32} (w : WC h n f x kp fk tl tp sv sl ss sc) (r : WR h n f q im kp fk tl tp sv sl ss sc) (p : PU n f x q kp fk tl tp sl ss) (ft : FIT n f) (fk2 : ∀ k, k < 2 → kp k = true → FIT n (fk k)) (len : h.length = 71) (C : ev_X scr 50 cdc 0 lc [] h (fun v h' => v = some a ∧ SHc h' sv' sl' ss' sc' ∧ h'.length = h.length ∧ ∀ j, (j < 49 ∨ 56 < j) → h'[j]? = h[j]?)) (R : ∀ h1, WR h1 n f q im kp fk tl tp sv sl ss sc → ev_X scr 50 cdm 0 lm [] h1 (fun v h' => v = some a ∧ SHr h' sv' sl' ss' sc' ∧ h'.length = h1.length ∧ ∀ j, (j < 67 ∨ 69 < j) → h'[j]? = h1[j]?)) (hb : ∀ k, k < 4 → sl' k ≤ 2 ∧ ss' k ≤ 40) : TW scr h cdc lc cdm lm a := by
  obtain ⟨p1, p2, p3, p4, p5, p6⟩ := p
  obtain ⟨⟨a0, a1⟩, a2, a3, a4, a5, a6, a7, a8, a9⟩ := w
  obtain ⟨v1, h1, e1, rfl, hS1, hl1, hE1⟩ := C
  have r2 := r.same (h' := h1) (fun j hj => hE1 j (by omega))
  have w2 : WC h1 n f x kp fk tl tp sv' sl' ss' sc' := ⟨⟨(hE1 0 (by decide)).trans a0, a1⟩, a2.same (fun j _ _ => hE1 j (by omega)), a3.same (fun j _ _ => hE1 j (by omega)), a4.same (fun j _ => hE1 j (by omega)), hS1, a6.kept (hE1 22 (by decide)), a7.same (fun j _ _ => hE1 j (by omega)), a8.same (fun j _ _ => hE1 j (by omega)), a9.same (hE1 30 (by decide))⟩
  obtain ⟨v2, h2, e2, rfl, hS2, hl2, hE2⟩ := R h1 r2
  obtain ⟨⟨b0, b1⟩, b2, b3, b4, b5, b6, b7, b8, b9⟩ := r2
  have w3 := w2.same (h' := h2) (fun j hj => hE2 j (by omega))
  have r3 : WR h2 n f q im kp fk tl tp sv' sl' ss' sc' := ⟨⟨(hE2 57 (by decide)).trans b0, b1⟩, b2.kept (hE2 _ (by decide)), ⟨b3.1.kept (hE2 _ (by decide)), b3.2.1.kept (hE2 _ (by decide)), b3.2.2.kept (hE2 _ (by decide))⟩, b4.kept (hE2 _ (by decide)), ⟨b5.1.kept (hE2 _ (by decide)), b5.2⟩, ⟨b6.1.kept (hE2 _ (by decide)), b6.2.kept (hE2 _ (by decide))⟩, b7.kept (hE2 _ (by decide)), hS2, b9.kept (hE2 _ (by decide))⟩
  exact ⟨h1, h2, e1, ⟨_, b0⟩, e2, n, f, x, q, im, kp, fk, tl, tp, sv', sl', ss', sc', w3, r3, ⟨p1, p2, p3, p4, p5, hb⟩, ft, fk2, (hl2.trans hl1).trans len⟩
theorem t_sheet (W : WLD h) (k l m : Int32) : ∃ a, TW scr h cd_X5_sheet [.ref 0, .int k, .int l, .int m] cd_X6_sheet [.ref 57, .int k, .int l, .int m, .float 0] (.int a) := by
  obtain ⟨n, f, x, q, im, kp, fk, tl, tp, sv, sl, ss, sc, w1, r1, p, ft, fk2, len⟩ := W
  cases c : doS k l m
  · refine ⟨a_sheet k l m, tw_sheet (sv' := sv) (sl' := sl) (ss' := ss) (sc' := sc) w1 r1 p ft fk2 len (ex_mono (k_sheet (k := k) (l := l) (m := m) w1.1.1 w1.2.2.2.2.1 (by decide)) ?_) (fun h1 r2 => ex_mono (r_sheet (k := k) (l := l) (m := m) r2.1.1 r2.2.2.2.2.2.2.2.1 (by decide)) ?_) p.2.2.2.2.2⟩
    · rintro v h' ⟨e, s, z⟩
      rw [c, if_neg (by decide)] at s
      exact ⟨e, s, z⟩
    · rintro v h' ⟨e, s, z⟩
      rw [c, if_neg (by decide)] at s
      exact ⟨e, s, z⟩
  · refine ⟨a_sheet k l m, tw_sheet (sv' := usv sv (ix k)) (sl' := up sl (ix k) (ix l)) (ss' := up ss (ix k) (ix m)) (sc' := usc sc (ix k) (fun _ => 0)) w1 r1 p ft fk2 len (ex_mono (k_sheet (k := k) (l := l) (m := m) w1.1.1 w1.2.2.2.2.1 (by decide)) ?_) (fun h1 r2 => ex_mono (r_sheet (k := k) (l := l) (m := m) r2.1.1 r2.2.2.2.2.2.2.2.1 (by decide)) ?_) ?_⟩
    · rintro v h' ⟨e, s, z⟩
      rw [c, if_pos rfl] at s
      exact ⟨e, s, z⟩
    · rintro v h' ⟨e, s, z⟩
      rw [c, if_pos rfl] at s
      exact ⟨e, s, z⟩
    · intro y hy
      unfold doS okS at c
      simp only [Bool.and_eq_true, decide_eq_true_eq, Bool.not_eq_true', decide_eq_false_iff_not] at c
      obtain ⟨⟨c1, c2, c3⟩, c4⟩ := c
      obtain ⟨j, hj, rfl⟩ := isM_of c2 (by decide)
      obtain ⟨z, hz, rfl⟩ := nI_of c4
      have hz40 : z ≤ 40 := (nI_leI (b := 40) hz (by decide)).mp c3
      rw [ix_nI (by omega), ix_nI hz]
      by_cases e : y = ix k
      · rw [e, up_eq, up_eq]; omega
      · rw [up_ne e, up_ne e]; exact p.2.2.2.2.2 y hy
theorem tt_lay (W : WLD h) (k i v : Int32) : ∃ a, TW scr h cd_X5_lay [.ref 0, .int k, .int i, .int v, .float 0, .float 0] cd_X6_lay [.ref 57, .int k, .int i, .int v] (.int a) := by
  obtain ⟨n, f, x, q, im, kp, fk, tl, tp, sv, sl, ss, sc, w1, r1, p, ft, fk2, len⟩ := W
  have hb := p.2.2.2.2.2
  cases c : doL sv ss k i
  · refine ⟨a_lay sv ss k i, tw_sheet (sv' := sv) (sl' := sl) (ss' := ss) (sc' := sc) w1 r1 p ft fk2 len (ex_mono (k_lay (k := k) (i := i) (v := v) w1.1.1 w1.2.2.2.2.1 hb (by decide)) ?_) (fun h1 r2 => ex_mono (r_lay (k := k) (i := i) (v := v) r2.1.1 r2.2.2.2.2.2.2.2.1 hb (by decide)) ?_) hb⟩
    · rintro v h' ⟨e, s, z⟩
      rw [c, if_neg (by decide)] at s
      exact ⟨e, s, z⟩
    · rintro v h' ⟨e, s, z⟩
      rw [c, if_neg (by decide)] at s
      exact ⟨e, s, z⟩
  · refine ⟨a_lay sv ss k i, tw_sheet (sv' := sv) (sl' := sl) (ss' := ss) (sc' := usc sc (ix k) (ulc (sc (ix k)) (ix i) (lw (sl (ix k)) v))) w1 r1 p ft fk2 len (ex_mono (k_lay (k := k) (i := i) (v := v) w1.1.1 w1.2.2.2.2.1 hb (by decide)) ?_) (fun h1 r2 => ex_mono (r_lay (k := k) (i := i) (v := v) r2.1.1 r2.2.2.2.2.2.2.2.1 hb (by decide)) ?_) hb⟩
    · rintro v h' ⟨e, s, z⟩
      rw [c, if_pos rfl] at s
      exact ⟨e, s, z⟩
    · rintro v h' ⟨e, s, z⟩
      rw [c, if_pos rfl] at s
      exact ⟨e, s, z⟩
theorem t_count (W : WLD h) (w : Int32) : ∃ a, TW scr h cd_X5_count [.ref 0, .int w] cd_X6_count [.ref 57, .int w, .float 0, .float 0, .float 0] (.int a) := by
  obtain ⟨n, f, x, q, im, kp, fk, tl, tp, sv, sl, ss, sc, w1, r1, p, ft, fk2, len⟩ := W
  refine ⟨a_count n f kp tl sv ss w, tw_town w1 r1 p fk2 len (ex_mono (k_count (w := w) w1.1.1 w1.1.2 w1.2.1 w1.2.2.2.1 w1.2.2.2.2.1 p.1 (by decide)) ?_) (fun h1 r2 => r_count (w := w) r2.1.1 r2.1.2 r2.2.1 r2.2.2.1 r2.2.2.2.2.1 r2.2.2.2.2.2.2.2.1 p.2.2.2.2.2 p.1 (by decide)) p.1 (fun _ _ => rfl) ft⟩
  rintro v h' ⟨rfl, rfl⟩
  exact cq_s w1.2.1 w1.2.2.1
theorem t_fits (W : WLD h) (w : Int32) : ∃ a, TW scr h cd_X5_fits [.ref 0, .int w] cd_X6_fits [.ref 57, .int w, .float 0, .float 0, .float 0, .float 0, .float 0, .float 0, .float 0] (.int a) := by
  obtain ⟨n, f, x, q, im, kp, fk, tl, tp, sv, sl, ss, sc, w1, r1, p, ft, fk2, len⟩ := W
  obtain ⟨⟨a0, a1⟩, a2, a3, a4, a5, a6, a7, a8, a9⟩ := w1
  obtain ⟨v1, h1, e1, rfl, hL1, hB1, hF1⟩ := k_fits (scr := scr) (d := 50) (w := w) a0 a2 a3 a9 p.1 (by decide)
  have r2 := r1.same (h' := h1) (fun j hj => hF1.2 j (by omega) (by omega))
  have w2 : WC h1 n f x kp fk tl tp sv sl ss sc := ⟨⟨(hF1.2 0 (by decide) (by decide)).trans a0, a1⟩, a2.ft hF1, hL1, a4.same (fun j _ => hF1.2 j (by omega) (by omega)), a5.same (fun j _ => hF1.2 j (by omega) (by omega)), a6.kept (hF1.2 22 (by decide) (by decide)), a7.same (fun j _ _ => hF1.2 j (by omega) (by omega)), a8.same (fun j _ _ => hF1.2 j (by omega) (by omega)), hB1⟩
  obtain ⟨v2, h2, e2, rfl, hS2, hR2, hY2⟩ := r_fits (scr := scr) (d := 50) (w := w) r2.1.1 r2.2.1 r2.2.2.1 p.1 (by decide)
  exact ⟨_, h1, h2, e1, ⟨_, r2.1.1⟩, e2, n, f, x, q, im, kp, fk, tl, tp, sv, sl, ss, sc, w2.same (fun j hj => hY2.2 j (by omega) (by omega) (by omega) (by omega)), r2.st hY2 hS2 hR2 (fun _ _ => rfl), p, ft, fk2, (hY2.1.trans hF1.1).trans len⟩
theorem rdr_inv {n : Nat} {v : Bool} {s l : Nat} {a fI : Int32} {c : Nat → Int32} {f0 : Nat → Nat} {t0 : Int32} (g0 : GD n f0) (x0 : FIT n f0) : ∀ k i g m, GD n g → FIT n g → (∀ t, t < 4 → g (60 + t) = f0 (60 + t)) → GD n (rdr n v s l a fI c f0 t0 k i g m).2.1 ∧ FIT n (rdr n v s l a fI c f0 t0 k i g m).2.1 ∧ ∀ t, t < 4 → (rdr n v s l a fI c f0 t0 k i g m).2.1 (60 + t) = f0 (60 + t)
  | 0, i, g, m, hg, hx, hm => ⟨hg, hx, hm⟩
  | k + 1, i, g, m, hg, hx, hm => by
    rw [rdr]
    split
    · split
      · exact rdr_inv g0 x0 k (i + 1) _ _ (gd_move hg _ _) (fit_move hg hx _ _) (fun t ht => by rw [mo_move hg _ _ t ht]; exact hm t ht)
      · exact ⟨g0, x0, fun _ _ => rfl⟩
    · exact ⟨hg, hx, hm⟩
theorem t_read (W : WLD h) (k l m y : Int32) : ∃ a, TW scr h cd_X5_read [.ref 0, .int k, .int l, .int m, .int y, .float 0, .float 0, .float 0, .float 0, .float 0] cd_X6_read [.ref 57, .int k, .int l, .int m, .int y, .float 0, .float 0, .float 0, .float 0, .float 0, .float 0] (.int a) := by
  obtain ⟨n, f, x, q, im, kp, fk, tl, tp, sv, sl, ss, sc, w1, r1, p, ft, fk2, len⟩ := W
  obtain ⟨p1, p2, p3, p4, p5, p6⟩ := p
  have inv : GD n (rdA n f (x 2) sv sl ss sc k l m y).2.1 ∧ FIT n (rdA n f (x 2) sv sl ss sc k l m y).2.1 ∧ ∀ t, t < 4 → (rdA n f (x 2) sv sl ss sc k l m y).2.1 (60 + t) = f (60 + t) := by
    unfold rdA
    split
    · exact rdr_inv p1 ft _ _ _ _ p1 ft (fun _ _ => rfl)
    · exact ⟨p1, ft, fun _ _ => rfl⟩
  obtain ⟨⟨a0, a1⟩, a2, a3, a4, a5, a6, a7, a8, a9⟩ := w1
  obtain ⟨v1, h1, e1, rfl, hT1, hC1, hL1, hF1⟩ := k_read (scr := scr) (d := 50) (k := k) (l := l) (p := m) (m := y) a0 a2 a3 a5 p6 p1 (by decide)
  have r2 := r1.same (h' := h1) (fun j hj => hF1.2 j (by omega))
  have w2 : WC h1 n (rdA n f (x 2) sv sl ss sc k l m y).2.1 (ux x 2 (rdA n f (x 2) sv sl ss sc k l m y).2.2) kp fk tl tp sv sl ss sc := ⟨⟨hC1, by rw [ux_ne (by decide)]; exact a1⟩, hT1, hL1, a4.same (fun j _ => hF1.2 j (by omega)), a5.same (fun j _ => hF1.2 j (by omega)), a6.kept (hF1.2 22 (by decide)), a7.same (fun j _ _ => hF1.2 j (by omega)), a8.same (fun j _ _ => hF1.2 j (by omega)), a9.same (hF1.2 30 (by decide))⟩
  obtain ⟨⟨b0, b1⟩, b2, b3, b4, b5, b6, b7, b8, b9⟩ := r2
  obtain ⟨v2, h2, e2, rfl, hS2, hM2, hR2, hH2, hl2, hE2⟩ := r_read (scr := scr) (d := 50) (k := k) (l := l) (p := m) (m := y) b0 b2 b3 b4 b9 b8 p6 p1 (by decide)
  rw [← p2.2] at e2 hS2 hM2
  have e : ∀ j, j ≠ 57 → j ≠ 58 → j ≠ 59 → j ≠ 65 → j ≠ 66 → j ≠ 70 → h2[j]? = h1[j]? := hE2
  have r3 : WR h2 n (rdA n f (x 2) sv sl ss sc k l m y).2.1 (ux q 11 (rdA n f (x 2) sv sl ss sc k l m y).2.2) im kp fk tl tp sv sl ss sc := ⟨⟨hM2, by rw [ux_ne (by decide)]; exact b1⟩, hS2, hR2, (b4.kept (e _ (by decide) (by decide) (by decide) (by decide) (by decide) (by decide))).congr (fun t ht hp => ⟨hp, by rw [inv.2.2 t ht]⟩), ⟨b5.1.kept (e _ (by decide) (by decide) (by decide) (by decide) (by decide) (by decide)), b5.2⟩, ⟨b6.1.kept (e _ (by decide) (by decide) (by decide) (by decide) (by decide) (by decide)), b6.2.kept (e _ (by decide) (by decide) (by decide) (by decide) (by decide) (by decide))⟩, b7.kept (e _ (by decide) (by decide) (by decide) (by decide) (by decide) (by decide)), ⟨b8.1.kept (e _ (by decide) (by decide) (by decide) (by decide) (by decide) (by decide)), b8.2.1.kept (e _ (by decide) (by decide) (by decide) (by decide) (by decide) (by decide)), b8.2.2.kept (e _ (by decide) (by decide) (by decide) (by decide) (by decide) (by decide))⟩, hH2⟩
  refine ⟨_, h1, h2, e1, ⟨_, b0⟩, e2, n, _, _, _, im, kp, fk, tl, tp, sv, sl, ss, sc, w2.same (fun j hj => e j (by omega) (by omega) (by omega) (by omega) (by omega) (by omega)), r3, ⟨inv.1, ⟨?_, ?_⟩, fun k hk hkp => ⟨(p3 k hk hkp).1, fun t ht => ((p3 k hk hkp).2 t ht).trans (inv.2.2 t ht).symm⟩, p4, p5, p6⟩, inv.2.1, fk2, (hl2.trans hF1.1).trans len⟩
  · rw [ux_ne (by decide), ux_ne (by decide)]; exact p2.1
  · rw [ux_eq, ux_eq]
end PAIRS2
