set_option maxHeartbeats 4000000 in
set_option maxRecDepth 100000 in
/-- the law, if the machine of our own runs it to 1 -/
theorem ev_start {p : Program} {e : Env} {s : State} {m : MethodId} {below : List Frame} {meth : Method} {c : Code} (l : Launch) {b L : Nat} {xs : Nat → Int32} (C0 : lw_At p s m meth c b L xs)
    (hLL : L < 2 ^ 31) (hrun : ∃ h', List.length h' ≤ 1000 ∧ ev_V ((List.range L).map xs) 60 cd_L_law 0 [.retAddr 0, .float 0, .float 0, .float 0] [] [] (some (.int 1), h')) :
    W p l e room_1 s m #[Value.ref b] below meth c s.heap [] 0 0 (lw_Z below #[Value.ref b] s) (entryFrame m ([Value.ref b] : List Value).toArray 4) := by
  obtain ⟨hx, hb, hr, hml, hown, hts, hX, hbl, hlocks, hgv⟩ := C0
  have hfl := flat_of_before _ hgv
  have hA : ∀ a : Nat, a < s.heap.size → ¬ ev_A s.heap.size a := fun a h q => Nat.not_le.mpr h q
  have Fw : ∀ w ∈ ev_UW, w.before #[Value.ref b] s = true := fun w hw => hts w (ev_UW_in hw)
  have hcls : ∀ k : Nat, ∃ q : ClassId × (Nat → Nat), k < 7 → u_Kn s (ev_cn k) (ev_T k) (ev_N k) q.1 q.2 := by
    intro k
    by_cases hk : k < 7
    · obtain ⟨c0, iS, h0⟩ := u_known (C := ev_cn k) (T := ev_T k) (N := ev_N k) Fw (ev_uws hk) (Fw _ (ev_inst_in hk))
      exact ⟨(c0, iS), fun _ => h0⟩
    · exact ⟨(0, fun _ => 0), fun q => absurd q hk⟩
  obtain ⟨dd, hdd⟩ := Classical.axiomOfChoice hcls
  obtain ⟨cI, kI, compI, fI, gI, kkI⟩ := Cond.arrayClass_spec (Fw _ (ev_arrw .int (Or.inl rfl)))
  obtain ⟨cB, kB, compB, fB, gB, kkB⟩ := Cond.arrayClass_spec (Fw _ (ev_arrw .byte (Or.inr (Or.inl rfl))))
  obtain ⟨cZ, kZ, compZ, fZ, gZ, kkZ⟩ := Cond.arrayClass_spec (Fw _ (ev_arrw .boolean (Or.inr (Or.inr rfl))))
  obtain ⟨compT, cT, kT, fT, -, gT, kkT, nT⟩ := Cond.arrayOver_spec (hts _ ev_p11.2.2.1)
  obtain ⟨compS, cS, kS, fS, -, gS, kkS, nS⟩ := Cond.arrayOver_spec (hts _ ev_p11.2.2.2)
  obtain ⟨aC, a0, a1, a2, a14, a12⟩ : ∃ aC : Nat → ClassId, aC 0 = cI ∧ aC 1 = cB ∧ aC 2 = cZ ∧ aC 14 = cT ∧ aC 12 = cS := ⟨fun t => if t = 0 then cI else if t = 1 then cB else if t = 2 then cZ else if t = 14 then cT else cS, rfl, rfl, rfl, rfl, rfl⟩
  have hK : va_K (fun k => (dd k).1, fun k => (dd k).2) ev_cl (ev_tys aC) s := by
    refine ⟨fun k q hq => ?_, fun k q hq => ?_⟩
    · have hk : k < 7 := (List.getElem?_eq_some_iff.mp hq).1
      have h1 := (ev_cl_get hk).symm.trans hq
      cases h1
      exact hdd k hk
    · match k, hq with
      | 0, hq => cases hq; rw [a0]; exact ⟨fun n z => ⟨fun k h => (by cases h), kI, gI, compI, kkI⟩, fI⟩
      | 1, hq => cases hq; rw [a1]; exact ⟨fun n z => ⟨fun k h => (by cases h), kB, gB, compB, kkB⟩, fB⟩
      | 2, hq => cases hq; rw [a2]; exact ⟨fun n z => ⟨fun k h => (by cases h), kZ, gZ, compZ, kkZ⟩, fZ⟩
      | 3, hq => cases hq; rw [a14]; exact ⟨fun n z => ⟨fun k h => (by cases h), kT, gT, compT, kkT⟩, kT, compT, gT, kkT, fT, nT⟩
      | 4, hq => cases hq; rw [a12]; exact ⟨fun n z => ⟨fun k h => (by cases h), kS, gS, compS, kkS⟩, kS, compS, gS, kkS, fS, nS⟩
      | k + 5, hq => simp at hq
  obtain ⟨adK, adV, hVS, hev⟩ := vk_Sof (args := #[Value.ref b]) (s := s) (N := 8) (tm := ev_tm) (len := ev_sln) (byt := ev_sby) (A := ev_A s.heap.size) (fun i hi => by
      match i, hi with
      | 0, _ => decide
      | 1, _ => decide
      | 2, _ => decide
      | 3, _ => decide
      | 4, _ => decide
      | 5, _ => decide
      | 6, _ => decide
      | 7, _ => decide) (fun i hi => hfl _ (ev_p1 i hi)) (fun i hi => hfl _ (ev_p2 i hi)) (fun i hi => hfl _ (ev_p3 i hi)) (fun i hi => hfl _ (ev_p4 i hi)) (fun i hi j hj => hfl _ (ev_p5 i hi j hj)) (fun i j hi hj hij => (ev_p6 i hi j hj hij).imp (fun q => hfl _ q) (fun q => hfl _ q)) hA
  have hst : ∀ k : Nat, ∃ t : Nat, k < 3 → (ev_ts k).eval #[Value.ref b] s none [] s = some (.ref t) ∧ va_T .int t (ev_sax k).length (fun j => .int ((ev_sax k).getD j 0)) (ev_A s.heap.size) s s.heap := by
    intro k
    by_cases hk : k < 3
    · obtain ⟨t, ht, hT⟩ := va_Tof (f := fun j => .int ((ev_sax k).getD j 0)) (A := ev_A s.heap.size) (N := (ev_sax k).length) (by
        match k, hk with
        | 0, _ => decide
        | 1, _ => decide
        | 2, _ => decide) (hfl _ (ev_p7 k hk)) (va_eqt (hfl _ (ev_p8 k hk))) (fun j hj => va_eqt (hfl _ (ev_p9 k hk j hj))) hA
      exact ⟨t, fun _ => ⟨ht, hT⟩⟩
    · exact ⟨0, fun q => absurd q hk⟩
  obtain ⟨tt, htt⟩ := Classical.axiomOfChoice hst
  obtain ⟨fv, hfv, hZ4⟩ : ∃ fv : Value, (fv = .null ∨ ∃ t, fv = .ref t) ∧ va_Z "jdk/internal/util/Preconditions" "SIOOBE_FORMATTER" "Ljava/util/function/BiFunction;" fv (ev_A s.heap.size) s s.heap := by
    rcases va_Zqof (A := ev_A s.heap.size) (hts _ ev_p11.2.1) (Fw _ (ev_init_in (c := 12) (by decide))) (hfl _ ev_p12.2) hA with q | ⟨t, q⟩
    · exact ⟨_, Or.inl rfl, q⟩
    · exact ⟨_, Or.inr ⟨t, rfl⟩, q⟩
  obtain ⟨ra, r0, r1, r10, r20⟩ : ∃ ra : Nat → Nat, ra 0 = b ∧ (∀ k, k < 3 → ra (k + 1) = tt k) ∧ (∀ i, i < 8 → ra (10 + i) = adK i) ∧ ∀ i, i < 8 → ra (20 + i) = adV i := by
    refine ⟨fun k => if k = 0 then b else if k < 4 then tt (k - 1) else if k < 20 then adK (k - 10) else adV (k - 20), rfl, fun k hk => ?_, fun i hi => ?_, fun i hi => ?_⟩
    · dsimp only
      rw [if_neg (by omega), if_pos (by omega)]
      rfl
    · dsimp only
      rw [if_neg (by omega), if_neg (by omega), if_pos (by omega)]
      congr 1
      omega
    · dsimp only
      rw [if_neg (by omega), if_neg (by omega), if_neg (by omega)]
      congr 1
      omega
  have hstr : ∀ i, i < 8 → ∀ ys, ys = ev_sby.getD i [] → va_T .byte (ra (20 + i)) ys.length (fun j => .int (ys.getD j 0)) (ev_A s.heap.size) s s.heap := by
    intro i hi ys hys
    have h1 := (hVS.1 i hi).2.2.2
    have h2 := of_decide_eq_true (ev_all ev_p16 hi)
    rw [h2] at h1
    rw [r20 i hi, hys]
    exact h1
  have hRO : ev_RO s.heap.size ra fv ((List.range L).map xs) s s.heap := by
    refine ⟨fun k ys hk => ?_, fun i hi => ?_, fun e0 he0 => ?_, fun j hj => ?_, fun e0 he0 => ?_, va_AO.of (hts _ ev_p11.2.2.1), va_AO.of (hts _ ev_p11.2.2.2)⟩
    · unfold ev_ro at hk
      split at hk <;> cases hk
      · obtain ⟨cell, h1, h2, h3, h4, h5⟩ := hX
        rw [if_pos (by decide), r0]
        refine ⟨cell, h1, h2, h3, ?_, ?_, fun j hj => ?_, hA b hbl⟩
        · rw [List.length_map, List.length_range, h4]; exact Nat.le_refl _
        · rw [List.length_map, List.length_range, h4] <;> rfl
        · rw [List.length_map, List.length_range] at hj
          rw [h5 j hj]
          simp [hj]
      · rw [if_pos (by decide), r1 0 (by decide)]; exact (htt 0 (by decide)).2
      · rw [if_pos (by decide), r1 1 (by decide)]; exact (htt 1 (by decide)).2
      · rw [if_pos (by decide), r1 2 (by decide)]; exact (htt 2 (by decide)).2
      · rw [if_neg (by decide)]; exact hstr 0 (by decide) _ rfl
      · rw [if_neg (by decide)]; exact hstr 1 (by decide) _ rfl
      · rw [if_neg (by decide)]; exact hstr 2 (by decide) _ rfl
      · rw [if_neg (by decide)]; exact hstr 3 (by decide) _ rfl
      · rw [if_neg (by decide)]; exact hstr 4 (by decide) _ rfl
      · rw [if_neg (by decide)]; exact hstr 5 (by decide) _ rfl
      · rw [if_neg (by decide)]; exact hstr 6 (by decide) _ rfl
      · rw [if_neg (by decide)]; exact hstr 7 (by decide) _ rfl
    · obtain ⟨h1, h2, h3, -⟩ := hVS.1 i hi
      rw [r10 i hi, r20 i hi]
      exact ⟨h1, h2, h3⟩
    · have h1 := List.all_eq_true.mp ev_p15 e0 he0
      simp only [Bool.and_eq_true, decide_eq_true_eq] at h1
      obtain ⟨⟨q1, q2⟩, q3⟩ := h1
      obtain ⟨i, hi, hi2⟩ : ∃ i, i < 8 ∧ e0.2 = 10 + i := ⟨e0.2 - 10, by omega, by omega⟩
      rw [q3, hi2, show 10 + i - 10 = i by omega, r10 i hi]
      exact vk_R.of (hts _ (ev_p14 i hi)) (hev i hi)
    · match j, hj with
      | 0, _ => exact va_Zof (hts _ ev_p11.1) (Fw _ (ev_init_in (c := 10) (by decide))) (va_eqi (hfl _ ev_p12.1)) hA
      | 1, _ =>
        have h1 := va_Zref (A := ev_A s.heap.size) (hts _ (ev_p10 0 (by decide))) (Fw _ (ev_init_in (c := 3) (by decide))) (htt 0 (by decide)).1 hA
        have e1 : ev_vl s.heap.size ra fv (ev_sv 1) = .ref (tt 0) := by rw [← r1 0 (by decide)]; rfl
        rw [e1]
        exact h1
      | 2, _ =>
        have h1 := va_Zref (A := ev_A s.heap.size) (hts _ (ev_p10 1 (by decide))) (Fw _ (ev_init_in (c := 3) (by decide))) (htt 1 (by decide)).1 hA
        have e1 : ev_vl s.heap.size ra fv (ev_sv 2) = .ref (tt 1) := by rw [← r1 1 (by decide)]; rfl
        rw [e1]
        exact h1
      | 3, _ =>
        have h1 := va_Zref (A := ev_A s.heap.size) (hts _ (ev_p10 2 (by decide))) (Fw _ (ev_init_in (c := 3) (by decide))) (htt 2 (by decide)).1 hA
        have e1 : ev_vl s.heap.size ra fv (ev_sv 3) = .ref (tt 2) := by rw [← r1 2 (by decide)]; rfl
        rw [e1]
        exact h1
      | 4, _ => exact hZ4
    · exact va_Nw.of rfl (hts _ (of_decide_eq_true (List.all_eq_true.mp ev_p13 e0 he0)))
  have Fr : ev_F s.heap.size ra fv aC (fun k => (dd k).1, fun k => (dd k).2) ((List.range L).map xs) p s m #[Value.ref b] meth c 213 := ⟨hx, hb, hr, hml, hown, Fw, hlocks, fun q => absurd q (by decide), hK, hRO, Nat.le_refl _⟩
  obtain ⟨h', hl', n, hE⟩ := hrun
  obtain ⟨-, G⟩ := ev_sound (base := s.heap.size) (ra := ra) (aC := aC) (D := (fun k => (dd k).1, fun k => (dd k).2)) (l := l) hfv n 60 213 0 _ [] [] _ h' (by decide) hE
  have hl := lv_entry ([.ref b]) (n := 4) (Nat.le_of_ble_eq_true rfl)
  rw [lg_entry_eq]
  generalize (lg_sl ([.ref b]) ++ List.replicate (4 - (lg_sl ([.ref b])).length) Slot.unset).toArray = lsC at hl ⊢
  have hLH : ev_LH s.heap.size ra fv lsC (ev_L 213) [.retAddr 0, .float 0, .float 0, .float 0] := by
    refine ⟨hl.1, hl.2.1, by decide, fun i v hv hk => ?_, fun i x hx => ?_⟩
    · match i, hv with
      | 0, hv =>
        cases hv
        have e1 : ev_vl s.heap.size ra fv (.retAddr 0) = .ref b := by rw [← r0]; rfl
        rw [e1]
        exact hl.2.2 (0, .ref b) List.mem_cons_self
      | 1, hv => cases hv; cases hk
      | 2, hv => cases hv; cases hk
      | 3, hv => cases hv; cases hk
      | i + 4, hv => cases hv
    · match i, hx with
      | 0, hx => cases hx
      | 1, hx => cases hx
      | 2, hx => cases hx
      | 3, hx => cases hx
      | i + 4, hx => cases hx
  have key := G (p := p) (e := e) (R := room_1) (below := below) (H := s.heap) (locs := []) (cells := 0) (slots := 0) (Q := lw_Z below #[Value.ref b] s) (lsC := lsC) Fr (by decide) (by decide)
    (by show 0 + (h'.length - 0) ≤ 600000; omega) (by show 0 + 200 * (h'.length - 0) ≤ 7302250; omega) hLH (fun k q h => by simp [ev_cw] at h) va_S.rf rfl ?_
  · exact key
  · intro H1 locs1 pc1 lsC1 hP1 hS1 hz1 hrd
    refine va_forget (fun q hq => hS1.2.2 q hq) ?_
    refine W.widen (k := 600000) (n := 7302250) (by show 0 + (h'.length - 0) ≤ 600000; omega) (by show 0 + 200 * (h'.length - 0) ≤ 7302250; omega) ?_
    exact lw_ret hx hb hr hlocks hrd.1
