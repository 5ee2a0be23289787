/-! Calls. -/
abbrev ev_ws (k : Nat) : List Cond := Cond.code (ev_y k) (ev_b k) (ev_L k) (ev_r k) :: ev_UW
theorem ev_goodOf {ws : List Cond} (h : ∀ w ∈ ws, w ∈ ev_UW) : GoodIn ev_UW ws := fun w hw => ⟨h w hw, good_of_word (List.mem_filter.mp (h w hw)).2⟩
theorem ev_ws_in {k : Nat} (hk : k < 213) : ∀ w ∈ ev_ws k, w ∈ ev_UW := fun w hw => (List.mem_cons.mp hw).elim (fun q => by rw [q]; exact ev_code k hk) id
def ev_has (l : List (Nat × Nat)) (k : Nat) : Bool := l.any (fun e => decide (e.1 = k))
theorem ev_stm_in {k : Nat} (h : ev_has ev_stm k = true) : Cond.static (ev_y k) ∈ ev_UW := by
  obtain ⟨e0, he0, h3⟩ := List.any_eq_true.mp h
  have h4 := ev_word (List.all_eq_true.mp ev_stm_ok _ he0)
  rw [of_decide_eq_true h3] at h4
  exact h4
theorem ev_inm_in {k : Nat} (h : ev_has ev_inm k = true) : Cond.instanceMethod (ev_y k) ∈ ev_UW := by
  obtain ⟨e0, he0, h3⟩ := List.any_eq_true.mp h
  have h4 := ev_word (List.all_eq_true.mp ev_inm_ok _ he0)
  rw [of_decide_eq_true h3] at h4
  exact h4
theorem ev_sel_in {k : Nat} (h : (ev_has ev_sel k || ev_selp.any (fun e => decide (e.1 = k))) = true) : Cond.selects (ev_y k).cls (ev_y k) (ev_y k) ∈ ev_UW := by
  rw [Bool.or_eq_true] at h
  rcases h with h | h
  · obtain ⟨e0, he0, h3⟩ := List.any_eq_true.mp h
    have h4 := ev_word (List.all_eq_true.mp ev_sel_ok _ he0)
    rw [of_decide_eq_true h3] at h4
    exact h4
  · obtain ⟨e0, he0, h3⟩ := List.any_eq_true.mp h
    have h4 := List.all_eq_true.mp ev_selp_ok _ he0
    simp only [Bool.and_eq_true, decide_eq_true_eq] at h4
    have h5 := ev_memp _ _ h4.1 h4.2
    rw [of_decide_eq_true h3] at h5
    exact h5
theorem ev_mls_ok : ev_mls.all (fun e => decide (e.2.2.2 < 213) && (match e.1 with
  | 0 => !ev_isSt e.2.2.2 && ev_has ev_inm e.2.2.2 && (ev_has ev_sel e.2.2.2 || ev_selp.any (fun q => decide (q.1 = e.2.2.2)))
  | 1 => ev_isSt e.2.2.2 && ev_has ev_stm e.2.2.2
  | _ => !ev_isSt e.2.2.2 && ev_has ev_inm e.2.2.2 && decide ((ev_y e.2.2.2).name = "<init>") && decide (ev_r e.2.2.2 = none))) = true := by decide +kernel
theorem ev_mns_ok : ev_mns.all (fun e => decide (e.2.2.2 < 213) && (match e.1 with
  | 2 => ev_isSt e.2.2.2 && ev_has ev_stm e.2.2.2
  | _ => !ev_isSt e.2.2.2 && ev_has ev_inm e.2.2.2 && decide ((ev_y e.2.2.2).name = "<init>") && decide (ev_r e.2.2.2 = none))) = true := by decide +kernel
theorem ev_mls_in {e : Nat × Nat × Nat × Nat} (h : e ∈ ev_mls) : Cond.methodLink (ev_cn e.2.1) e.2.2.1 (ev_y e.2.2.2) ∈ ev_UW := by
  obtain ⟨q, hq, rfl⟩ := List.mem_map.mp h
  exact ev_word (List.all_eq_true.mp ev_mlk_ok _ hq)
theorem ev_mnp : ((List.range 214).all (fun i => ev_isSt i || decide (1 ≤ ev_np i))) = true := by decide +kernel
theorem ev_dsc {k : Nat} (hk : k < 213) : (ev_y k).cls = ev_cn (ev_o k) ∧ (ev_y k).cls ≠ "java/lang/invoke/MethodHandle" ∧ (ev_y k).cls ≠ "java/lang/invoke/VarHandle" ∧ ev_L k ≤ 40 ∧ (ev_pb k).getD 0 0 = 0 ∧ ev_o k < 13 ∧ (parseMethodDescriptor (ev_y k).desc).map (fun d => d.parameters.length) = some (if ev_isSt k then ev_np k else ev_np k - 1) := by
  have h1 := ev_all ev_desc (show k < 214 by omega)
  have h2 := ev_all ev_desc2 hk
  simp only [Bool.and_eq_true, decide_eq_true_eq] at h1 h2
  obtain ⟨⟨⟨⟨⟨a1, a2⟩, a3⟩, a4⟩, a5⟩, a6⟩ := h1
  exact ⟨a1, a2, a3, a4, a5, a6, h2⟩
theorem ev_sum8 : ∀ (l : List Value), (l.map fun v => v.category).sum ≤ 2 * l.length
  | [] => by simp
  | v :: l => by
    have := ev_sum8 l
    have h2 : v.category ≤ 2 := by cases v <;> simp [Value.category]
    simp only [List.map_cons, List.sum_cons, List.length_cons]
    omega
theorem ev_xC_of {i : ev_I} {k : Nat} (h : ev_xC i = some k) : i = .inl (.invokevirtual k) ∨ i = .inl (.invokestatic k) ∨ i = .inl (.invokespecial k) ∨ (i = .inl .monitorexit ∧ k = 999) := by
  unfold ev_xC at h
  split at h
  · cases h
  · split at h
    · cases h; exact Or.inl rfl
    · cases h; exact Or.inr (Or.inl rfl)
    · cases h; exact Or.inr (Or.inr (Or.inl rfl))
    · cases h; exact Or.inr (Or.inr (Or.inr ⟨rfl, rfl⟩))
    · cases h
section CALL
variable {base : Nat} {ra : Nat → Nat} {fv : Value} {aC : Nat → ClassId} {D : va_G} {scr : List Int32}
variable {p : Program} {l : Launch} {e : Env} {R : Room} {s : State} {m : MethodId} {args : Array Value} {below : List Frame} {meth : Method} {c : Code} {H : Heap} {locs : List Loc} {cells slots : Nat} {Q : State → Prop} {mi : Nat}
def ev_Pc (base : Nat) (ra : Nat → Nat) (fv : Value) (aC : Nat → ClassId) (D : va_G) (scr : List Int32) (as : List Value) (h : ev_H) : Array Value → State → Prop := va_Pc (as.map (ev_vl base ra fv)) (fun U => U.heap.size = base + h.length ∧ va_P D ev_cl (ev_cw base ra fv aC h) U.heap ∧ va_K D ev_cl (ev_tys aC) U ∧ ev_RO base ra fv scr U U.heap)
def ev_Qc (base : Nat) (ra : Nat → Nat) (fv : Value) (aC : Nat → ClassId) (D : va_G) (v : Option Value) (h' : ev_H) : Array Value → State → Outcome → State → Prop := fun _ st oc t => oc = .returned (v.map (ev_vl base ra fv)) ∧ (t.heap.size = base + h'.length ∧ va_P D ev_cl (ev_cw base ra fv aC h') t.heap) ∧ va_F (ev_A base) st t
abbrev ev_rm (d mc : Nat) : Room := { frames := d, cells := mc, slots := 200 * mc, locals := 64 * d }
theorem ev_Pc_blind (as : List Value) (h : ev_H) : FrameBlind (ev_Pc base ra fv aC D scr as h) := by
  intro a U g mk q
  obtain ⟨q1, q2, q3, q4, q5⟩ := q
  exact ⟨q1, q2, q3, va_K.moved (u := U) (U := U.calling g mk a) (Vm.Alike.refl U.vm) q4, ev_RO.same base ra fv scr (u := U) (U := U.calling g mk a) rfl q5⟩
theorem ev_Pc_pre (Fr : ev_F base ra fv aC D scr p s m args meth c mi) (as : List Value) {h : ev_H} (hP : va_P D ev_cl (ev_cw base ra fv aC h) H) (hS : va_S (ev_A base) s.heap H locs) (hz : H.size = base + h.length) : ∀ U : State, U.heap = H → s.WarmedH U.vm → ev_Pc base ra fv aC D scr as h (as.map (ev_vl base ra fv)).toArray U := by
  intro U hU hW
  obtain ⟨-, -, -, -, -, -, -, -, FK, FR, -⟩ := Fr
  exact ⟨rfl, by rw [hU]; exact hz, by rw [hU]; exact hP, FK.moved hW.alike, by rw [hU]; exact (FR.kept base ra fv scr hS.2.1).warm base ra fv scr hW⟩
set_option maxHeartbeats 4000000 in
theorem ev_wC (Fr : ev_F base ra fv aC D scr p s m args meth c mi) (hmi : mi < 214) {i : ev_I} {pc k d : Nat} {st : List Value} {h h' : ev_H} {v : Option Value} (hf : ev_ft (ev_cd mi) pc = some i) (hx : ev_xC i = some k) (h999 : k ≠ 999) {mc : Nat} (hck : ev_cok i st (ev_np k) (ev_o k) h = true)
    (hM : k < 213 → Met l (ev_y k) (ev_ws k) (ev_rm d mc) (ev_Pc base ra fv aC D scr (st.take (ev_np k)).reverse h) (ev_Qc base ra fv aC D v h') mc (200 * mc) (ev_A base))
    {lsC : Array Slot} (hlz : lsC.size = ev_L mi) (hP : va_P D ev_cl (ev_cw base ra fv aC h) H) (hS : va_S (ev_A base) s.heap H locs) (hz : H.size = base + h.length)
    (hR1 : d + 1 ≤ R.frames) (hR2 : 64 * (d + 1) ≤ R.locals) (hcr : cells + mc ≤ R.cells) (hsr : slots + 200 * mc ≤ R.slots) (hfv : fv = .null ∨ ∃ t, fv = .ref t)
    (K : ∀ H1 locs1, va_P D ev_cl (ev_cw base ra fv aC h') H1 → va_S (ev_A base) s.heap H1 locs1 → H1.size = base + h'.length → W p l e R s m args below meth c H1 locs1 (cells + mc) (slots + 200 * mc) Q (F0 m ((ev_pb mi).getD (pc + 1) 0) lsC ((v.toList ++ st.drop (ev_np k)).map (ev_vl base ra fv)))) :
    W p l e R s m args below meth c H locs cells slots Q (F0 m ((ev_pb mi).getD pc 0) lsC (st.map (ev_vl base ra fv))) := by
  have hok := ev_okL_at _ _ _ _ _ _ _ _ _ (ev_ok mi hmi) hf
  have Fr0 := Fr
  obtain ⟨Fx, Fb, Fr1, Fl, Fo, Fw, -, -, FK, FR, -⟩ := Fr
  have hsplit : st.map (ev_vl base ra fv) = ((st.take (ev_np k)).reverse.map (ev_vl base ra fv)).reverse ++ (st.drop (ev_np k)).map (ev_vl base ra fv) := by
    rw [← List.map_reverse, List.reverse_reverse, ← List.map_append, List.take_append_drop]
  have hlen8 : (st.drop (ev_np k)).length ≤ 4 ∧ ev_np k ≤ st.length := by
    unfold ev_cok at hck
    split at hck
    · cases hck
    · simp only [Bool.and_eq_true, Nat.ble_eq] at hck
      exact ⟨hck.1.2, hck.1.1⟩
  have hroom : ((((st.drop (ev_np k)).map (ev_vl base ra fv))).map fun v => v.category).sum ≤ 8 := by
    have := ev_sum8 ((st.drop (ev_np k)).map (ev_vl base ra fv))
    rw [List.length_map] at this
    omega
  have K2 : ∀ (nx : Nat), (ev_pb mi).getD (pc + 1) 0 = nx → ∀ (t : State) (H1 : Heap) (locs1 : List Loc), t.heap = H1 → (t.heap.size = base + h'.length ∧ va_P D ev_cl (ev_cw base ra fv aC h') t.heap) → va_S (ev_A base) s.heap H1 locs1 → W p l e R s m args below meth c H1 locs1 (cells + mc) (slots + 200 * mc) Q (F0 m nx lsC ((v.map (ev_vl base ra fv)).toList ++ (st.drop (ev_np k)).map (ev_vl base ra fv))) := by
    intro nx hnx t H1 locs1 ht hB hS1
    have K1 := K H1 locs1 (by rw [← ht]; exact hB.2) hS1 (by rw [← ht]; exact hB.1)
    rw [hnx, List.map_append] at K1
    have e1 : (v.map (ev_vl base ra fv)).toList = v.toList.map (ev_vl base ra fv) := by cases v <;> rfl
    rw [e1]
    exact K1
  have hrevlen : ((st.take (ev_np k)).reverse).length = ev_np k := by
    rw [List.length_reverse, List.length_take]
    omega
  rcases ev_xC_of hx with rfl | rfl | rfl | ⟨rfl, rfl⟩
  · obtain ⟨raw, len, hd, hr⟩ := ev_okI_dec hok (by intro h; cases h) (by intro h; cases h)
    simp only [ev_okR] at hr
    split at hr
    next ix =>
      simp only [Bool.and_eq_true, decide_eq_true_eq] at hr
      obtain ⟨⟨rfl, hnx⟩, hml⟩ := hr
      have hlk : Cond.methodLink (ev_cn (ev_o mi)) ix (ev_y k) ∈ ev_UW := ev_mls_in (e := (0, ev_o mi, ix, k)) hml
      have hmk := List.all_eq_true.mp ev_mls_ok _ hml
      simp only [Bool.and_eq_true, decide_eq_true_eq, Bool.not_eq_true'] at hmk
      obtain ⟨hk, ⟨hnst, hinm⟩, hsel⟩ := hmk
      have hM := hM hk
      obtain ⟨d1, d2, d3, d4, d5, d6, d7⟩ := ev_dsc hk
      rw [hnst] at d7
      simp only [Bool.false_eq_true, if_false] at d7
      have hnp := ev_all ev_mnp (show k < 214 by omega)
      rw [hnst, Bool.false_or, decide_eq_true_eq] at hnp
      unfold ev_cok at hck
      dsimp only at hck
      rw [Bool.and_eq_true] at hck
      have hrec := hck.2
      cases hrv : (st.take (ev_np k)).reverse with
      | nil => rw [hrv] at hrevlen; simp at hrevlen; omega
      | cons recv tl =>
        rw [hrv] at hrec hM hsplit hrevlen
        have hrec2 : ev_rec (ev_o k) (some recv) h = true := hrec
        clear hrec
        have hrec := hrec2
        clear hrec2
        have key : ∃ ad, ev_vl base ra fv recv = .ref ad ∧ ∃ cellB : Cell, H[ad]? = some cellB ∧ cellB.vm.isStatics = false ∧ s.vm.findClass (ev_cn (ev_o k)) = some cellB.cls := by
          unfold ev_rec at hrec
          split at hrec
          next b hb =>
            cases hb
            split at hrec
            next cn vs hh =>
              simp only [Bool.and_eq_true] at hrec
              have hcn : cn = ev_o k := Nat.eq_of_beq_eq_true hrec.1
              have h7 : ev_o k < 7 := by simpa [Nat.blt_eq] using hrec.2
              subst hcn
              have he := ev_cw_get base ra fv aC hh
              rw [ev_ce_o h7] at he
              exact ⟨base + b, rfl, va_recv FK hP (ev_cl_get h7) he⟩
            next => cases hrec
          next r hb =>
            cases hb
            simp only [Bool.and_eq_true] at hrec
            have h10 : ev_o k = 10 := Nat.eq_of_beq_eq_true hrec.1.1
            have a9 : 9 < r := by simpa [Nat.blt_eq] using hrec.1.2
            have a18 : r < 18 := by simpa [Nat.blt_eq] using hrec.2
            obtain ⟨j, rfl⟩ : ∃ j, r = 10 + j := ⟨r - 10, by omega⟩
            refine ⟨ra (10 + j), if_neg (by omega), ?_⟩
            obtain ⟨cell, g1, g2, g3, -⟩ := (FR.2.1 j (by omega)).1.kept hS.2.1
            rw [h10]
            exact ⟨cell, g1, g2, g3⟩
          next => cases hrec
        obtain ⟨ad, hvr, hcell⟩ := key
        have hst : st.map (ev_vl base ra fv) = (tl.map (ev_vl base ra fv)).reverse ++ .ref ad :: (st.drop (ev_np k)).map (ev_vl base ra fv) := by
          rw [hsplit, List.map_cons, hvr, List.reverse_cons, List.append_assoc]
          rfl
        have hpre := ev_Pc_pre Fr0 (recv :: tl) hP hS hz
        rw [List.map_cons, hvr] at hpre
        have hrun := va_runV (As := tl.map (ev_vl base ra fv)) (rest := (st.drop (ev_np k)).map (ev_vl base ra fv)) (b := ad) (C := ev_cn (ev_o k)) (g := F0 m ((ev_pb mi).getD pc 0) lsC (st.map (ev_vl base ra fv))) (cells := cells) (slots := slots) (locs := locs) (below := below) (e := e) (meth := meth) ⟨Fx, Fb, Fl, Fo, Fw⟩ hM
          (cwV (R := R) (index := ix) (n := ev_np k - 1) (y := ev_y k) (bytes := ev_b k) (maxL := ev_L k) (ret := ev_r k) (ws := ev_ws k) (ws' := ev_UW) (rm := ev_rm d mc) Fw (ev_goodOf (fun w hw => by
            unfold wsV at hw
            rcases List.mem_append.mp hw with q | q
            · simp only [List.mem_cons, List.not_mem_nil, or_false] at q
              rcases q with rfl | rfl | rfl | rfl
              · exact hlk
              · exact ev_inm_in hinm
              · rw [← d1]; exact ev_sel_in hsel
              · exact ev_init_in d6
            · exact ev_ws_in hk w q)) rfl rfl rfl ⟨d1, d2, d3, d7⟩ ⟨hR1, by show 8 + (ev_L k + 11) + 64 * d ≤ R.locals; omega⟩)
          ⟨ev_Pc_blind _ _, hcell, hpre⟩ rfl (by rw [List.length_map]; simp at hrevlen; omega) hlz hst (lv_room hroom) hd ⟨hcr, hsr⟩
        exact ew_cont (a := #[]) hrun hS (fun _ q => q) (K2 _ hnx)
    · cases hr
  · obtain ⟨raw, len, hd, hr⟩ := ev_okI_dec hok (by intro h; cases h) (by intro h; cases h)
    simp only [ev_okR] at hr
    split at hr
    next ix =>
      simp only [Bool.and_eq_true, decide_eq_true_eq, Bool.or_eq_true] at hr
      obtain ⟨⟨rfl, hnx⟩, hml | hml⟩ := hr
      · have hlk : Cond.methodLink (ev_cn (ev_o mi)) ix (ev_y k) ∈ ev_UW := ev_mls_in (e := (1, ev_o mi, ix, k)) hml
        have hmk := List.all_eq_true.mp ev_mls_ok _ hml
        simp only [Bool.and_eq_true, decide_eq_true_eq] at hmk
        obtain ⟨hk, hst1, hstm⟩ := hmk
        have hM := hM hk
        obtain ⟨d1, d2, d3, d4, d5, d6, d7⟩ := ev_dsc hk
        rw [hst1] at d7
        simp only [if_true] at d7
        have hrun := va_runS (As := (st.take (ev_np k)).reverse.map (ev_vl base ra fv)) (rest := (st.drop (ev_np k)).map (ev_vl base ra fv)) (g := F0 m ((ev_pb mi).getD pc 0) lsC (st.map (ev_vl base ra fv))) (cells := cells) (slots := slots) (locs := locs) (below := below) (e := e) (meth := meth) ⟨Fx, Fb, Fl, Fo, Fw⟩ hM
          (va_cwS (R := R) (index := ix) (n := ev_np k) (y := ev_y k) (bytes := ev_b k) (maxL := ev_L k) (ret := ev_r k) (ws := ev_ws k) (ws' := ev_UW) (rm := ev_rm d mc) Fw (ev_goodOf (fun w hw => by
            unfold va_wsS at hw
            rcases List.mem_append.mp hw with q | q
            · simp only [List.mem_cons, List.not_mem_nil, or_false] at q
              rcases q with rfl | rfl | rfl
              · exact hlk
              · exact ev_stm_in hstm
              · rw [d1]; exact ev_init_in d6
            · exact ev_ws_in hk w q)) rfl rfl rfl ⟨d2, d3, d7⟩ ⟨hR1, by show 8 + (ev_L k + 11) + 64 * d ≤ R.locals; omega⟩)
          ⟨ev_Pc_blind _ _, ev_Pc_pre Fr0 _ hP hS hz⟩ rfl (by rw [List.length_map]; exact hrevlen) hlz hsplit (lv_room hroom) hd ⟨hcr, hsr⟩
        exact ew_cont (a := #[]) hrun hS (fun _ q => q) (K2 _ hnx)
      · have hlk : va_Nw (.methodLinkNest (ev_cn (ev_o mi)) ix (ev_y k) "TenPledges") s := FR.2.2.2.2.1 (2, ev_o mi, ix, k) hml
        have hmk := List.all_eq_true.mp ev_mns_ok _ hml
        simp only [Bool.and_eq_true, decide_eq_true_eq] at hmk
        obtain ⟨hk, hst1, hstm⟩ := hmk
        have hM := hM hk
        obtain ⟨d1, d2, d3, d4, d5, d6, d7⟩ := ev_dsc hk
        rw [hst1] at d7
        simp only [if_true] at d7
        have hrun := va_runSN (As := (st.take (ev_np k)).reverse.map (ev_vl base ra fv)) (rest := (st.drop (ev_np k)).map (ev_vl base ra fv)) (g := F0 m ((ev_pb mi).getD pc 0) lsC (st.map (ev_vl base ra fv))) (cells := cells) (slots := slots) (locs := locs) (below := below) (e := e) (meth := meth) ⟨Fx, Fb, Fl, Fo, Fw⟩ hM
          ⟨va_cnB (R := R) (index := ix) (n := ev_np k) (y := ev_y k) (host := "TenPledges") (bytes := ev_b k) (maxL := ev_L k) (ret := ev_r k) (ws := ev_ws k) (ws' := ev_UW) (rm := ev_rm d mc) Fw (ev_goodOf (ev_ws_in hk)) rfl rfl rfl hlk (Fw _ (by rw [d1]; exact ev_init_in d6)) ⟨d2, d3, d7⟩ ⟨hR1, by show 8 + (ev_L k + 11) + 64 * d ≤ R.locals; omega⟩, Fw _ (ev_stm_in hstm), trivial⟩
          ⟨ev_Pc_blind _ _, ev_Pc_pre Fr0 _ hP hS hz⟩ rfl (by rw [List.length_map]; exact hrevlen) hlz hsplit (lv_room hroom) hd ⟨hcr, hsr⟩
        exact ew_cont (a := #[]) hrun hS (fun _ q => q) (K2 _ hnx)
    · cases hr
  · obtain ⟨raw, len, hd, hr⟩ := ev_okI_dec hok (by intro h; cases h) (by intro h; cases h)
    simp only [ev_okR] at hr
    split at hr
    next ix =>
      simp only [Bool.and_eq_true, decide_eq_true_eq, Bool.or_eq_true] at hr
      obtain ⟨⟨rfl, hnx⟩, hml⟩ := hr
      have hkk : k < 213 ∧ ev_isSt k = false ∧ ev_has ev_inm k = true ∧ (ev_y k).name = "<init>" ∧ ev_r k = none := by
        rcases hml with hml | hml
        · have hmk := List.all_eq_true.mp ev_mls_ok _ hml
          simp only [Bool.and_eq_true, decide_eq_true_eq, Bool.not_eq_true'] at hmk
          exact ⟨hmk.1, hmk.2.1.1.1, hmk.2.1.1.2, hmk.2.1.2, hmk.2.2⟩
        · have hmk := List.all_eq_true.mp ev_mns_ok _ hml
          simp only [Bool.and_eq_true, decide_eq_true_eq, Bool.not_eq_true'] at hmk
          exact ⟨hmk.1, hmk.2.1.1.1, hmk.2.1.1.2, hmk.2.1.2, hmk.2.2⟩
      obtain ⟨hk, hnst, hinm, hnm, hret⟩ := hkk
      have hM := hM hk
      obtain ⟨d1, d2, d3, d4, d5, d6, d7⟩ := ev_dsc hk
      rw [hnst] at d7
      simp only [Bool.false_eq_true, if_false] at d7
      have hnp := ev_all ev_mnp (show k < 214 by omega)
      rw [hnst, Bool.false_or, decide_eq_true_eq] at hnp
      unfold ev_cok at hck
      dsimp only at hck
      rw [Bool.and_eq_true] at hck
      have hrec := hck.2
      cases hrv : (st.take (ev_np k)).reverse with
      | nil => rw [hrv] at hrevlen; simp at hrevlen; omega
      | cons recv tl =>
        rw [hrv] at hrec hM hsplit hrevlen
        have key : ∃ ad, ev_vl base ra fv recv = .ref ad := by
          have hrec2 : (match (some recv : Option Value) with
            | some (.ref _) => true
            | _ => false) = true := hrec
          clear hrec
          split at hrec2
          next b hb => cases hb; exact ⟨_, rfl⟩
          next => cases hrec2
        obtain ⟨ad, hvr⟩ := key
        have hst : st.map (ev_vl base ra fv) = (tl.map (ev_vl base ra fv)).reverse ++ .ref ad :: (st.drop (ev_np k)).map (ev_vl base ra fv) := by
          rw [hsplit, List.map_cons, hvr, List.reverse_cons, List.append_assoc]
          rfl
        have hpre := ev_Pc_pre Fr0 (recv :: tl) hP hS hz
        rw [List.map_cons, hvr] at hpre
        have hwn : ev_ws k = Cond.code (ev_y k) (ev_b k) (ev_L k) none :: ev_UW := by rw [ev_ws, hret]
        rcases hml with hml | hml
        · have hlk : Cond.methodLink (ev_cn (ev_o mi)) ix (ev_y k) ∈ ev_UW := ev_mls_in (e := (3, ev_o mi, ix, k)) hml
          have hrun := va_runI (As := tl.map (ev_vl base ra fv)) (rest := (st.drop (ev_np k)).map (ev_vl base ra fv)) (b := ad) (g := F0 m ((ev_pb mi).getD pc 0) lsC (st.map (ev_vl base ra fv))) (cells := cells) (slots := slots) (locs := locs) (below := below) (e := e) (meth := meth) ⟨Fx, Fb, Fl, Fo, Fw⟩ hM
            (cwI (R := R) (index := ix) (n := ev_np k - 1) (y := ev_y k) (bytes := ev_b k) (maxL := ev_L k) (ws := ev_ws k) (ws' := ev_UW) (rm := ev_rm d mc) Fw (ev_goodOf (ev_ws_in hk)) hwn rfl rfl (Fw _ (by rw [d1]; exact ev_init_in d6)) (Fw _ hlk) (Fw _ (ev_inm_in hinm)) hnm ⟨d2, d3, d7⟩ ⟨hR1, by show 8 + (ev_L k + 11) + 64 * d ≤ R.locals; omega⟩)
            ⟨ev_Pc_blind _ _, hpre⟩ rfl (by rw [List.length_map]; simp at hrevlen; omega) hlz hst (lv_room hroom) hd ⟨hcr, hsr⟩
          exact ew_cont (a := #[]) hrun hS (fun _ q => q) (K2 _ hnx)
        · have hlk : va_Nw (.methodLinkNest (ev_cn (ev_o mi)) ix (ev_y k) "TenPledges") s := FR.2.2.2.2.1 (4, ev_o mi, ix, k) hml
          have hrun := va_runIN (As := tl.map (ev_vl base ra fv)) (rest := (st.drop (ev_np k)).map (ev_vl base ra fv)) (b := ad) (g := F0 m ((ev_pb mi).getD pc 0) lsC (st.map (ev_vl base ra fv))) (cells := cells) (slots := slots) (locs := locs) (below := below) (e := e) (meth := meth) ⟨Fx, Fb, Fl, Fo, Fw⟩ hM
            ⟨va_cnB (R := R) (index := ix) (n := ev_np k - 1) (y := ev_y k) (host := "TenPledges") (bytes := ev_b k) (maxL := ev_L k) (ret := none) (ws := ev_ws k) (ws' := ev_UW) (rm := ev_rm d mc) Fw (ev_goodOf (ev_ws_in hk)) hwn rfl rfl hlk (Fw _ (by rw [d1]; exact ev_init_in d6)) ⟨d2, d3, d7⟩ ⟨hR1, by show 8 + (ev_L k + 11) + 64 * d ≤ R.locals; omega⟩, hnm, Fw _ (ev_inm_in hinm)⟩
            ⟨ev_Pc_blind _ _, hpre⟩ rfl (by rw [List.length_map]; simp at hrevlen; omega) hlz hst (lv_room hroom) hd ⟨hcr, hsr⟩
          exact ew_cont (a := #[]) hrun hS (fun _ q => q) (K2 _ hnx)
    · cases hr
  · exact absurd rfl h999
end CALL
