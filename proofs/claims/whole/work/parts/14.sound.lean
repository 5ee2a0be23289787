/-! All runs. -/
theorem ev_xH_len {scr : List Int32} {i : ev_I} {st st' : List Value} {h h' : ev_H} (hx : ev_xH scr i st h = some (st', h')) : h.length ≤ h'.length := by
  unfold ev_xH at hx
  repeat' (split at hx)
  all_goals first | (cases hx; done) | (cases hx; simp)
theorem ev_S_cases {scr : List Int32} {i : ev_I} {pc : Nat} {ls st : List Value} {h : ev_H} {q : ev_Q} (hs : ev_S scr i pc ls st h = some q) :
    (∃ pc' ls' st', ev_xP i pc ls st = some (pc', ls', st') ∧ q = .inl (pc', ls', st', h)) ∨
    (∃ pc' st', ev_xB i pc st = some (pc', st') ∧ q = .inl (pc', ls, st', h)) ∨
    (∃ st' h', ev_xH scr i st h = some (st', h') ∧ q = .inl (pc + 1, ls, st', h')) ∨
    (∃ v, ev_xR i st = some v ∧ q = .inr (.inl v)) ∨ (∃ k, ev_xC i = some k ∧ q = .inr (.inr k)) := by
  unfold ev_S at hs
  split at hs
  next pc' ls' st' e1 => cases hs; exact Or.inl ⟨_, _, _, e1, rfl⟩
  next =>
    split at hs
    next pc' st' e1 => cases hs; exact Or.inr (Or.inl ⟨_, _, e1, rfl⟩)
    next =>
      split at hs
      next st' h' e1 => cases hs; exact Or.inr (Or.inr (Or.inl ⟨_, _, e1, rfl⟩))
      next =>
        split at hs
        next v e1 => cases hs; exact Or.inr (Or.inr (Or.inr (Or.inl ⟨_, e1, rfl⟩)))
        next =>
          split at hs
          next k e1 => cases hs; exact Or.inr (Or.inr (Or.inr (Or.inr ⟨_, e1, rfl⟩)))
          next => cases hs
/-- the instruction that ends a method with this answer -/
def ev_rd (mi pc1 : Nat) (v : Option Value) : Prop := match v with
  | none => decode (ev_b mi) pc1 = .ok (.return_, 1) ∧ ev_r mi = none
  | some (.int x) => decode (ev_b mi) pc1 = .ok (.ireturn, 1) ∧ ∃ ty, ev_r mi = some ty ∧ narrow ty (.int x) = .int x
  | some (.long _) => decode (ev_b mi) pc1 = .ok (.lreturn, 1) ∧ ev_r mi = some .long
  | some (.retAddr x) => decode (ev_b mi) pc1 = .ok (.areturn, 1) ∧ ev_r mi = some (.object "java/lang/String") ∧ ¬ x = 4
  | _ => False
theorem ev_xR_rd {mi pc : Nat} (hmi : mi < 214) {i : ev_I} {st : List Value} {v : Option Value} (hf : ev_ft (ev_cd mi) pc = some i) (hx : ev_xR i st = some v) : ev_rd mi ((ev_pb mi).getD pc 0) v ∧ st = v.toList := by
  have hok := ev_okL_at _ _ _ _ _ _ _ _ _ (ev_ok mi hmi) hf
  unfold ev_xR at hx
  split at hx
  · cases hx
  · split at hx
    · split at hx
      · cases hx
        obtain ⟨raw, len, hd, hr⟩ := ev_okI_dec hok (by intro h; cases h) (by intro h; cases h)
        simp only [ev_okR, Bool.and_eq_true, decide_eq_true_eq] at hr
        obtain ⟨⟨rfl, rfl⟩, hret⟩ := hr
        exact ⟨⟨hd, hret⟩, rfl⟩
      · cases hx
    · split at hx
      · cases hx
        obtain ⟨raw, len, hd, hr⟩ := ev_okI_dec hok (by intro h; cases h) (by intro h; cases h)
        simp only [ev_okR, Bool.and_eq_true, decide_eq_true_eq] at hr
        obtain ⟨⟨rfl, rfl⟩, hret⟩ := hr
        exact ⟨⟨hd, _, hret, rfl⟩, rfl⟩
      · cases hx
    · split at hx
      next x =>
        split at hx
        next hn =>
          cases hx
          obtain ⟨raw, len, hd, hr⟩ := ev_okI_dec hok (by intro h; cases h) (by intro h; cases h)
          simp only [ev_okR, Bool.and_eq_true, decide_eq_true_eq] at hr
          obtain ⟨⟨rfl, rfl⟩, hret⟩ := hr
          refine ⟨⟨hd, _, hret, ?_⟩, rfl⟩
          unfold ev_nrw at hn
          unfold ev_rt
          split at hn
          · have hb01 : x = 0 ∨ x = 1 := by simpa [ev_bz] using hn
            rcases hb01 with rfl | rfl <;> rfl
          · exact of_decide_eq_true hn
          next h0 h1 =>
            split
            · exact absurd rfl h0
            · exact absurd rfl h1
            · exact of_decide_eq_true hn
        next => cases hx
      next => cases hx
    · split at hx
      · cases hx
        obtain ⟨raw, len, hd, hr⟩ := ev_okI_dec hok (by intro h; cases h) (by intro h; cases h)
        simp only [ev_okR, Bool.and_eq_true, decide_eq_true_eq] at hr
        obtain ⟨⟨rfl, rfl⟩, hret⟩ := hr
        exact ⟨⟨hd, hret⟩, rfl⟩
      · cases hx
    · split at hx
      next x =>
        split at hx
        · cases hx
        next hn =>
          cases hx
          obtain ⟨raw, len, hd, hr⟩ := ev_okI_dec hok (by intro h; cases h) (by intro h; cases h)
          simp only [ev_okR, Bool.and_eq_true, decide_eq_true_eq] at hr
          obtain ⟨⟨rfl, rfl⟩, hret⟩ := hr
          refine ⟨⟨hd, hret, fun q => ?_⟩, rfl⟩
          subst q
          cases hn
      next => cases hx
    · cases hx
section SOUND
variable (base : Nat) (ra : Nat → Nat) (fv : Value) (aC : Nat → ClassId) (D : va_G) (scr : List Int32) (l : Launch)
def ev_G (d mi pc : Nat) (ls st : List Value) (h : ev_H) (v : Option Value) (h' : ev_H) : Prop :=
  ∀ {p : Program} {e : Env} {R : Room} {s : State} {m : MethodId} {args : Array Value} {below : List Frame} {meth : Method} {c : Code} {H : Heap} {locs : List Loc} {cells slots : Nat} {Q : State → Prop} {lsC : Array Slot}, ev_F base ra fv aC D scr p s m args meth c mi → d ≤ R.frames → 64 * d ≤ R.locals → cells + (h'.length - h.length) ≤ R.cells → slots + 200 * (h'.length - h.length) ≤ R.slots → ev_LH base ra fv lsC (ev_L mi) ls → va_P D ev_cl (ev_cw base ra fv aC h) H → va_S (ev_A base) s.heap H locs → H.size = base + h.length →
  (∀ H1 locs1 pc1 lsC1, va_P D ev_cl (ev_cw base ra fv aC h') H1 → va_S (ev_A base) s.heap H1 locs1 → H1.size = base + h'.length → ev_rd mi pc1 v → W p l e R s m args below meth c H1 locs1 (cells + (h'.length - h.length)) (slots + 200 * (h'.length - h.length)) Q (F0 m pc1 lsC1 (v.toList.map (ev_vl base ra fv)))) →
  W p l e R s m args below meth c H locs cells slots Q (F0 m ((ev_pb mi).getD pc 0) lsC (st.map (ev_vl base ra fv)))
theorem ev_slen : ∀ (vs : List Value), (lg_sl vs).length = ev_wd vs
  | [] => rfl
  | v :: vs => by
    have ih := ev_slen vs
    unfold lg_sl at ih ⊢
    rw [List.flatMap_cons, List.length_append, ih, ev_wd]
    by_cases hc : v.category = 2
    · rw [if_pos hc, hc]; rfl
    · rw [if_neg hc]
      have : v.category = 1 := (lv_cat v).elim id (fun q => absurd q hc)
      rw [this]; rfl
theorem ev_wd_map (hfv : fv = .null ∨ ∃ t, fv = .ref t) : ∀ (vs : List Value), ev_wd (vs.map (ev_vl base ra fv)) = ev_wd vs
  | [] => rfl
  | v :: vs => by rw [List.map_cons, ev_wd, ev_wd, ev_wd_map hfv vs, ev_vl_cat hfv]
theorem ev_wd_app : ∀ (a b : List Value), ev_wd (a ++ b) = ev_wd a + ev_wd b
  | [], b => by rw [List.nil_append, ev_wd, Nat.zero_add]
  | v :: a, b => by rw [List.cons_append, ev_wd, ev_wd, ev_wd_app a b, Nat.add_assoc]
theorem ev_wd_rev : ∀ (a : List Value), ev_wd a.reverse = ev_wd a
  | [] => rfl
  | v :: a => by rw [List.reverse_cons, ev_wd_app, ev_wd_rev a, ev_wd, ev_wd, ev_wd, Nat.add_zero, Nat.add_comm]
variable {base ra fv aC D scr l}
theorem ev_toMet (hfv : fv = .null ∨ ∃ t, fv = .ref t) {k d : Nat} {as : List Value} {h h' : ev_H} {v : Option Value} (hk : k < 213) (G : ev_G base ra fv aC D scr l d k 0 (ev_lay as (ev_L k)) [] h v h') (hw : ev_wd as ≤ ev_L k) :
    Met l (ev_y k) (ev_ws k) (ev_rm d (h'.length - h.length)) (ev_Pc base ra fv aC D scr as h) (ev_Qc base ra fv aC D v h') (h'.length - h.length) (200 * (h'.length - h.length)) (ev_A base) := by
  refine va_MetF (cc := ev_b k) (maxL := ev_L k) (ret := ev_r k) (ws' := ev_UW) (ev_all ev_plain (by omega)) rfl ?_
  intro p e s m args below meth c s₁ B hml hv
  obtain ⟨rfl, hsz, hP, hK, hR⟩ := hv
  obtain ⟨d1, d2, d3, d4, d5, d6, d7⟩ := ev_dsc hk
  have hown : s.vm.findClass (ev_y k).cls = some m.cls := findClass_of_methodNamed B.named
  rw [d1] at hown
  have hts := atoms_spec (ws := ev_ws k) B.pre
  have hlocks := B.notSynchronized
  have Fr : ev_F base ra fv aC D scr p s m ((as.map (ev_vl base ra fv)).toArray) meth c k := ⟨B.exec, B.bytes, B.returns, hml, hown, fun w hw => hts w (List.mem_cons_of_mem _ hw), hlocks, fun q => (name_of_methodNamed B.named B.method).1.trans q, hK, hR, by rw [hsz]; omega⟩
  have hsl : (lg_sl (as.map (ev_vl base ra fv))).length ≤ ev_L k := by rw [ev_slen, ev_wd_map base ra fv hfv]; exact hw
  have hl := lv_entry (as.map (ev_vl base ra fv)) (n := ev_L k) hsl
  rw [lg_entry_eq]
  generalize (lg_sl (as.map (ev_vl base ra fv)) ++ List.replicate (ev_L k - (lg_sl (as.map (ev_vl base ra fv))).length) Slot.unset).toArray = lsC at hl ⊢
  have hmap : ∀ (vs : List Value) (i0 : Nat), lv_args i0 (vs.map (ev_vl base ra fv)) = (lv_args i0 vs).map (fun q => (q.1, ev_vl base ra fv q.2)) := by
    intro vs
    induction vs with
    | nil => intro i0; rfl
    | cons v vs ih =>
      intro i0
      rw [List.map_cons, lv_args, lv_args, List.map_cons, ev_vl_cat hfv, ih]
  have hLH : ev_LH base ra fv lsC (ev_L k) (ev_lay as (ev_L k)) := by
    refine ⟨hl.1, hl.2.1, ev_lay_len _ _, fun i w hw2 hkn => ?_, fun i x hx => ev_lay_long _ _ i x hx⟩
    have h1 := ev_lay_at as (ev_L k) 0 i w hw2 hkn
    refine hl.2.2 (i, ev_vl base ra fv w) ?_
    rw [hmap]
    rw [Nat.zero_add] at h1
    exact List.mem_map.mpr ⟨_, h1, rfl⟩
  have key := G (p := p) (e := e) (R := ev_rm d (h'.length - h.length)) (s := s) (m := m) (below := below) (meth := meth) (c := c) (H := s.heap) (locs := []) (cells := 0) (slots := 0) (Q := MQ below (ev_Qc base ra fv aC D v h') ((as.map (ev_vl base ra fv)).toArray) s (h'.length - h.length) (200 * (h'.length - h.length)) (ev_A base)) (lsC := lsC) Fr (Nat.le_refl _) (Nat.le_refl _) (by rw [Nat.zero_add]; exact Nat.le_refl _) (by rw [Nat.zero_add]; exact Nat.le_refl _) hLH hP va_S.rf hsz ?_
  · rw [d5] at key
    exact key
  · intro H1 locs1 pc1 lsC1 hP1 hS1 hz1 hrd
    rw [Nat.zero_add, Nat.zero_add]
    have Fx := B.exec
    have Fb := B.bytes
    have hr := B.returns
    have hq : ∀ t : State, t.heap = H1 → s.WarmedH t.vm → ev_Qc base ra fv aC D v h' ((as.map (ev_vl base ra fv)).toArray) s (.returned (v.map (ev_vl base ra fv))) t := fun t ht _ => ⟨rfl, ⟨by rw [ht]; exact hz1, by rw [ht]; exact hP1⟩, hS1.F ht⟩
    match v, hrd, hq with
    | none, hrd, hq => exact W.vret Fx Fb (hr.trans hrd.2) hq hS1.2.2 hrd.1 hlocks
    | some (.int x), hrd, hq =>
      obtain ⟨hd, ty, hty, hn⟩ := hrd
      exact W.zret Fx Fb (hr.trans hty) hn hq hS1.2.2 hd hlocks
    | some (.long x), hrd, hq => exact W.lret Fx Fb (hr.trans hrd.2) hq hS1.2.2 hrd.1 hlocks
    | some (.retAddr x), hrd, hq =>
      have e1 : ev_vl base ra fv (.retAddr x) = .ref (ra x) := if_neg hrd.2.2
      simp only [Option.map_some, e1] at hq
      simp only [Option.toList_some, List.map_cons, List.map_nil, e1]
      exact W.aret Fx Fb (hr.trans hrd.2.1) (Or.inl ⟨_, rfl⟩) (Or.inr ⟨_, rfl⟩) hq hS1.2.2 hrd.1 hlocks
set_option maxHeartbeats 4000000 in
theorem ev_sound (hfv : fv = .null ∨ ∃ t, fv = .ref t) : ∀ (n d mi pc : Nat) (ls st : List Value) (h : ev_H) (v : Option Value) (h' : ev_H), mi < 214 → ev_E scr n d (ev_cd mi) pc ls st h = some (v, h') → h.length ≤ h'.length ∧ ev_G base ra fv aC D scr l d mi pc ls st h v h' := by
  intro n
  induction n with
  | zero => intro d mi pc ls st h v h' hmi hE; cases hE
  | succ n ih =>
    intro d mi pc ls st h v h' hmi hE
    unfold ev_E at hE
    cases hf : ev_ft (ev_cd mi) pc with
    | none => rw [hf] at hE; cases hE
    | some i =>
      rw [hf] at hE
      dsimp only at hE
      cases hs : ev_S scr i pc ls st h with
      | none => rw [hs] at hE; cases hE
      | some q =>
        rw [hs] at hE
        rcases ev_S_cases hs with ⟨pc', ls', st', hx, rfl⟩ | ⟨pc', st', hx, rfl⟩ | ⟨st', h1, hx, rfl⟩ | ⟨v1, hx, rfl⟩ | ⟨k, hx, rfl⟩
        · obtain ⟨hg, G⟩ := ih d mi pc' ls' st' h v h' hmi hE
          refine ⟨hg, ?_⟩
          intro p e R s m args below meth c H locs cells slots Q lsC Fr hR1 hR2 hcr hsr hLH hP hS hz hQ
          exact ev_wP hfv Fr hmi hf hx hLH hS (fun lsC1 h1 => G Fr hR1 hR2 hcr hsr h1 hP hS hz hQ)
        · obtain ⟨hg, G⟩ := ih d mi pc' ls st' h v h' hmi hE
          refine ⟨hg, ?_⟩
          intro p e R s m args below meth c H locs cells slots Q lsC Fr hR1 hR2 hcr hsr hLH hP hS hz hQ
          exact ev_wB Fr hmi hf hx (G Fr hR1 hR2 hcr hsr hLH hP hS hz hQ)
        · obtain ⟨hg, G⟩ := ih d mi (pc + 1) ls st' h1 v h' hmi hE
          have hl := ev_xH_len hx
          refine ⟨by omega, ?_⟩
          intro p e R s m args below meth c H locs cells slots Q lsC Fr hR1 hR2 hcr hsr hLH hP hS hz hQ
          refine ev_wH Fr hmi hf hx hP hS hz (by omega) (by omega) (fun H1 locs1 hP1 hS1 hz1 => ?_)
          refine G Fr hR1 hR2 (by omega) (by omega) hLH hP1 hS1 hz1 (fun H2 locs2 pc2 lsC2 q1 q2 q3 q4 => ?_)
          have key := hQ H2 locs2 pc2 lsC2 q1 q2 q3 q4
          rw [show cells + (h1.length - h.length) + (h'.length - h1.length) = cells + (h'.length - h.length) by omega, show slots + 200 * (h1.length - h.length) + 200 * (h'.length - h1.length) = slots + 200 * (h'.length - h.length) by omega]
          exact key
        · cases hE
          obtain ⟨hrd, hst⟩ := ev_xR_rd hmi hf hx
          refine ⟨Nat.le_refl _, ?_⟩
          intro p e R s m args below meth c H locs cells slots Q lsC Fr hR1 hR2 hcr hsr hLH hP hS hz hQ
          have key := hQ H locs ((ev_pb mi).getD pc 0) lsC hP hS hz hrd
          rw [Nat.sub_self, Nat.mul_zero, Nat.add_zero, Nat.add_zero] at key
          rw [hst]
          exact key
        · dsimp only at hE
          cases d with
          | zero => cases hE
          | succ d =>
            dsimp only at hE
            cases hp : ev_pr k with
            | none =>
              rw [hp] at hE
              dsimp only at hE
              split at hE
              next a r hk9 =>
                obtain ⟨hg, G⟩ := ih (d + 1) mi (pc + 1) ls r h v h' hmi hE
                refine ⟨hg, ?_⟩
                intro p e R s m args below meth c H locs cells slots Q lsC Fr hR1 hR2 hcr hsr hLH hP hS hz hQ
                have hk9 : (Nat.beq k 999 && Nat.ble (Value.ref a :: r).length 5) = true := by assumption
                rw [Bool.and_eq_true, Nat.ble_eq] at hk9
                have hk8 : k = 999 := Nat.eq_of_beq_eq_true hk9.1
                have hok := ev_okL_at _ _ _ _ _ _ _ _ _ (ev_ok mi hmi) hf
                have K := G Fr hR1 hR2 hcr hsr hLH hP hS hz hQ
                obtain ⟨Fx, Fb, Fr1, Fl, Fo, Fw, -, -, FK, FR, -⟩ := Fr
                obtain ⟨raw, len, hd, hr⟩ := ev_okI_dec hok (by rintro rfl; cases hx) (by rintro rfl; cases hx)
                rcases ev_xC_of hx with rfl | rfl | rfl | ⟨rfl, -⟩
                · simp only [ev_okR] at hr
                  split at hr
                  · simp only [Bool.and_eq_true, decide_eq_true_eq] at hr
                    have hmk := List.all_eq_true.mp ev_mls_ok _ hr.2
                    simp only [Bool.and_eq_true, decide_eq_true_eq] at hmk
                    omega
                  · cases hr
                · simp only [ev_okR] at hr
                  split at hr
                  · simp only [Bool.and_eq_true, decide_eq_true_eq, Bool.or_eq_true] at hr
                    rcases hr.2 with q | q
                    · have hmk := List.all_eq_true.mp ev_mls_ok _ q
                      simp only [Bool.and_eq_true, decide_eq_true_eq] at hmk
                      omega
                    · have hmk := List.all_eq_true.mp ev_mns_ok _ q
                      simp only [Bool.and_eq_true, decide_eq_true_eq] at hmk
                      omega
                  · cases hr
                · simp only [ev_okR] at hr
                  split at hr
                  · simp only [Bool.and_eq_true, decide_eq_true_eq, Bool.or_eq_true] at hr
                    rcases hr.2 with q | q
                    · have hmk := List.all_eq_true.mp ev_mls_ok _ q
                      simp only [Bool.and_eq_true, decide_eq_true_eq] at hmk
                      omega
                    · have hmk := List.all_eq_true.mp ev_mns_ok _ q
                      simp only [Bool.and_eq_true, decide_eq_true_eq] at hmk
                      omega
                  · cases hr
                · simp only [ev_okR] at hr
                  split at hr
                  next ix =>
                    simp only [Bool.and_eq_true, decide_eq_true_eq] at hr
                    obtain ⟨⟨rfl, hnx⟩, hmo⟩ := hr
                    rw [hnx] at K
                    have h8 := ev_sum8 (r.map (ev_vl base ra fv))
                    have h9 := hk9.2
                    simp only [List.length_cons, List.length_map] at h8 h9
                    refine W.objInit Fx Fb Fo (Fw _ (ev_mos_in hmo)) (Fw _ ev_obi) (Fw _ ev_obc) rfl (hLH.1.trans Fl.symm) rfl hd (by omega) ?_ K
                    show 2 * 0 + _ + 12 ≤ R.locals
                    omega
                  · cases hr
              next => cases hE
            | some M =>
              obtain ⟨cd', mL, np, own⟩ := M
              obtain ⟨hk, rfl, rfl, rfl, rfl⟩ := ev_pr_of hp
              rw [hp] at hE
              dsimp only at hE
              cases hc : (ev_cok i st (ev_np k) (ev_o k) h && Nat.ble (ev_wd (st.take (ev_np k))) (ev_L k)) with
              | false => rw [hc] at hE; cases hE
              | true =>
                rw [hc] at hE
                dsimp only at hE
                rw [Bool.and_eq_true, Nat.ble_eq] at hc
                cases he : ev_E scr n d (ev_cd k) 0 (ev_lay (st.take (ev_np k)).reverse (ev_L k)) [] h with
                | none => rw [he] at hE; cases hE
                | some w =>
                  obtain ⟨v1, h1⟩ := w
                  rw [he] at hE
                  dsimp only at hE
                  obtain ⟨hg1, G1⟩ := ih d k 0 _ [] h v1 h1 hk he
                  obtain ⟨hg, G⟩ := ih (d + 1) mi (pc + 1) ls _ h1 v h' hmi hE
                  refine ⟨by omega, ?_⟩
                  intro p e R s m args below meth c H locs cells slots Q lsC Fr hR1 hR2 hcr hsr hLH hP hS hz hQ
                  refine ev_wC (d := d) (mc := h1.length - h.length) (v := v1) (h' := h1) Fr hmi hf hx (by omega) hc.1 (fun hk3 => ev_toMet hfv hk3 G1 (by rw [ev_wd_rev]; exact hc.2)) hLH.1 hP hS hz hR1 hR2 (by omega) (by omega) hfv (fun H1 locs1 hP1 hS1 hz1 => ?_)
                  refine G Fr hR1 hR2 (by omega) (by omega) hLH hP1 hS1 hz1 (fun H2 locs2 pc2 lsC2 q1 q2 q3 q4 => ?_)
                  have key := hQ H2 locs2 pc2 lsC2 q1 q2 q3 q4
                  rw [show cells + (h1.length - h.length) + (h'.length - h1.length) = cells + (h'.length - h.length) by omega, show slots + 200 * (h1.length - h.length) + 200 * (h'.length - h1.length) = slots + 200 * (h'.length - h.length) by omega]
                  exact key
end SOUND
