theorem ev_zip_in {α : Type} {β : Type} {xs : List α} {ys : List β} (hl : xs.length ≤ ys.length) {x : α} (h : x ∈ xs) : ∃ y, (x, y) ∈ xs.zip ys := by
  obtain ⟨i, hi⟩ := List.getElem?_of_mem h
  have h1 := (List.getElem?_eq_some_iff.mp hi).1
  refine ⟨ys[i]'(by omega), List.mem_of_getElem? (i := i) ?_⟩
  rw [List.getElem?_zip_eq_some]
  exact ⟨hi, List.getElem?_eq_getElem (by omega)⟩
theorem ev_word {i : Nat} {w : Cond} (h : (decide (tables_1[i]? = some w) && goodWord w) = true) : w ∈ ev_UW := by
  simp only [Bool.and_eq_true, decide_eq_true_eq] at h
  exact ev_mem i h.1 h.2
theorem ev_cons_in {e : Nat × Nat × Int32} (h : e ∈ ev_cons) : Cond.constant (ev_cn e.1) e.2.1 e.2.2 ∈ ev_UW := by
  obtain ⟨q, hq⟩ := ev_zip_in (ys := ev_conp) (by decide) h
  exact ev_word (List.all_eq_true.mp ev_cons_ok _ hq)
theorem ev_lcons_in {e : Nat × Nat × Int64} (h : e ∈ ev_lcons) : Cond.constantLong (ev_cn e.1) e.2.1 e.2.2 ∈ ev_UW := by
  obtain ⟨q, hq⟩ := ev_zip_in (ys := ev_lconp) (by decide) h
  exact ev_word (List.all_eq_true.mp ev_lcons_ok _ hq)
theorem ev_stats_in {e : Nat × Nat × Nat} (h : e ∈ ev_stats) : ev_stw e ∈ ev_UW := by
  obtain ⟨q, hq⟩ := ev_zip_in (ys := ev_statp) (by decide) h
  exact ev_word (List.all_eq_true.mp ev_stats_ok _ hq)
theorem ev_stats_lt {e : Nat × Nat × Nat} (h : e ∈ ev_stats) : e.2.2 < 5 := by
  have h0 : ev_stats.all (fun e => decide (e.2.2 < 5)) = true := by decide
  simpa using List.all_eq_true.mp h0 e h
theorem ev_strs_n4 (e : Nat × Nat) (h : e ∈ ev_strs) : ¬ e.2 = 4 := by
  have h0 : ev_strs.all (fun e => decide (¬ e.2 = 4)) = true := by decide
  simpa using List.all_eq_true.mp h0 e h
theorem ev_sfs_in {e : Nat × Nat × Nat} (h : e ∈ ev_sfs) : ev_sfw e ∈ ev_UW := by
  obtain ⟨q, hq⟩ := ev_zip_in (ys := ev_sfp) (by decide) h
  exact ev_word (List.all_eq_true.mp ev_sfs_ok _ hq)
theorem ev_fls_in {e : Nat × Nat × Nat} (h : e ∈ ev_fls) : ev_flw e ∈ ev_UW := by
  obtain ⟨q, hq⟩ := ev_zip_in (ys := ev_flp) (by decide) h
  exact ev_word (List.all_eq_true.mp ev_fls_ok _ hq)
theorem ev_cls_in {e : Nat × Nat × Nat} (h : e ∈ ev_cls) : Cond.classLink (ev_cn e.1) e.2.1 (ev_cn e.2.2) ∈ ev_UW := by
  obtain ⟨q, hq⟩ := ev_zip_in (ys := ev_clp) (by decide) h
  exact ev_word (List.all_eq_true.mp ev_cls_ok _ hq)
theorem ev_mos_in {e : Nat × Nat} (h : e ∈ ev_mos) : Cond.methodLink (ev_cn e.1) e.2 Lib.objectInit ∈ ev_UW := by
  obtain ⟨q, hq⟩ := ev_zip_in (ys := ev_mop) (by decide) h
  exact ev_word (List.all_eq_true.mp ev_mos_ok _ hq)
theorem ev_init_in {c : Nat} (h : c < 13) : Cond.initialized (ev_cn c) ∈ ev_UW := by
  have h1 : c ∈ [0, 1, 2, 3, 4, 5, 6, 7, 8, 9, 10, 11, 12] := by
    rcases c with _ | _ | _ | _ | _ | _ | _ | _ | _ | _ | _ | _ | _ | c <;> first | decide | omega
  have h2 := ev_init_ok
  obtain ⟨i, hi⟩ := List.getElem?_of_mem h1
  have h3 := (List.getElem?_eq_some_iff.mp hi).1
  have h4 : ∀ (xs : List Nat), xs.length = 13 → (xs.zip [0, 1, 2, 3, 4, 5, 6, 7, 8, 9, 10, 11, 12]).all (fun e => decide (tables_1[e.1]? = some (Cond.initialized (ev_cn e.2))) && goodWord (Cond.initialized (ev_cn e.2))) = true → Cond.initialized (ev_cn c) ∈ ev_UW := by
    intro xs hxs hall
    have hm : (xs[i]'(by rw [hxs]; exact h3), c) ∈ xs.zip [0, 1, 2, 3, 4, 5, 6, 7, 8, 9, 10, 11, 12] := by
      refine List.mem_of_getElem? (i := i) ?_
      rw [List.getElem?_zip_eq_some]
      exact ⟨List.getElem?_eq_getElem (by rw [hxs]; exact h3), hi⟩
    exact ev_word (List.all_eq_true.mp hall _ hm)
  exact h4 _ rfl h2
theorem ev_inst_in {c : Nat} (h : c < 7) : Cond.instantiable (ev_cn c) (ev_N c) ∈ ev_UW := by
  have h1 : c ∈ [0, 1, 2, 3, 4, 5, 6] := by
    rcases c with _ | _ | _ | _ | _ | _ | _ | c <;> first | decide | omega
  have h2 := ev_inst_ok
  obtain ⟨i, hi⟩ := List.getElem?_of_mem h1
  have h3 := (List.getElem?_eq_some_iff.mp hi).1
  have h4 : ∀ (xs : List Nat), xs.length = 7 → (xs.zip [0, 1, 2, 3, 4, 5, 6]).all (fun e => decide (tables_1[e.1]? = some (Cond.instantiable (ev_cn e.2) (ev_N e.2))) && goodWord (Cond.instantiable (ev_cn e.2) (ev_N e.2))) = true → Cond.instantiable (ev_cn c) (ev_N c) ∈ ev_UW := by
    intro xs hxs hall
    have hm : (xs[i]'(by rw [hxs]; exact h3), c) ∈ xs.zip [0, 1, 2, 3, 4, 5, 6] := by
      refine List.mem_of_getElem? (i := i) ?_
      rw [List.getElem?_zip_eq_some]
      exact ⟨List.getElem?_eq_getElem (by rw [hxs]; exact h3), hi⟩
    exact ev_word (List.all_eq_true.mp hall _ hm)
  exact h4 _ rfl h2
theorem ev_inc_eq (n : Int) (x : Int32) : x + Int32.ofInt n = ev_inc n x := by
  unfold ev_inc
  split
  · rfl
  · rfl
/-! A step of the machine of our own is a walk of the kit's machine. -/
theorem ev_okL_at (oi : Nat) (ini : Bool) (ret : Option FieldType) (b : ByteArray) (pb : List Nat) : ∀ (cd : List ev_I) (ps : List Nat) (i : Nat) (ins : ev_I), ev_okL oi ini ret b pb cd ps = true → ev_ft cd i = some ins → ev_okI oi ini ret b pb (ps.getD i 0) (ps.getD (i + 1) 0) ins = true
  | [], _, i, ins, _, h2 => by cases i <;> cases h2
  | a :: cd, [], i, ins, h1, _ => by cases h1
  | a :: cd, p :: ps, 0, ins, h1, h2 => by
    cases h2
    simp only [ev_okL, Bool.and_eq_true] at h1
    exact h1.1
  | a :: cd, p :: ps, i + 1, ins, h1, h2 => by
    simp only [ev_okL, Bool.and_eq_true] at h1
    exact ev_okL_at oi ini ret b pb cd ps i ins h1.2 h2
theorem ev_okI_dec {oi : Nat} {ini : Bool} {ret : Option FieldType} {b : ByteArray} {pb : List Nat} {pc nx : Nat} {i : ev_I} (h : ev_okI oi ini ret b pb pc nx i = true) (h1 : i ≠ .inl .nop) (h2 : i ≠ .inl .athrow) : ∃ raw len, decode b pc = .ok (raw, len) ∧ ev_okR oi ini ret pb pc nx len i raw = true := by
  unfold ev_okI at h
  split at h
  · exact absurd rfl h1
  · exact absurd rfl h2
  · split at h
    next raw len e => exact ⟨raw, len, e, h⟩
    next => cases h
section STEP
variable {base : Nat} {ra : Nat → Nat} {fv : Value} {aC : Nat → ClassId} {D : va_G} {scr : List Int32}
variable {p : Program} {l : Launch} {e : Env} {R : Room} {s : State} {m : MethodId} {args : Array Value} {below : List Frame} {meth : Method} {c : Code} {H : Heap} {locs : List Loc} {cells slots : Nat} {Q : State → Prop} {mi : Nat}
set_option maxHeartbeats 4000000 in
theorem ev_wP (hfv : fv = .null ∨ ∃ t, fv = .ref t) (Fr : ev_F base ra fv aC D scr p s m args meth c mi) (hmi : mi < 214) {i : ev_I} {pc pc' : Nat} {ls st ls' st' : List Value} (hf : ev_ft (ev_cd mi) pc = some i) (hx : ev_xP i pc ls st = some (pc', ls', st')) {lsC : Array Slot} (hLH : ev_LH base ra fv lsC (ev_L mi) ls) (hS : va_S (ev_A base) s.heap H locs)
    (K : ∀ lsC1, ev_LH base ra fv lsC1 (ev_L mi) ls' → W p l e R s m args below meth c H locs cells slots Q (F0 m ((ev_pb mi).getD pc' 0) lsC1 (st'.map (ev_vl base ra fv)))) :
    W p l e R s m args below meth c H locs cells slots Q (F0 m ((ev_pb mi).getD pc 0) lsC (st.map (ev_vl base ra fv))) := by
  have hok := ev_okL_at _ _ _ _ _ _ _ _ _ (ev_ok mi hmi) hf
  obtain ⟨Fx, Fb, Fr1, Fl, Fo, Fw, -, -, FK, FR, -⟩ := Fr
  cases i with
  | inr v =>
    cases hx
    obtain ⟨raw, len, hd, hr⟩ := ev_okI_dec hok (by intro h; cases h) (by intro h; cases h)
    simp only [ev_okR, Bool.and_eq_true, decide_eq_true_eq] at hr
    obtain ⟨hnx, hr⟩ := hr
    have K := K lsC hLH
    rw [hnx] at K
    split at hr
    · simp only [Bool.and_eq_true, decide_eq_true_eq] at hr
      obtain ⟨rfl, rfl⟩ := hr
      exact lv_iconst Fx Fb hd rfl K
    · simp only [Bool.and_eq_true, decide_eq_true_eq] at hr
      obtain ⟨rfl, rfl⟩ := hr
      exact lv_bipush Fx Fb hd rfl K
    · simp only [Bool.and_eq_true, decide_eq_true_eq] at hr
      obtain ⟨rfl, rfl⟩ := hr
      exact lv_sipush Fx Fb hd rfl K
    · simp only [Bool.and_eq_true, decide_eq_true_eq] at hr
      obtain ⟨rfl, rfl⟩ := hr
      exact lv_lconst Fx Fb hd rfl K
    · simp only [Bool.and_eq_true, decide_eq_true_eq] at hr
      obtain ⟨rfl, hr⟩ := hr
      split at hr
      · exact lv_ldc Fx Fb Fo (Fw _ (ev_cons_in (of_decide_eq_true hr))) hd K
      · simp only [Bool.and_eq_true, decide_eq_true_eq] at hr
        obtain ⟨ho, hm⟩ := hr
        have h4 := ev_strs_n4 _ hm
        have hR := FR.2.2.1 _ hm
        rw [ho] at Fo
        refine va_ldcS Fx Fb (own := RX3) Fo hR hd ?_
        have e1 : ev_vl base ra fv (.retAddr _) = .ref (ra _) := if_neg h4
        simp only [List.map_cons, e1] at K
        exact K
      · cases hr
    · simp only [Bool.and_eq_true, decide_eq_true_eq] at hr
      obtain ⟨rfl, hr⟩ := hr
      split at hr
      · exact lv_ldcw Fx Fb Fo (Fw _ (ev_cons_in (of_decide_eq_true hr))) hd K
      · cases hr
    · simp only [Bool.and_eq_true, decide_eq_true_eq] at hr
      obtain ⟨rfl, hr⟩ := hr
      split at hr
      · exact lv_ldc2 Fx Fb Fo (Fw _ (ev_lcons_in (of_decide_eq_true hr))) hd K
      · cases hr
    · simp only [Bool.and_eq_true, decide_eq_true_eq] at hr
      obtain ⟨rfl, hr⟩ := hr
      obtain ⟨e0, he0, h2⟩ := List.any_eq_true.mp hr
      simp only [Bool.and_eq_true, decide_eq_true_eq] at h2
      obtain ⟨⟨a1, a2⟩, rfl⟩ := h2
      have hw := Fw _ (ev_stats_in he0)
      rw [ev_stw, a1, a2] at hw
      exact va_gets Fx Fb (FR.2.2.2.1 e0.2.2 (ev_stats_lt he0)) hS Fo hw (fun _ q => q) hd K
    · cases hr
  | inl ins =>
    cases ins
    case iload k =>
      have hx : (match ev_lg ls k with
        | some (.int x) => some (pc + 1, ls, .int x :: st)
        | _ => none) = some (pc', ls', st') := hx
      split at hx
      next x hg =>
        cases hx
        have K := K lsC hLH
        obtain ⟨raw, len, hd, hr⟩ := ev_okI_dec hok (by intro h; cases h) (by intro h; cases h)
        simp only [ev_okR, Bool.and_eq_true, decide_eq_true_eq] at hr
        obtain ⟨hnx, hr⟩ := hr
        rw [hnx] at K
        have hl := hLH.2.2.2.1 k _ hg rfl
        split at hr
        · simp only [Bool.and_eq_true, decide_eq_true_eq] at hr
          obtain ⟨rfl, rfl⟩ := hr
          exact lv_iload_n Fx Fb hd rfl hl K
        · simp only [Bool.and_eq_true, decide_eq_true_eq] at hr
          obtain ⟨rfl, rfl⟩ := hr
          exact lv_iload Fx Fb hd hl K
        · cases hr
      next => cases hx
    case lload k =>
      have hx : (match ev_lg ls k with
        | some (.long x) => some (pc + 1, ls, .long x :: st)
        | _ => none) = some (pc', ls', st') := hx
      split at hx
      next x hg =>
        cases hx
        have K := K lsC hLH
        obtain ⟨raw, len, hd, hr⟩ := ev_okI_dec hok (by intro h; cases h) (by intro h; cases h)
        simp only [ev_okR, Bool.and_eq_true, decide_eq_true_eq] at hr
        obtain ⟨hnx, hr⟩ := hr
        rw [hnx] at K
        have hl := hLH.2.2.2.1 k _ hg rfl
        split at hr
        · simp only [Bool.and_eq_true, decide_eq_true_eq] at hr
          obtain ⟨rfl, rfl⟩ := hr
          exact lv_lload_n Fx Fb hd rfl hl K
        · simp only [Bool.and_eq_true, decide_eq_true_eq] at hr
          obtain ⟨rfl, rfl⟩ := hr
          exact lv_lload Fx Fb hd hl K
        · cases hr
      next => cases hx
    case aload k =>
      have hx : (match ev_lg ls k with
        | some (.ref x) => some (pc + 1, ls, .ref x :: st)
        | some (.retAddr x) => match x with
          | 4 => none
          | x => some (pc + 1, ls, .retAddr x :: st)
        | _ => none) = some (pc', ls', st') := hx
      have key : ∃ v a, ev_lg ls k = some v ∧ ev_kn v = true ∧ ev_vl base ra fv v = .ref a ∧ pc' = pc + 1 ∧ ls' = ls ∧ st' = v :: st := by
        split at hx
        next x hg => cases hx; exact ⟨_, _, hg, rfl, rfl, rfl, rfl, rfl⟩
        next x hg =>
          split at hx
          · cases hx
          next h4 =>
            cases hx
            exact ⟨_, ra x, hg, rfl, if_neg h4, rfl, rfl, rfl⟩
        next => cases hx
      obtain ⟨v, a, hg, hkn, hva, rfl, rfl, rfl⟩ := key
      have K := K lsC hLH
      obtain ⟨raw, len, hd, hr⟩ := ev_okI_dec hok (by intro h; cases h) (by intro h; cases h)
      simp only [ev_okR, Bool.and_eq_true, decide_eq_true_eq] at hr
      obtain ⟨hnx, hr⟩ := hr
      rw [hnx, List.map_cons, hva] at K
      have hl := hLH.2.2.2.1 k _ hg hkn
      rw [hva] at hl
      split at hr
      · simp only [Bool.and_eq_true, decide_eq_true_eq] at hr
        obtain ⟨rfl, rfl⟩ := hr
        exact lv_aload_n Fx Fb hd rfl hl K
      · simp only [Bool.and_eq_true, decide_eq_true_eq] at hr
        obtain ⟨rfl, rfl⟩ := hr
        exact lv_aload Fx Fb hd hl K
      · cases hr
    case istore k =>
      have hx : (match (generalizing := false) st with
        | .int x :: r => match ev_ok1 ls k with
          | true => some (pc + 1, ev_s1 ls k (.int x), r)
          | false => none
        | _ => none) = some (pc', ls', st') := hx
      split at hx
      next x r =>
        split at hx
        next hk =>
          cases hx
          obtain ⟨raw, len, hd, hr⟩ := ev_okI_dec hok (by intro h; cases h) (by intro h; cases h)
          simp only [ev_okR, Bool.and_eq_true, decide_eq_true_eq] at hr
          obtain ⟨hnx, hr⟩ := hr
          have hlt := (ev_ok1_lt ls k hk).1
          have h3 := hLH.2.2.1
          split at hr
          · simp only [Bool.and_eq_true, decide_eq_true_eq] at hr
            obtain ⟨rfl, rfl⟩ := hr
            refine lv_istore_n Fx Fb hd rfl hLH.has (by omega) rfl (fun ls1 hl1 => ?_)
            rw [← hnx]
            exact K ls1 (hLH.st1 hfv hk (fun _ q => by cases q) hl1)
          · simp only [Bool.and_eq_true, decide_eq_true_eq] at hr
            obtain ⟨rfl, rfl⟩ := hr
            refine lv_istore Fx Fb hd hLH.has (by omega) rfl (fun ls1 hl1 => ?_)
            rw [← hnx]
            exact K ls1 (hLH.st1 hfv hk (fun _ q => by cases q) hl1)
          · cases hr
        next => cases hx
      next => cases hx
    case astore k =>
      have hx : (match (generalizing := false) st with
        | .ref x :: r => match ev_ok1 ls k with
          | true => some (pc + 1, ev_s1 ls k (.ref x), r)
          | false => none
        | _ => none) = some (pc', ls', st') := hx
      split at hx
      next x r =>
        split at hx
        next hk =>
          cases hx
          obtain ⟨raw, len, hd, hr⟩ := ev_okI_dec hok (by intro h; cases h) (by intro h; cases h)
          simp only [ev_okR, Bool.and_eq_true, decide_eq_true_eq] at hr
          obtain ⟨hnx, hr⟩ := hr
          have hlt := (ev_ok1_lt ls k hk).1
          have h3 := hLH.2.2.1
          split at hr
          · simp only [Bool.and_eq_true, decide_eq_true_eq] at hr
            obtain ⟨rfl, rfl⟩ := hr
            refine lv_astore_n Fx Fb hd rfl hLH.has (by omega) rfl (fun ls1 hl1 => ?_)
            rw [← hnx]
            exact K ls1 (hLH.st1 hfv hk (fun _ q => by cases q) hl1)
          · simp only [Bool.and_eq_true, decide_eq_true_eq] at hr
            obtain ⟨rfl, rfl⟩ := hr
            refine lv_astore Fx Fb hd hLH.has (by omega) rfl (fun ls1 hl1 => ?_)
            rw [← hnx]
            exact K ls1 (hLH.st1 hfv hk (fun _ q => by cases q) hl1)
          · cases hr
        next => cases hx
      next => cases hx
    case lstore k =>
      have hx : (match (generalizing := false) st with
        | .long x :: r => match ev_ok2 ls k with
          | true => some (pc + 1, ev_s2 ls k (.long x), r)
          | false => none
        | _ => none) = some (pc', ls', st') := hx
      split at hx
      next x r =>
        split at hx
        next hk =>
          cases hx
          obtain ⟨raw, len, hd, hr⟩ := ev_okI_dec hok (by intro h; cases h) (by intro h; cases h)
          simp only [ev_okR, Bool.and_eq_true, decide_eq_true_eq] at hr
          obtain ⟨hnx, hr⟩ := hr
          have hlt := (ev_ok2_lt ls k hk).1
          have h3 := hLH.2.2.1
          split at hr
          · simp only [Bool.and_eq_true, decide_eq_true_eq] at hr
            obtain ⟨rfl, rfl⟩ := hr
            refine lv_lstore_n Fx Fb hd rfl hLH.has (by omega) rfl (fun ls1 hl1 => ?_)
            rw [← hnx]
            exact K ls1 (hLH.st2 hfv hk hl1)
          · simp only [Bool.and_eq_true, decide_eq_true_eq] at hr
            obtain ⟨rfl, rfl⟩ := hr
            refine lv_lstore Fx Fb hd hLH.has (by omega) rfl (fun ls1 hl1 => ?_)
            rw [← hnx]
            exact K ls1 (hLH.st2 hfv hk hl1)
          · cases hr
        next => cases hx
      next => cases hx
    case iinc k n =>
      have hx : (match ev_lg ls k with
        | some (.int x) => match ev_ok1 ls k with
          | true => some (pc + 1, ev_s1 ls k (.int (ev_inc n x)), st)
          | false => none
        | _ => none) = some (pc', ls', st') := hx
      split at hx
      next x hg =>
        split at hx
        next hk =>
          cases hx
          obtain ⟨raw, len, hd, hr⟩ := ev_okI_dec hok (by intro h; cases h) (by intro h; cases h)
          simp only [ev_okR, Bool.and_eq_true, decide_eq_true_eq] at hr
          obtain ⟨⟨rfl, rfl⟩, hnx⟩ := hr
          have hlt := (ev_ok1_lt ls k hk).1
          have h3 := hLH.2.2.1
          obtain ⟨j, hj⟩ := List.getElem?_of_mem (ev_kl_mem (base := base) (ra := ra) (fv := fv) hg rfl)
          refine lv_iinc Fx Fb hd hLH.has hj (v := ev_inc n x) (ev_inc_eq n x) (by omega) rfl (fun ls1 hl1 => ?_)
          rw [← hnx]
          exact K ls1 (hLH.st1 hfv hk (fun _ q => by cases q) hl1)
        next => cases hx
      next => cases hx
    case iadd =>
      have hx : ev_nx pc ls (ev_ii st (fun x y => x + y)) = some (pc', ls', st') := hx
      unfold ev_nx ev_ii at hx
      split at hx
      next st1 hs1 =>
        split at hs1
        next =>
          cases hs1
          cases hx
          have K := K lsC hLH
          obtain ⟨raw, len, hd, hr⟩ := ev_okI_dec hok (by intro h; cases h) (by intro h; cases h)
          simp only [ev_okR, Bool.and_eq_true, decide_eq_true_eq] at hr
          obtain ⟨⟨rfl, rfl⟩, hnx⟩ := hr
          rw [hnx] at K
          exact lv_iadd Fx Fb hd K
        next => cases hs1
      next => cases hx
    case isub =>
      have hx : ev_nx pc ls (ev_ii st (fun x y => x - y)) = some (pc', ls', st') := hx
      unfold ev_nx ev_ii at hx
      split at hx
      next st1 hs1 =>
        split at hs1
        next =>
          cases hs1
          cases hx
          have K := K lsC hLH
          obtain ⟨raw, len, hd, hr⟩ := ev_okI_dec hok (by intro h; cases h) (by intro h; cases h)
          simp only [ev_okR, Bool.and_eq_true, decide_eq_true_eq] at hr
          obtain ⟨⟨rfl, rfl⟩, hnx⟩ := hr
          rw [hnx] at K
          exact lv_isub Fx Fb hd K
        next => cases hs1
      next => cases hx
    case imul =>
      have hx : ev_nx pc ls (ev_ii st (fun x y => x * y)) = some (pc', ls', st') := hx
      unfold ev_nx ev_ii at hx
      split at hx
      next st1 hs1 =>
        split at hs1
        next =>
          cases hs1
          cases hx
          have K := K lsC hLH
          obtain ⟨raw, len, hd, hr⟩ := ev_okI_dec hok (by intro h; cases h) (by intro h; cases h)
          simp only [ev_okR, Bool.and_eq_true, decide_eq_true_eq] at hr
          obtain ⟨⟨rfl, rfl⟩, hnx⟩ := hr
          rw [hnx] at K
          exact lv_imul Fx Fb hd K
        next => cases hs1
      next => cases hx
    case iand =>
      have hx : ev_nx pc ls (ev_ii st (fun x y => x &&& y)) = some (pc', ls', st') := hx
      unfold ev_nx ev_ii at hx
      split at hx
      next st1 hs1 =>
        split at hs1
        next =>
          cases hs1
          cases hx
          have K := K lsC hLH
          obtain ⟨raw, len, hd, hr⟩ := ev_okI_dec hok (by intro h; cases h) (by intro h; cases h)
          simp only [ev_okR, Bool.and_eq_true, decide_eq_true_eq] at hr
          obtain ⟨⟨rfl, rfl⟩, hnx⟩ := hr
          rw [hnx] at K
          exact lv_iand Fx Fb hd K
        next => cases hs1
      next => cases hx
    case ior =>
      have hx : ev_nx pc ls (ev_ii st (fun x y => x ||| y)) = some (pc', ls', st') := hx
      unfold ev_nx ev_ii at hx
      split at hx
      next st1 hs1 =>
        split at hs1
        next =>
          cases hs1
          cases hx
          have K := K lsC hLH
          obtain ⟨raw, len, hd, hr⟩ := ev_okI_dec hok (by intro h; cases h) (by intro h; cases h)
          simp only [ev_okR, Bool.and_eq_true, decide_eq_true_eq] at hr
          obtain ⟨⟨rfl, rfl⟩, hnx⟩ := hr
          rw [hnx] at K
          exact lv_ior Fx Fb hd K
        next => cases hs1
      next => cases hx
    case ixor =>
      have hx : ev_nx pc ls (ev_ii st (fun x y => x ^^^ y)) = some (pc', ls', st') := hx
      unfold ev_nx ev_ii at hx
      split at hx
      next st1 hs1 =>
        split at hs1
        next =>
          cases hs1
          cases hx
          have K := K lsC hLH
          obtain ⟨raw, len, hd, hr⟩ := ev_okI_dec hok (by intro h; cases h) (by intro h; cases h)
          simp only [ev_okR, Bool.and_eq_true, decide_eq_true_eq] at hr
          obtain ⟨⟨rfl, rfl⟩, hnx⟩ := hr
          rw [hnx] at K
          exact lv_ixor Fx Fb hd K
        next => cases hs1
      next => cases hx
    case ishl =>
      have hx : ev_nx pc ls (ev_ii st (fun x y => x <<< (y &&& 31))) = some (pc', ls', st') := hx
      unfold ev_nx ev_ii at hx
      split at hx
      next st1 hs1 =>
        split at hs1
        next =>
          cases hs1
          cases hx
          have K := K lsC hLH
          obtain ⟨raw, len, hd, hr⟩ := ev_okI_dec hok (by intro h; cases h) (by intro h; cases h)
          simp only [ev_okR, Bool.and_eq_true, decide_eq_true_eq] at hr
          obtain ⟨⟨rfl, rfl⟩, hnx⟩ := hr
          rw [hnx] at K
          exact lv_ishl Fx Fb hd K
        next => cases hs1
      next => cases hx
    case ishr =>
      have hx : ev_nx pc ls (ev_ii st (fun x y => x >>> (y &&& 31))) = some (pc', ls', st') := hx
      unfold ev_nx ev_ii at hx
      split at hx
      next st1 hs1 =>
        split at hs1
        next =>
          cases hs1
          cases hx
          have K := K lsC hLH
          obtain ⟨raw, len, hd, hr⟩ := ev_okI_dec hok (by intro h; cases h) (by intro h; cases h)
          simp only [ev_okR, Bool.and_eq_true, decide_eq_true_eq] at hr
          obtain ⟨⟨rfl, rfl⟩, hnx⟩ := hr
          rw [hnx] at K
          exact lv_ishr Fx Fb hd K
        next => cases hs1
      next => cases hx
    case iushr =>
      have hx : ev_nx pc ls (ev_ii st (fun x y => (x.toUInt32 >>> (y.toUInt32 &&& Int32.toUInt32 31)).toInt32)) = some (pc', ls', st') := hx
      unfold ev_nx ev_ii at hx
      split at hx
      next st1 hs1 =>
        split at hs1
        next =>
          cases hs1
          cases hx
          have K := K lsC hLH
          obtain ⟨raw, len, hd, hr⟩ := ev_okI_dec hok (by intro h; cases h) (by intro h; cases h)
          simp only [ev_okR, Bool.and_eq_true, decide_eq_true_eq] at hr
          obtain ⟨⟨rfl, rfl⟩, hnx⟩ := hr
          rw [hnx] at K
          exact lv_iushr Fx Fb hd rfl K
        next => cases hs1
      next => cases hx
    case ladd =>
      have hx : ev_nx pc ls (ev_ll st (fun x y => x + y)) = some (pc', ls', st') := hx
      unfold ev_nx ev_ll at hx
      split at hx
      next st1 hs1 =>
        split at hs1
        next =>
          cases hs1
          cases hx
          have K := K lsC hLH
          obtain ⟨raw, len, hd, hr⟩ := ev_okI_dec hok (by intro h; cases h) (by intro h; cases h)
          simp only [ev_okR, Bool.and_eq_true, decide_eq_true_eq] at hr
          obtain ⟨⟨rfl, rfl⟩, hnx⟩ := hr
          rw [hnx] at K
          exact lv_ladd Fx Fb hd K
        next => cases hs1
      next => cases hx
    case lmul =>
      have hx : ev_nx pc ls (ev_ll st (fun x y => x * y)) = some (pc', ls', st') := hx
      unfold ev_nx ev_ll at hx
      split at hx
      next st1 hs1 =>
        split at hs1
        next =>
          cases hs1
          cases hx
          have K := K lsC hLH
          obtain ⟨raw, len, hd, hr⟩ := ev_okI_dec hok (by intro h; cases h) (by intro h; cases h)
          simp only [ev_okR, Bool.and_eq_true, decide_eq_true_eq] at hr
          obtain ⟨⟨rfl, rfl⟩, hnx⟩ := hr
          rw [hnx] at K
          exact lv_lmul Fx Fb hd K
        next => cases hs1
      next => cases hx
    case i2l =>
      have hx : ev_nx pc ls (ev_i1 st (fun x => .long x.toInt64)) = some (pc', ls', st') := hx
      unfold ev_nx ev_i1 at hx
      split at hx
      next st1 hs1 =>
        split at hs1
        next =>
          cases hs1
          cases hx
          have K := K lsC hLH
          obtain ⟨raw, len, hd, hr⟩ := ev_okI_dec hok (by intro h; cases h) (by intro h; cases h)
          simp only [ev_okR, Bool.and_eq_true, decide_eq_true_eq] at hr
          obtain ⟨⟨rfl, rfl⟩, hnx⟩ := hr
          rw [hnx] at K
          exact lv_i2l Fx Fb hd rfl K
        next => cases hs1
      next => cases hx
    case i2b =>
      have hx : ev_nx pc ls (ev_i1 st (fun x => .int x.toInt8.toInt32)) = some (pc', ls', st') := hx
      unfold ev_nx ev_i1 at hx
      split at hx
      next st1 hs1 =>
        split at hs1
        next =>
          cases hs1
          cases hx
          have K := K lsC hLH
          obtain ⟨raw, len, hd, hr⟩ := ev_okI_dec hok (by intro h; cases h) (by intro h; cases h)
          simp only [ev_okR, Bool.and_eq_true, decide_eq_true_eq] at hr
          obtain ⟨⟨rfl, rfl⟩, hnx⟩ := hr
          rw [hnx] at K
          exact lv_i2b Fx Fb hd rfl K
        next => cases hs1
      next => cases hx
    case i2s =>
      have hx : ev_nx pc ls (ev_i1 st (fun x => .int x.toInt16.toInt32)) = some (pc', ls', st') := hx
      unfold ev_nx ev_i1 at hx
      split at hx
      next st1 hs1 =>
        split at hs1
        next =>
          cases hs1
          cases hx
          have K := K lsC hLH
          obtain ⟨raw, len, hd, hr⟩ := ev_okI_dec hok (by intro h; cases h) (by intro h; cases h)
          simp only [ev_okR, Bool.and_eq_true, decide_eq_true_eq] at hr
          obtain ⟨⟨rfl, rfl⟩, hnx⟩ := hr
          rw [hnx] at K
          exact lv_i2s Fx Fb hd rfl K
        next => cases hs1
      next => cases hx
    case i2c =>
      have hx : ev_nx pc ls (ev_i1 st (fun x => .int (x.toUInt32 % 65536).toInt32)) = some (pc', ls', st') := hx
      unfold ev_nx ev_i1 at hx
      split at hx
      next st1 hs1 =>
        split at hs1
        next =>
          cases hs1
          cases hx
          have K := K lsC hLH
          obtain ⟨raw, len, hd, hr⟩ := ev_okI_dec hok (by intro h; cases h) (by intro h; cases h)
          simp only [ev_okR, Bool.and_eq_true, decide_eq_true_eq] at hr
          obtain ⟨⟨rfl, rfl⟩, hnx⟩ := hr
          rw [hnx] at K
          exact lv_i2c Fx Fb hd rfl K
        next => cases hs1
      next => cases hx
    case lcmp =>
      have hx : (match (generalizing := false) st with
        | .long y :: .long x :: r => some (pc + 1, ls, .int (lg_cmp x y) :: r)
        | _ => none) = some (pc', ls', st') := hx
      split at hx
      · cases hx
        have K := K lsC hLH
        obtain ⟨raw, len, hd, hr⟩ := ev_okI_dec hok (by intro h; cases h) (by intro h; cases h)
        simp only [ev_okR, Bool.and_eq_true, decide_eq_true_eq] at hr
        obtain ⟨⟨rfl, rfl⟩, hnx⟩ := hr
        rw [hnx] at K
        exact W.lcmp Fx Fb hd K
      · cases hx
    case dup =>
      have hx : (match (generalizing := false) st with
        | .int x :: r => some (pc + 1, ls, .int x :: .int x :: r)
        | .ref x :: r => some (pc + 1, ls, .ref x :: .ref x :: r)
        | _ => none) = some (pc', ls', st') := hx
      split at hx
      · cases hx
        have K := K lsC hLH
        obtain ⟨raw, len, hd, hr⟩ := ev_okI_dec hok (by intro h; cases h) (by intro h; cases h)
        simp only [ev_okR, Bool.and_eq_true, decide_eq_true_eq] at hr
        obtain ⟨⟨rfl, rfl⟩, hnx⟩ := hr
        rw [hnx] at K
        exact lv_dup Fx Fb hd rfl K
      · cases hx
        have K := K lsC hLH
        obtain ⟨raw, len, hd, hr⟩ := ev_okI_dec hok (by intro h; cases h) (by intro h; cases h)
        simp only [ev_okR, Bool.and_eq_true, decide_eq_true_eq] at hr
        obtain ⟨⟨rfl, rfl⟩, hnx⟩ := hr
        rw [hnx] at K
        exact lv_dup Fx Fb hd rfl K
      · cases hx
    case dup2 =>
      have hx : (match (generalizing := false) st with
        | .int y :: .ref x :: r => some (pc + 1, ls, .int y :: .ref x :: .int y :: .ref x :: r)
        | _ => none) = some (pc', ls', st') := hx
      split at hx
      · cases hx
        have K := K lsC hLH
        obtain ⟨raw, len, hd, hr⟩ := ev_okI_dec hok (by intro h; cases h) (by intro h; cases h)
        simp only [ev_okR, Bool.and_eq_true, decide_eq_true_eq] at hr
        obtain ⟨⟨rfl, rfl⟩, hnx⟩ := hr
        rw [hnx] at K
        exact lv_dup2_11 Fx Fb hd rfl rfl K
      · cases hx
    case pop =>
      have hx : (match (generalizing := false) st with
        | .int _ :: r => some (pc + 1, ls, r)
        | _ => none) = some (pc', ls', st') := hx
      split at hx
      · cases hx
        have K := K lsC hLH
        obtain ⟨raw, len, hd, hr⟩ := ev_okI_dec hok (by intro h; cases h) (by intro h; cases h)
        simp only [ev_okR, Bool.and_eq_true, decide_eq_true_eq] at hr
        obtain ⟨⟨rfl, rfl⟩, hnx⟩ := hr
        rw [hnx] at K
        exact lv_pop Fx Fb hd rfl K
      · cases hx
    case goto t =>
      cases hx
      have K := K lsC hLH
      obtain ⟨raw, len, hd, hr⟩ := ev_okI_dec hok (by intro h; cases h) (by intro h; cases h)
      simp only [ev_okR] at hr
      split at hr
      · simp only [Bool.and_eq_true, decide_eq_true_eq] at hr
        obtain ⟨ht, rfl⟩ := hr
        exact lv_goto Fx Fb hd ht K
      · cases hr
    all_goals (exact absurd hx (by intro h; cases h))
end STEP
