theorem ev_lsw_off (pb : List Nat) (pc : Nat) (x : Int) (d d' : Int) (hd : (pc : Int) + d' = ev_tg pb d) : ∀ (ps ps' : List (Int × Int)), ps'.map (fun o => (o.1, (pc : Int) + o.2)) = ps.map (fun t => (t.1, ev_tg pb t.2)) → (pc : Int) + Op.lookupswitch.offset ps' d' x = ev_tg pb (Op.lookupswitch.offset ps d x)
  | [], [], _ => hd
  | [], _ :: _, h => by cases h
  | _ :: _, [], h => by cases h
  | (a, t) :: ps, (a', o) :: ps', h => by
    simp only [List.map_cons, List.cons.injEq, Prod.mk.injEq] at h
    obtain ⟨⟨rfl, h1⟩, h2⟩ := h
    have ih := ev_lsw_off pb pc x d d' hd ps ps' h2
    rw [Op.lookupswitch.offset_cons, Op.lookupswitch.offset_cons]
    split
    · exact h1
    · exact ih
section STEPB
variable {base : Nat} {ra : Nat → Nat} {fv : Value} {aC : Nat → ClassId} {D : va_G} {scr : List Int32}
variable {p : Program} {l : Launch} {e : Env} {R : Room} {s : State} {m : MethodId} {args : Array Value} {below : List Frame} {meth : Method} {c : Code} {H : Heap} {locs : List Loc} {cells slots : Nat} {Q : State → Prop} {mi : Nat}
set_option maxHeartbeats 4000000 in
theorem ev_wB (Fr : ev_F base ra fv aC D scr p s m args meth c mi) (hmi : mi < 214) {i : ev_I} {pc pc' : Nat} {st st' : List Value} (hf : ev_ft (ev_cd mi) pc = some i) (hx : ev_xB i pc st = some (pc', st')) {lsC : Array Slot}
    (K : W p l e R s m args below meth c H locs cells slots Q (F0 m ((ev_pb mi).getD pc' 0) lsC (st'.map (ev_vl base ra fv)))) :
    W p l e R s m args below meth c H locs cells slots Q (F0 m ((ev_pb mi).getD pc 0) lsC (st.map (ev_vl base ra fv))) := by
  have hok := ev_okL_at _ _ _ _ _ _ _ _ _ (ev_ok mi hmi) hf
  obtain ⟨Fx, Fb, Fr1, Fl, Fo, Fw, -, -, FK, FR, -⟩ := Fr
  cases i with
  | inr v => cases hx
  | inl ins =>
    cases ins
    case if_icmp cnd t =>
      have hx : (match (generalizing := false) st with
        | .int y :: .int x :: r => some (ev_br (ev_cb cnd x y) t.toNat (pc + 1), r)
        | _ => none) = some (pc', st') := hx
      split at hx
      · cases hx
        obtain ⟨raw, len, hd, hr⟩ := ev_okI_dec hok (by intro h; cases h) (by intro h; cases h)
        simp only [ev_okR] at hr
        split at hr
        next cnd1 off =>
          simp only [Bool.and_eq_true, decide_eq_true_eq] at hr
          obtain ⟨⟨⟨hcc, ht⟩, rfl⟩, hnx⟩ := hr
          rw [hcc] at hd
          cases hc : ev_cb _ _ _ with
          | true =>
            rw [hc] at K
            have K : W p l e R s m args below meth c H locs cells slots Q (F0 m ((ev_pb mi).getD t.toNat 0) lsC _) := K
            cases cnd
            · exact lv_icmp_eq Fx Fb hd ht (fun _ => K) (fun q => absurd (of_decide_eq_true hc) (by first | exact q | exact fun z => z q))
            · exact lv_icmp_ne Fx Fb hd ht (fun _ => K) (fun q => absurd (of_decide_eq_true hc) (by first | exact q | exact fun z => z q))
            · exact lv_icmp_lt Fx Fb hd ht (fun _ => K) (fun q => absurd (of_decide_eq_true hc) (by first | exact q | exact fun z => z q))
            · exact lv_icmp_ge Fx Fb hd ht (fun _ => K) (fun q => absurd (of_decide_eq_true hc) (by first | exact q | exact fun z => z q))
            · exact lv_icmp_gt Fx Fb hd ht (fun _ => K) (fun q => absurd (of_decide_eq_true hc) (by first | exact q | exact fun z => z q))
            · exact lv_icmp_le Fx Fb hd ht (fun _ => K) (fun q => absurd (of_decide_eq_true hc) (by first | exact q | exact fun z => z q))
          | false =>
            rw [hc] at K
            have K : W p l e R s m args below meth c H locs cells slots Q (F0 m ((ev_pb mi).getD (pc + 1) 0) lsC _) := K
            rw [hnx] at K
            cases cnd
            · exact lv_icmp_eq Fx Fb hd ht (fun q => absurd q (of_decide_eq_false hc)) (fun _ => K)
            · exact lv_icmp_ne Fx Fb hd ht (fun q => absurd q (of_decide_eq_false hc)) (fun _ => K)
            · exact lv_icmp_lt Fx Fb hd ht (fun q => absurd q (of_decide_eq_false hc)) (fun _ => K)
            · exact lv_icmp_ge Fx Fb hd ht (fun q => absurd q (of_decide_eq_false hc)) (fun _ => K)
            · exact lv_icmp_gt Fx Fb hd ht (fun q => absurd q (of_decide_eq_false hc)) (fun _ => K)
            · exact lv_icmp_le Fx Fb hd ht (fun q => absurd q (of_decide_eq_false hc)) (fun _ => K)
        · cases hr
      · cases hx
    case ifCond cnd t =>
      have hx : (match (generalizing := false) st with
        | .int x :: r => some (ev_br (ev_cb cnd x 0) t.toNat (pc + 1), r)
        | _ => none) = some (pc', st') := hx
      split at hx
      · cases hx
        obtain ⟨raw, len, hd, hr⟩ := ev_okI_dec hok (by intro h; cases h) (by intro h; cases h)
        simp only [ev_okR] at hr
        split at hr
        next cnd1 off =>
          simp only [Bool.and_eq_true, decide_eq_true_eq] at hr
          obtain ⟨⟨⟨hcc, ht⟩, rfl⟩, hnx⟩ := hr
          rw [hcc] at hd
          cases hc : ev_cb _ _ _ with
          | true =>
            rw [hc] at K
            have K : W p l e R s m args below meth c H locs cells slots Q (F0 m ((ev_pb mi).getD t.toNat 0) lsC _) := K
            cases cnd
            · exact lv_if_eq Fx Fb hd ht (fun _ => K) (fun q => absurd (of_decide_eq_true hc) (by first | exact q | exact fun z => z q))
            · exact lv_if_ne Fx Fb hd ht (fun _ => K) (fun q => absurd (of_decide_eq_true hc) (by first | exact q | exact fun z => z q))
            · exact lv_if_lt Fx Fb hd ht (fun _ => K) (fun q => absurd (of_decide_eq_true hc) (by first | exact q | exact fun z => z q))
            · exact lv_if_ge Fx Fb hd ht (fun _ => K) (fun q => absurd (of_decide_eq_true hc) (by first | exact q | exact fun z => z q))
            · exact lv_if_gt Fx Fb hd ht (fun _ => K) (fun q => absurd (of_decide_eq_true hc) (by first | exact q | exact fun z => z q))
            · exact lv_if_le Fx Fb hd ht (fun _ => K) (fun q => absurd (of_decide_eq_true hc) (by first | exact q | exact fun z => z q))
          | false =>
            rw [hc] at K
            have K : W p l e R s m args below meth c H locs cells slots Q (F0 m ((ev_pb mi).getD (pc + 1) 0) lsC _) := K
            rw [hnx] at K
            cases cnd
            · exact lv_if_eq Fx Fb hd ht (fun q => absurd q (of_decide_eq_false hc)) (fun _ => K)
            · exact lv_if_ne Fx Fb hd ht (fun q => absurd q (of_decide_eq_false hc)) (fun _ => K)
            · exact lv_if_lt Fx Fb hd ht (fun q => absurd q (of_decide_eq_false hc)) (fun _ => K)
            · exact lv_if_ge Fx Fb hd ht (fun q => absurd q (of_decide_eq_false hc)) (fun _ => K)
            · exact lv_if_gt Fx Fb hd ht (fun q => absurd q (of_decide_eq_false hc)) (fun _ => K)
            · exact lv_if_le Fx Fb hd ht (fun q => absurd q (of_decide_eq_false hc)) (fun _ => K)
        · cases hr
      · cases hx
    case tableswitch d0 lo hi offs =>
      have hx : (match (generalizing := false) st with
        | .int x :: r => some (if x.toInt < lo ∨ hi < x.toInt then d0.toNat else (offs.toList.getD (x.toInt - lo).toNat d0).toNat, r)
        | _ => none) = some (pc', st') := hx
      split at hx
      next x r _ =>
        cases hx
        obtain ⟨raw, len, hd, hr⟩ := ev_okI_dec hok (by intro h; cases h) (by intro h; cases h)
        simp only [ev_okR] at hr
        split at hr
        next d1 lo1 hi1 offs1 =>
          simp only [Bool.and_eq_true, decide_eq_true_eq] at hr
          obtain ⟨⟨⟨⟨rfl, rfl⟩, h1⟩, h2⟩, h3⟩ := hr
          by_cases ho : x.toInt < lo1 ∨ hi1 < x.toInt
          · rw [if_pos ho] at K
            exact lv_tableOut Fx Fb hd ho h1 K
          · rw [if_neg ho] at K
            have hlt : (x.toInt - lo1).toNat < offs.toList.length := by
              rw [Array.length_toList]
              omega
            have hlen : offs1.toList.length = offs.toList.length := by simpa using congrArg List.length h2
            have hq := congrArg (fun q => q[(x.toInt - lo1).toNat]?) h2
            simp only [List.getElem?_map] at hq
            rw [List.getElem?_eq_getElem hlt, List.getElem?_eq_getElem (by rw [hlen]; exact hlt)] at hq
            simp only [Option.map_some, Option.some.injEq] at hq
            have hg : offs.toList.getD (x.toInt - lo1).toNat d0 = offs.toList[(x.toInt - lo1).toNat] := by
              rw [List.getD_eq_getElem?_getD, List.getElem?_eq_getElem hlt]; rfl
            rw [hg] at K
            refine lv_tableIn Fx Fb hd (by omega) (by omega) (off := offs1.toList[(x.toInt - lo1).toNat]'(by rw [hlen]; exact hlt)) ?_ hq K
            rw [← Array.getElem?_toList, List.getElem?_eq_getElem (by rw [hlen]; exact hlt)]
        · cases hr
      · cases hx
    case lookupswitch d0 ps =>
      have hx : (match (generalizing := false) st with
        | .int x :: r => some ((Op.lookupswitch.offset ps.toList d0 x.toInt).toNat, r)
        | _ => none) = some (pc', st') := hx
      split at hx
      next x r _ =>
        cases hx
        obtain ⟨raw, len, hd, hr⟩ := ev_okI_dec hok (by intro h; cases h) (by intro h; cases h)
        simp only [ev_okR] at hr
        split at hr
        next d1 ps1 =>
          simp only [Bool.and_eq_true, decide_eq_true_eq] at hr
          obtain ⟨⟨h1, h2⟩, h3⟩ := hr
          exact lv_lookup Fx Fb hd h3 rfl (ev_lsw_off _ _ _ _ _ h1 _ _ h2) K
        · cases hr
      · cases hx
    case idiv =>
      have hx : (match (generalizing := false) st with
        | .int y :: .int x :: r => if y = 0 then none else some (pc + 1, .int (x / y) :: r)
        | _ => none) = some (pc', st') := hx
      split at hx
      next y x r _ =>
        by_cases hy : y = 0
        · rw [if_pos hy] at hx
          cases hx
        · rw [if_neg hy] at hx
          cases hx
          obtain ⟨raw, len, hd, hr⟩ := ev_okI_dec hok (by intro h; cases h) (by intro h; cases h)
          simp only [ev_okR, Bool.and_eq_true, decide_eq_true_eq] at hr
          obtain ⟨⟨rfl, rfl⟩, hnx⟩ := hr
          rw [hnx] at K
          exact lv_idiv Fx Fb hd hy K
      · cases hx
    case irem =>
      have hx : (match (generalizing := false) st with
        | .int y :: .int x :: r => if y = 0 then none else some (pc + 1, .int (x - x / y * y) :: r)
        | _ => none) = some (pc', st') := hx
      split at hx
      next y x r _ =>
        by_cases hy : y = 0
        · rw [if_pos hy] at hx
          cases hx
        · rw [if_neg hy] at hx
          cases hx
          obtain ⟨raw, len, hd, hr⟩ := ev_okI_dec hok (by intro h; cases h) (by intro h; cases h)
          simp only [ev_okR, Bool.and_eq_true, decide_eq_true_eq] at hr
          obtain ⟨⟨rfl, rfl⟩, hnx⟩ := hr
          rw [hnx] at K
          exact lv_irem Fx Fb hd hy K
      · cases hx
    case ldiv =>
      have hx : (match (generalizing := false) st with
        | .long y :: .long x :: r => if y = 0 then none else some (pc + 1, .long (x / y) :: r)
        | _ => none) = some (pc', st') := hx
      split at hx
      next y x r _ =>
        by_cases hy : y = 0
        · rw [if_pos hy] at hx
          cases hx
        · rw [if_neg hy] at hx
          cases hx
          obtain ⟨raw, len, hd, hr⟩ := ev_okI_dec hok (by intro h; cases h) (by intro h; cases h)
          simp only [ev_okR, Bool.and_eq_true, decide_eq_true_eq] at hr
          obtain ⟨⟨rfl, rfl⟩, hnx⟩ := hr
          rw [hnx] at K
          exact lv_ldiv Fx Fb hd hy K
      · cases hx
    case lrem =>
      have hx : (match (generalizing := false) st with
        | .long y :: .long x :: r => if y = 0 then none else some (pc + 1, .long (x - x / y * y) :: r)
        | _ => none) = some (pc', st') := hx
      split at hx
      next y x r _ =>
        by_cases hy : y = 0
        · rw [if_pos hy] at hx
          cases hx
        · rw [if_neg hy] at hx
          cases hx
          obtain ⟨raw, len, hd, hr⟩ := ev_okI_dec hok (by intro h; cases h) (by intro h; cases h)
          simp only [ev_okR, Bool.and_eq_true, decide_eq_true_eq] at hr
          obtain ⟨⟨rfl, rfl⟩, hnx⟩ := hr
          rw [hnx] at K
          exact lv_lrem Fx Fb hd hy K
      · cases hx
    all_goals (exact absurd hx (by intro h; cases h))
end STEPB
