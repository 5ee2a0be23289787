theorem ev_in_vp {j : Int32} {n : Nat} (h : ev_in j n = true) : vp_in j n := by
  simp only [ev_in, Bool.not_eq_true', Bool.or_eq_false_iff, decide_eq_false_iff_not] at h
  rintro (q | q)
  · exact h.1 q
  · exact h.2 q
theorem ev_upd_set (xs : List Int32) {j : Nat} (hj : j < xs.length) (x : Int32) : upd (fun q => xs.getD q 0) j x = fun q => (xs.set j x).getD q 0 := by
  funext q
  by_cases hq : q = j
  · subst hq
    simp [upd, hj]
  · simp [upd, hq, Ne.symm hq, List.getD_eq_getElem?_getD, List.getElem?_set]
theorem ev_vp_lt {j : Int32} {n : Nat} (h : vp_in j n) : j.toNatClampNeg < n := Nat.not_le.mp fun q => h (Or.inr q)
theorem ev_cl_get {c : Nat} (h : c < 7) : ev_cl[c]? = some (ev_cn c, ev_T c, ev_N c) := by
  match c, h with
  | 0, _ => rfl
  | 1, _ => rfl
  | 2, _ => rfl
  | 3, _ => rfl
  | 4, _ => rfl
  | 5, _ => rfl
  | 6, _ => rfl
theorem ev_nmok {c : Nat} (h : c < 7) : ∀ a, a < ev_N c → ∀ b, b < ev_N c → a ≠ b → (ev_T c a).2.1 ≠ (ev_T c b).2.1 := by
  match c, h with
  | 0, _ => exact nmX0
  | 1, _ => exact nmX1
  | 2, _ => exact nmX2
  | 3, _ => exact nmX3
  | 4, _ => exact nmX4
  | 5, _ => exact nmX5
  | 6, _ => exact nmX6
theorem ev_tyok {c : Nat} (h : c < 7) : ∀ k, k < ev_N c → parseFieldDescriptor (ev_T c k).2.2.1 = some (ev_ty c k) := by
  match c, h with
  | 0, _ => exact tyX0_ok
  | 1, _ => exact tyX1_ok
  | 2, _ => exact tyX2_ok
  | 3, _ => exact tyX3_ok
  | 4, _ => exact tyX4_ok
  | 5, _ => exact tyX5_ok
  | 6, _ => exact tyX6_ok
theorem ev_lays_full : (List.range 7).all (fun c => (List.range (ev_N c)).all (fun k => ev_lays.any (fun e => decide (e.1 = c) && decide (e.2.1 = k)))) = true := by decide +kernel
theorem ev_uws {c : Nat} (h : c < 7) : ∀ w ∈ u_ws (ev_cn c) (ev_T c) (ev_N c), w ∈ ev_UW := by
  intro w hw
  obtain ⟨k, hk, rfl⟩ := List.mem_map.mp hw
  have h1 := ev_all ev_lays_full h
  have h2 := ev_all h1 (List.mem_range.mp hk)
  obtain ⟨e0, he0, h3⟩ := List.any_eq_true.mp h2
  simp only [Bool.and_eq_true, decide_eq_true_eq] at h3
  have h4 := ev_word (List.all_eq_true.mp ev_lays_ok _ he0)
  rw [h3.1, h3.2] at h4
  exact h4
theorem ev_df_ok : (List.range 7).all (fun c => decide ((ev_df c).length = ev_N c) && decide (ev_N c ≤ 200) && (List.range (ev_N c)).all (fun k => decide (defaultValue (ev_ty c k) = (ev_df c).getD k .null))) = true := by decide +kernel
theorem ev_df_vl (base : Nat) (ra : Nat → Nat) (fv : Value) {c : Nat} (h : c < 7) : (ev_df c).map (ev_vl base ra fv) = ev_df c := by
  match c, h with
  | 0, _ => rfl
  | 1, _ => rfl
  | 2, _ => rfl
  | 3, _ => rfl
  | 4, _ => rfl
  | 5, _ => rfl
  | 6, _ => rfl
theorem ev_arrw (t : ArrayType) (h : t = .int ∨ t = .byte ∨ t = .boolean) : Cond.arrayClass (newarray.typeOf t) ∈ ev_UW := by
  rcases h with rfl | rfl | rfl
  · exact ev_mem 99 (by decide +kernel) rfl
  · exact ev_mem 159 (by decide +kernel) rfl
  · exact ev_mem 158 (by decide +kernel) rfl
section STEPH
variable {base : Nat} {ra : Nat → Nat} {fv : Value} {aC : Nat → ClassId} {D : va_G} {scr : List Int32}
variable {p : Program} {l : Launch} {e : Env} {R : Room} {s : State} {m : MethodId} {args : Array Value} {below : List Frame} {meth : Method} {c : Code} {H : Heap} {locs : List Loc} {cells slots : Nat} {Q : State → Prop} {mi : Nat}
theorem ev_ce_o {c : Nat} (h : c < 7) (vs : List Value) : ev_ce base ra fv aC (.inr (c, vs)) = .inr (c, vs.map (ev_vl base ra fv)) := by
  unfold ev_ce
  dsimp only
  rw [if_pos h]
theorem ev_ce_q {c : Nat} (h : ¬ c < 7) (vs : List Value) : ev_ce base ra fv aC (.inr (c, vs)) = .inl (aC c, vs.length, .inr (.inr (.inr (.inr (fun j => ev_rf base (vs.getD j .null)))))) := by
  unfold ev_ce
  dsimp only
  rw [if_neg h]
/-- a put of any kind -/
theorem ev_wput (Fr : ev_F base ra fv aC D scr p s m args meth c mi) {ix i a cn pcb : Nat} {h : ev_H} {vs : List Value} {v : Value} {r : List Value} {lsC : Array Slot} (hP : va_P D ev_cl (ev_cw base ra fv aC h) H) (hS : va_S (ev_A base) s.heap H locs) (hd : decode (ev_b mi) pcb = .ok (.putfield ix, 3)) (hfl : (ev_o mi, ix, i) ∈ ev_fls) (hpk : ev_pok (ev_o mi) (ev_ini mi) i = true)
    (hh : h[a]? = some (.inr (cn, vs))) (hc : cn = i / 32) (hl : i % 32 < vs.length) (hn : narrow (ev_ty (i / 32) (i % 32)) (ev_vl base ra fv v) = ev_vl base ra fv v) (hfit : fits (ev_ty (i / 32) (i % 32)) (ev_vl base ra fv v) = true)
    (K : ∀ H1 locs1, H1.size = H.size → va_P D ev_cl (ev_cw base ra fv aC (h.set a (.inr (cn, vs.set (i % 32) v)))) H1 → va_S (ev_A base) s.heap H1 locs1 → W p l e R s m args below meth c H1 locs1 cells slots Q (F0 m (pcb + 3) lsC r)) :
    W p l e R s m args below meth c H locs cells slots Q (F0 m pcb lsC (ev_vl base ra fv v :: .ref (base + a) :: r)) := by
  obtain ⟨Fx, Fb, Fr1, Fl, Fo, Fw, -, Fn, FK, FR, -⟩ := Fr
  subst hc
  simp only [ev_pok, Bool.and_eq_true, decide_eq_true_eq] at hpk
  obtain ⟨⟨h7, hk⟩, hfin⟩ := hpk
  have he := ev_cw_get base ra fv aC hh
  rw [ev_ce_o h7] at he
  have hlink := Fw _ (ev_fls_in hfl)
  refine ew_put (ref := (ev_T (i / 32) (i % 32)).1) Fx Fb Fw (ev_uws h7) (ev_ty (i / 32)) (ev_tyok h7) (ev_nmok h7) Fo FK hP (ev_cw_D base ra fv aC h) hS a he (ev_cl_get h7) (i % 32) hk hlink (fun _ q => q) ?_ hn hfit (by rw [List.length_map]; exact hl) hd (fun H1 locs1 z1 hP1 hS1 => K H1 locs1 z1 ?_ hS1)
  · rw [Bool.or_eq_true] at hfin
    rcases hfin with q | q
    · left
      simpa [ev_fin] using q
    · right
      simp only [Bool.and_eq_true, decide_eq_true_eq, ev_ini] at q
      exact ⟨Fn q.1, q.2⟩
  · rw [ev_cw_set, ev_ce_o h7, List.map_set]
    exact hP1
set_option maxHeartbeats 4000000 in
theorem ev_wH (Fr : ev_F base ra fv aC D scr p s m args meth c mi) (hmi : mi < 214) {i : ev_I} {pc : Nat} {st st' : List Value} {h h' : ev_H} (hf : ev_ft (ev_cd mi) pc = some i) (hx : ev_xH scr i st h = some (st', h')) {lsC : Array Slot} (hP : va_P D ev_cl (ev_cw base ra fv aC h) H) (hS : va_S (ev_A base) s.heap H locs) (hz : H.size = base + h.length)
    (hcr : cells + (h'.length - h.length) ≤ R.cells) (hsr : slots + 200 * (h'.length - h.length) ≤ R.slots)
    (K : ∀ H1 locs1, va_P D ev_cl (ev_cw base ra fv aC h') H1 → va_S (ev_A base) s.heap H1 locs1 → H1.size = base + h'.length → W p l e R s m args below meth c H1 locs1 (cells + (h'.length - h.length)) (slots + 200 * (h'.length - h.length)) Q (F0 m ((ev_pb mi).getD (pc + 1) 0) lsC (st'.map (ev_vl base ra fv)))) :
    W p l e R s m args below meth c H locs cells slots Q (F0 m ((ev_pb mi).getD pc 0) lsC (st.map (ev_vl base ra fv))) := by
  have hok := ev_okL_at _ _ _ _ _ _ _ _ _ (ev_ok mi hmi) hf
  have Fr0 := Fr
  obtain ⟨Fx, Fb, Fr1, Fl, Fo, Fw, -, -, FK, FR, -⟩ := Fr
  have KR : h' = h → W p l e R s m args below meth c H locs cells slots Q (F0 m ((ev_pb mi).getD (pc + 1) 0) lsC (st'.map (ev_vl base ra fv))) := by
    intro eh
    have K1 := K H locs (by rw [eh]; exact hP) hS (by rw [eh]; exact hz)
    rw [eh, Nat.sub_self, Nat.mul_zero, Nat.add_zero, Nat.add_zero] at K1
    exact K1
  have KW : h'.length = h.length → ∀ H1 locs1, H1.size = H.size → va_P D ev_cl (ev_cw base ra fv aC h') H1 → va_S (ev_A base) s.heap H1 locs1 → W p l e R s m args below meth c H1 locs1 cells slots Q (F0 m ((ev_pb mi).getD (pc + 1) 0) lsC (st'.map (ev_vl base ra fv))) := by
    intro eh H1 locs1 z1 hP1 hS1
    have K1 := K H1 locs1 hP1 hS1 (by rw [z1, eh]; exact hz)
    rw [eh, Nat.sub_self, Nat.mul_zero, Nat.add_zero, Nat.add_zero] at K1
    exact K1
  have KN : h'.length = h.length + 1 → cells + 1 ≤ R.cells ∧ slots + 200 ≤ R.slots ∧ ∀ (N : Nat), N ≤ 200 → ∀ H1, H1.size = H.size + 1 → va_P D ev_cl (ev_cw base ra fv aC h') H1 → va_S (ev_A base) s.heap H1 locs → W p l e R s m args below meth c H1 locs (cells + 1) (slots + N) Q (F0 m ((ev_pb mi).getD (pc + 1) 0) lsC (st'.map (ev_vl base ra fv))) := by
    intro eh
    have e1 : h'.length - h.length = 1 := by omega
    rw [e1] at hcr hsr
    refine ⟨hcr, by omega, fun N hN H1 z1 hP1 hS1 => ?_⟩
    have K1 := K H1 locs hP1 hS1 (by rw [z1, eh, hz]; omega)
    rw [e1] at K1
    exact W.widen (Nat.le_refl _) (by omega) K1
  cases i with
  | inr v => cases hx
  | inl ins =>
    cases ins
    case nop =>
      cases hx
      have K := KR rfl
      have hok : decide ((ev_pb mi).getD (pc + 1) 0 = (ev_pb mi).getD pc 0) = true := hok
      rw [of_decide_eq_true hok] at K
      exact K
    case getfield i =>
      have hx : (match (generalizing := false) st with
        | .ref a :: r => match h[a]? with
          | some (.inr (c, vs)) => match Nat.beq c (i / 32), vs[i % 32]? with
            | true, some v => some (v :: r, h)
            | _, _ => none
          | _ => none
        | _ => none) = some (st', h') := hx
      split at hx
      next a r _ =>
        split at hx
        next cn vs hh =>
          split at hx
          next v hc hv =>
            cases hx
            have K := KR rfl
            obtain ⟨raw, len, hd, hr⟩ := ev_okI_dec hok (by intro h; cases h) (by intro h; cases h)
            simp only [ev_okR] at hr
            split at hr
            next ix =>
              simp only [Bool.and_eq_true, decide_eq_true_eq] at hr
              obtain ⟨⟨⟨⟨rfl, hnx⟩, hfl⟩, h7⟩, hN⟩ := hr
              rw [hnx] at K
              have hcn : cn = i / 32 := Nat.eq_of_beq_eq_true hc
              subst hcn
              have he := ev_cw_get base ra fv aC hh
              rw [ev_ce_o h7] at he
              exact va_get (ref := (ev_T (i / 32) (i % 32)).1) Fx Fb Fw (ev_uws h7) Fo FK hP a he (ev_cl_get h7) (i % 32) hN (Fw _ (ev_fls_in hfl)) (fun _ q => q) (by rw [List.getElem?_map, hv]; rfl) hd K
            · cases hr
          · cases hx
        · cases hx
      · cases hx
    case putfield i =>
      have hx : (match (generalizing := false) st with
        | .int x :: .ref a :: r => match h[a]? with
          | some (.inr (c, vs)) => match Nat.beq c (i / 32), Nat.blt (i % 32) vs.length with
            | true, true => some (r, h.set a (.inr (c, vs.set (i % 32) (.int x))))
            | _, _ => none
          | _ => none
        | _ => none) = some (st', h') := hx
      split at hx
      next x a r _ =>
        split at hx
        next cn vs hh =>
          split at hx
          next hc hl =>
            cases hx
            obtain ⟨raw, len, hd, hr⟩ := ev_okI_dec hok (by intro h; cases h) (by intro h; cases h)
            simp only [ev_okR] at hr
            split at hr
            next ix =>
              simp only [Bool.and_eq_true, decide_eq_true_eq] at hr
              obtain ⟨⟨⟨⟨rfl, hnx⟩, hfl⟩, hpk⟩, hty⟩ := hr
              refine ev_wput (v := .int x) Fr0 hP hS hd hfl hpk hh (Nat.eq_of_beq_eq_true hc) (by simpa [Nat.blt_eq] using hl) (by rw [hty]; rfl) (by rw [hty]; rfl) (fun H1 locs1 z1 hP1 hS1 => ?_)
              rw [← hnx]
              exact KW (by simp) H1 locs1 z1 hP1 hS1
            · cases hr
          · cases hx
        · cases hx
      · cases hx
    case multianewarray i n =>
      have hx : (match (generalizing := false) st with
        | .int x :: .ref a :: r => match h[a]? with
          | some (.inr (c, vs)) => match Nat.beq c (i / 32), Nat.blt (i % 32) vs.length, ev_bz x with
            | true, true, true => some (r, h.set a (.inr (c, vs.set (i % 32) (.int x))))
            | _, _, _ => none
          | _ => none
        | _ => none) = some (st', h') := hx
      split at hx
      next x a r _ =>
        split at hx
        next cn vs hh =>
          split at hx
          next hc hl hbz =>
            cases hx
            obtain ⟨raw, len, hd, hr⟩ := ev_okI_dec hok (by intro h; cases h) (by intro h; cases h)
            simp only [ev_okR] at hr
            split at hr
            next ix =>
              simp only [Bool.and_eq_true, decide_eq_true_eq] at hr
              obtain ⟨⟨⟨⟨rfl, hnx⟩, hfl⟩, hpk⟩, hty⟩ := hr
              have hb01 : x = 0 ∨ x = 1 := by simpa [ev_bz] using hbz
              refine ev_wput (v := .int x) Fr0 hP hS hd hfl hpk hh (Nat.eq_of_beq_eq_true hc) (by simpa [Nat.blt_eq] using hl) (by rw [hty]; rcases hb01 with rfl | rfl <;> rfl) (by rw [hty]; rcases hb01 with rfl | rfl <;> rfl) (fun H1 locs1 z1 hP1 hS1 => ?_)
              rw [← hnx]
              exact KW (by simp) H1 locs1 z1 hP1 hS1
            · cases hr
          · cases hx
        · cases hx
      · cases hx
    case putstatic i =>
      have hx : (match (generalizing := false) st with
        | .ref b :: .ref a :: r => match h[a]? with
          | some (.inr (c, vs)) => match Nat.beq c (i / 32), Nat.blt (i % 32) vs.length with
            | true, true => some (r, h.set a (.inr (c, vs.set (i % 32) (.ref b))))
            | _, _ => none
          | _ => none
        | _ => none) = some (st', h') := hx
      split at hx
      next b a r _ =>
        split at hx
        next cn vs hh =>
          split at hx
          next hc hl =>
            cases hx
            obtain ⟨raw, len, hd, hr⟩ := ev_okI_dec hok (by intro h; cases h) (by intro h; cases h)
            simp only [ev_okR] at hr
            split at hr
            next ix =>
              simp only [Bool.and_eq_true, decide_eq_true_eq] at hr
              obtain ⟨⟨⟨⟨rfl, hnx⟩, hfl⟩, hpk⟩, hty⟩ := hr
              have hty2 : (∃ n, ev_ty (i / 32) (i % 32) = .object n) ∨ ∃ t, ev_ty (i / 32) (i % 32) = .array t := by
                cases ht : ev_ty (i / 32) (i % 32) <;> rw [ht] at hty <;> first | exact Or.inl ⟨_, rfl⟩ | exact Or.inr ⟨_, rfl⟩ | cases hty
              refine ev_wput (v := .ref b) Fr0 hP hS hd hfl hpk hh (Nat.eq_of_beq_eq_true hc) (by simpa [Nat.blt_eq] using hl) (by rcases hty2 with ⟨n, q⟩ | ⟨n, q⟩ <;> rw [q] <;> rfl) (by rcases hty2 with ⟨n, q⟩ | ⟨n, q⟩ <;> rw [q] <;> rfl) (fun H1 locs1 z1 hP1 hS1 => ?_)
              rw [← hnx]
              exact KW (by simp) H1 locs1 z1 hP1 hS1
            · cases hr
          · cases hx
        · cases hx
      · cases hx
    case iaload =>
      have hx : (match (generalizing := false) st with
        | .int j :: .ref a :: r => match h[a]? with
          | some (.inl (0, xs)) => match ev_in j xs.length with
            | true => some (.int (xs.getD j.toNatClampNeg 0) :: r, h)
            | false => none
          | _ => none
        | _ => none) = some (st', h') := hx
      split at hx
      next j a r _ =>
        split at hx
        next xs hh =>
          split at hx
          next hj =>
            cases hx
            have K := KR rfl
            obtain ⟨raw, len, hd, hr⟩ := ev_okI_dec hok (by intro h; cases h) (by intro h; cases h)
            simp only [ev_okR, Bool.and_eq_true, decide_eq_true_eq] at hr
            obtain ⟨⟨rfl, rfl⟩, hnx⟩ := hr
            rw [hnx] at K
            exact va_iald Fx Fb FK hP a 0 (ev_cw_get base ra fv aC hh) rfl (ev_in_vp hj) hd K
          · cases hx
        · cases hx
      · cases hx
    case baload =>
      have hx : (match (generalizing := false) st with
        | .int j :: .ref a :: r => match h[a]? with
          | some (.inl (1, xs)) => match ev_in j xs.length with
            | true => some (.int (xs.getD j.toNatClampNeg 0) :: r, h)
            | false => none
          | some (.inl (2, xs)) => match ev_in j xs.length with
            | true => some (.int (xs.getD j.toNatClampNeg 0) :: r, h)
            | false => none
          | _ => none
        | _ => none) = some (st', h') := hx
      split at hx
      next j a r _ =>
        split at hx
        next xs hh =>
          split at hx
          next hj =>
            cases hx
            have K := KR rfl
            obtain ⟨raw, len, hd, hr⟩ := ev_okI_dec hok (by intro h; cases h) (by intro h; cases h)
            simp only [ev_okR, Bool.and_eq_true, decide_eq_true_eq] at hr
            obtain ⟨⟨rfl, rfl⟩, hnx⟩ := hr
            rw [hnx] at K
            exact va_bald Fx Fb FK hP a 1 (ev_cw_get base ra fv aC hh) rfl (ev_in_vp hj) hd K
          · cases hx
        next xs hh =>
          split at hx
          next hj =>
            cases hx
            have K := KR rfl
            obtain ⟨raw, len, hd, hr⟩ := ev_okI_dec hok (by intro h; cases h) (by intro h; cases h)
            simp only [ev_okR, Bool.and_eq_true, decide_eq_true_eq] at hr
            obtain ⟨⟨rfl, rfl⟩, hnx⟩ := hr
            rw [hnx] at K
            exact va_zald Fx Fb FK hP a 2 (ev_cw_get base ra fv aC hh) rfl (ev_in_vp hj) hd K
          · cases hx
        · cases hx
      · cases hx
    case iastore =>
      have hx : (match (generalizing := false) st with
        | .int x :: .int j :: .ref a :: r => match h[a]? with
          | some (.inl (0, xs)) => match ev_in j xs.length with
            | true => some (r, h.set a (.inl (0, xs.set j.toNatClampNeg x)))
            | false => none
          | _ => none
        | _ => none) = some (st', h') := hx
      split at hx
      next x j a r _ =>
        split at hx
        next xs hh =>
          split at hx
          next hj =>
            cases hx
            obtain ⟨raw, len, hd, hr⟩ := ev_okI_dec hok (by intro h; cases h) (by intro h; cases h)
            simp only [ev_okR, Bool.and_eq_true, decide_eq_true_eq] at hr
            obtain ⟨⟨rfl, rfl⟩, hnx⟩ := hr
            have hv := ev_in_vp hj
            refine ew_iast Fx Fb FK hP (ev_cw_D base ra fv aC h) hS a 0 (ev_cw_get base ra fv aC hh) rfl hv hd (fun H1 locs1 z1 hP1 hS1 => ?_)
            rw [← hnx]
            refine KW (by simp) H1 locs1 z1 ?_ hS1
            rw [ev_cw_set]
            simp only [ev_ce, List.length_set]
            rw [ev_upd_set xs (ev_vp_lt hv)] at hP1
            exact hP1
          · cases hx
        · cases hx
      · cases hx
    case bastore =>
      have hx : (match (generalizing := false) st with
        | .int x :: .int j :: .ref a :: r => match h[a]? with
          | some (.inl (1, xs)) => match ev_in j xs.length with
            | true => some (r, h.set a (.inl (1, xs.set j.toNatClampNeg (vp_nar .byte x))))
            | false => none
          | some (.inl (2, xs)) => match ev_in j xs.length with
            | true => some (r, h.set a (.inl (2, xs.set j.toNatClampNeg (vp_nar .boolean x))))
            | false => none
          | _ => none
        | _ => none) = some (st', h') := hx
      split at hx
      next x j a r _ =>
        split at hx
        next xs hh =>
          split at hx
          next hj =>
            cases hx
            obtain ⟨raw, len, hd, hr⟩ := ev_okI_dec hok (by intro h; cases h) (by intro h; cases h)
            simp only [ev_okR, Bool.and_eq_true, decide_eq_true_eq] at hr
            obtain ⟨⟨rfl, rfl⟩, hnx⟩ := hr
            have hv := ev_in_vp hj
            refine ew_bast Fx Fb FK hP (ev_cw_D base ra fv aC h) hS a 1 (ev_cw_get base ra fv aC hh) rfl hv hd (fun H1 locs1 z1 hP1 hS1 => ?_)
            rw [← hnx]
            refine KW (by simp) H1 locs1 z1 ?_ hS1
            rw [ev_cw_set]
            simp only [ev_ce, List.length_set]
            rw [ev_upd_set xs (ev_vp_lt hv)] at hP1
            exact hP1
          · cases hx
        next xs hh =>
          split at hx
          next hj =>
            cases hx
            obtain ⟨raw, len, hd, hr⟩ := ev_okI_dec hok (by intro h; cases h) (by intro h; cases h)
            simp only [ev_okR, Bool.and_eq_true, decide_eq_true_eq] at hr
            obtain ⟨⟨rfl, rfl⟩, hnx⟩ := hr
            have hv := ev_in_vp hj
            refine ew_zast Fx Fb FK hP (ev_cw_D base ra fv aC h) hS a 2 (ev_cw_get base ra fv aC hh) rfl hv hd (fun H1 locs1 z1 hP1 hS1 => ?_)
            rw [← hnx]
            refine KW (by simp) H1 locs1 z1 ?_ hS1
            rw [ev_cw_set]
            simp only [ev_ce, List.length_set]
            rw [ev_upd_set xs (ev_vp_lt hv)] at hP1
            exact hP1
          · cases hx
        · cases hx
      · cases hx
    case aaload =>
      have hx : (match (generalizing := false) st with
        | .int j :: .ref a :: r => match h[a]? with
          | some (.inr (c, vs)) => match (Nat.beq c 14 || Nat.beq c 12), ev_in j vs.length, vs[j.toNatClampNeg]? with
            | true, true, some (.ref b) => some (.ref b :: r, h)
            | _, _, _ => none
          | _ => none
        | _ => none) = some (st', h') := hx
      split at hx
      next j a r _ =>
        split at hx
        next cn vs hh =>
          split at hx
          next b hc hj hb =>
            cases hx
            have K := KR rfl
            obtain ⟨raw, len, hd, hr⟩ := ev_okI_dec hok (by intro h; cases h) (by intro h; cases h)
            simp only [ev_okR, Bool.and_eq_true, decide_eq_true_eq] at hr
            obtain ⟨⟨rfl, rfl⟩, hnx⟩ := hr
            rw [hnx] at K
            have he := ev_cw_get base ra fv aC hh
            have hg : ev_rf base (vs.getD j.toNatClampNeg .null) = some (base + b) := by
              rw [List.getD_eq_getElem?_getD, hb]; rfl
            rw [Bool.or_eq_true] at hc
            rcases hc with hc | hc
            · have hcn := Nat.eq_of_beq_eq_true hc
              subst hcn
              rw [ev_ce_q (by decide)] at he
              refine va_aldq Fx Fb FK hP a 3 he rfl (ev_in_vp hj) hd ?_
              rw [hg]
              exact K
            · have hcn := Nat.eq_of_beq_eq_true hc
              subst hcn
              rw [ev_ce_q (by decide)] at he
              refine va_aldq Fx Fb FK hP a 4 he rfl (ev_in_vp hj) hd ?_
              rw [hg]
              exact K
          · cases hx
        · cases hx
      · cases hx
    case aastore =>
      have hx : (match (generalizing := false) st with
        | .ref b :: .int j :: .ref a :: r => match h[a]?, h[b]? with
          | some (.inr (c, vs)), some (.inr (cb, _)) => match Nat.beq c (10 + cb), (Nat.beq cb 4 || Nat.beq cb 2), ev_in j vs.length with
            | true, true, true => some (r, h.set a (.inr (c, vs.set j.toNatClampNeg (.ref b))))
            | _, _, _ => none
          | _, _ => none
        | _ => none) = some (st', h') := hx
      split at hx
      next b j a r _ =>
        split at hx
        next cn vs cb vb hh hhb =>
          split at hx
          next hc hcb hj =>
            cases hx
            obtain ⟨raw, len, hd, hr⟩ := ev_okI_dec hok (by intro h; cases h) (by intro h; cases h)
            simp only [ev_okR, Bool.and_eq_true, decide_eq_true_eq] at hr
            obtain ⟨⟨rfl, rfl⟩, hnx⟩ := hr
            have hv := ev_in_vp hj
            have he := ev_cw_get base ra fv aC hh
            have heb := ev_cw_get base ra fv aC hhb
            have hcn := Nat.eq_of_beq_eq_true hc
            subst hcn
            have hup : va_up (fun q => ev_rf base (vs.getD q .null)) j.toNatClampNeg (some (base + b)) = fun q => ev_rf base ((vs.set j.toNatClampNeg (.ref b)).getD q .null) := by
              funext q
              have hlt := ev_vp_lt hv
              by_cases hq : q = j.toNatClampNeg
              · subst hq
                simp [va_up, hlt, ev_rf]
              · simp [va_up, hq, Ne.symm hq, List.getD_eq_getElem?_getD, List.getElem?_set]
            rw [Bool.or_eq_true] at hcb
            rcases hcb with hcb | hcb
            · have hcn := Nat.eq_of_beq_eq_true hcb
              subst hcn
              rw [ev_ce_q (by decide)] at he
              rw [ev_ce_o (by decide)] at heb
              refine ew_astq (r := (ev_cn 4, ev_T 4, ev_N 4)) Fx Fb FK hP (ev_cw_D base ra fv aC h) hS a 3 b 4 he rfl heb rfl hv hd (fun H1 locs1 z1 hP1 hS1 => ?_)
              rw [← hnx]
              refine KW (by simp) H1 locs1 z1 ?_ hS1
              rw [ev_cw_set, ev_ce_q (by decide), List.length_set]
              rw [hup] at hP1
              exact hP1
            · have hcn := Nat.eq_of_beq_eq_true hcb
              subst hcn
              rw [ev_ce_q (by decide)] at he
              rw [ev_ce_o (by decide)] at heb
              refine ew_astq (r := (ev_cn 2, ev_T 2, ev_N 2)) Fx Fb FK hP (ev_cw_D base ra fv aC h) hS a 4 b 2 he rfl heb rfl hv hd (fun H1 locs1 z1 hP1 hS1 => ?_)
              rw [← hnx]
              refine KW (by simp) H1 locs1 z1 ?_ hS1
              rw [ev_cw_set, ev_ce_q (by decide), List.length_set]
              rw [hup] at hP1
              exact hP1
          · cases hx
        · cases hx
      · cases hx
    case new cn =>
      have hx : (match Nat.blt cn 7 with
        | true => some (.ref h.length :: st, h ++ [.inr (cn, ev_df cn)])
        | false => none) = some (st', h') := hx
      split at hx
      next hc7 =>
        cases hx
        obtain ⟨raw, len, hd, hr⟩ := ev_okI_dec hok (by intro h; cases h) (by intro h; cases h)
        simp only [ev_okR] at hr
        split at hr
        next ix =>
          simp only [Bool.and_eq_true, decide_eq_true_eq] at hr
          obtain ⟨⟨⟨rfl, hnx⟩, hcl⟩, h7⟩ := hr
          obtain ⟨k1, k2, k3⟩ := KN (by simp)
          have hdf := ev_all ev_df_ok h7
          simp only [Bool.and_eq_true, decide_eq_true_eq] at hdf
          obtain ⟨⟨d1, d2⟩, d3⟩ := hdf
          refine ew_new (ci := cn) (fs := ev_df cn) Fx Fb Fw (ev_uws h7) (ev_ty cn) (ev_tyok h7) Fo (Fw _ (ev_cls_in hcl)) (Fw _ (ev_inst_in h7)) (Fw _ (ev_init_in (by omega))) FK hP hS (ev_cl_get h7) (fun j hj => of_decide_eq_true (ev_all d3 hj)) k1 (by omega) hd (fun H1 z1 hP1 hS1 => ?_)
          have K1 := k3 (ev_N cn) d2 H1 z1 (by rw [ev_cw_app, ev_ce_o h7, ev_df_vl base ra fv h7, ← hz]; exact hP1) hS1
          rw [hnx] at K1
          rw [hz]
          exact K1
        · cases hr
      · cases hx
    case newarray t =>
      have hx : (match (generalizing := false) st with
        | .int n :: r => match (generalizing := false) ev_in n 201, t with
          | true, .int => some (.ref h.length :: r, h ++ [.inl (0, List.replicate n.toNatClampNeg 0)])
          | true, .byte => some (.ref h.length :: r, h ++ [.inl (1, List.replicate n.toNatClampNeg 0)])
          | true, .boolean => some (.ref h.length :: r, h ++ [.inl (2, List.replicate n.toNatClampNeg 0)])
          | _, _ => none
        | _ => none) = some (st', h') := hx
      have hrep : ∀ (n j : Nat), (List.replicate n (0 : Int32)).getD j 0 = 0 := by
        intro n j
        rw [List.getD_eq_getElem?_getD, List.getElem?_replicate]
        split <;> rfl
      obtain ⟨raw, len, hd, hr⟩ := ev_okI_dec hok (by intro h; cases h) (by intro h; cases h)
      simp only [ev_okR, Bool.and_eq_true, decide_eq_true_eq] at hr
      obtain ⟨⟨rfl, rfl⟩, hnx⟩ := hr
      split at hx
      next n r _ =>
        split at hx
        next =>
          have hn : ev_in n 201 = true := by assumption
          cases hx
          have hv := ev_in_vp hn
          have hlt := ev_vp_lt hv
          obtain ⟨k1, k2, k3⟩ := KN (by simp)
          refine ew_newa (a0 := (n.toNatClampNeg, .inl (fun j => (List.replicate n.toNatClampNeg (0 : Int32)).getD j 0))) (cA0 := aC 0) Fx Fb (Fw _ (ev_arrw .int (Or.inl rfl))) rfl hP hS (fun cA => by rw [vp_cell_i]; congr 1; funext q; rw [hrep]; rfl) (FK.2 0 _ rfl).2 (fun q => hv (Or.inl q)) rfl (Nat.le_trans (Nat.mul_le_mul_right _ (Nat.le_of_lt_succ hlt)) (by decide)) k1 (by omega) hd (fun H1 z1 hP1 hS1 => ?_)
          have K1 := k3 n.toNatClampNeg (by omega) H1 z1 (by rw [ev_cw_app, ← hz]; simp only [ev_ce, List.length_replicate]; exact hP1) hS1
          rw [hnx] at K1
          rw [hz]
          exact K1
        next =>
          have hn : ev_in n 201 = true := by assumption
          cases hx
          have hv := ev_in_vp hn
          have hlt := ev_vp_lt hv
          obtain ⟨k1, k2, k3⟩ := KN (by simp)
          refine ew_newa (a0 := (n.toNatClampNeg, .inl (fun j => (List.replicate n.toNatClampNeg (0 : Int32)).getD j 0))) (cA0 := aC 1) Fx Fb (Fw _ (ev_arrw .byte (Or.inr (Or.inl rfl)))) rfl hP hS (fun cA => by rw [vp_cell_i]; congr 1; funext q; rw [hrep]; rfl) (FK.2 1 _ rfl).2 (fun q => hv (Or.inl q)) rfl (Nat.le_trans (Nat.mul_le_mul_right _ (Nat.le_of_lt_succ hlt)) (by decide)) k1 (by omega) hd (fun H1 z1 hP1 hS1 => ?_)
          have K1 := k3 n.toNatClampNeg (by omega) H1 z1 (by rw [ev_cw_app, ← hz]; simp only [ev_ce, List.length_replicate]; exact hP1) hS1
          rw [hnx] at K1
          rw [hz]
          exact K1
        next =>
          have hn : ev_in n 201 = true := by assumption
          cases hx
          have hv := ev_in_vp hn
          have hlt := ev_vp_lt hv
          obtain ⟨k1, k2, k3⟩ := KN (by simp)
          refine ew_newa (a0 := (n.toNatClampNeg, .inl (fun j => (List.replicate n.toNatClampNeg (0 : Int32)).getD j 0))) (cA0 := aC 2) Fx Fb (Fw _ (ev_arrw .boolean (Or.inr (Or.inr rfl)))) rfl hP hS (fun cA => by rw [vp_cell_i]; congr 1; funext q; rw [hrep]; rfl) (FK.2 2 _ rfl).2 (fun q => hv (Or.inl q)) rfl (Nat.le_trans (Nat.mul_le_mul_right _ (Nat.le_of_lt_succ hlt)) (by decide)) k1 (by omega) hd (fun H1 z1 hP1 hS1 => ?_)
          have K1 := k3 n.toNatClampNeg (by omega) H1 z1 (by rw [ev_cw_app, ← hz]; simp only [ev_ce, List.length_replicate]; exact hP1) hS1
          rw [hnx] at K1
          rw [hz]
          exact K1
        · cases hx
      · cases hx
    case anewarray cn =>
      have hx : (match (generalizing := false) st with
        | .int n :: r => match ev_in n 201, (Nat.beq cn 4 || Nat.beq cn 2) with
          | true, true => some (.ref h.length :: r, h ++ [.inr (10 + cn, List.replicate n.toNatClampNeg .null)])
          | _, _ => none
        | _ => none) = some (st', h') := hx
      have hrep : ∀ (n j : Nat), ev_rf base ((List.replicate n Value.null).getD j .null) = none := by
        intro n j
        rw [List.getD_eq_getElem?_getD, List.getElem?_replicate]
        split <;> rfl
      obtain ⟨raw, len, hd, hr⟩ := ev_okI_dec hok (by intro h; cases h) (by intro h; cases h)
      simp only [ev_okR] at hr
      split at hr
      next ix =>
        simp only [Bool.and_eq_true, decide_eq_true_eq] at hr
        obtain ⟨⟨⟨rfl, hnx⟩, hcl⟩, -⟩ := hr
        split at hx
        next n r _ =>
          split at hx
          next hn hc =>
            cases hx
            have hv := ev_in_vp hn
            have hlt := ev_vp_lt hv
            obtain ⟨k1, k2, k3⟩ := KN (by simp)
            rw [Bool.or_eq_true] at hc
            rcases hc with hc | hc
            · have hcn := Nat.eq_of_beq_eq_true hc
              subst hcn
              obtain ⟨kA, comp, q1, q2, q3, q4⟩ := (FK.2 3 _ rfl).2
              refine ew_newq (C := RX4) (cA0 := aC 14) Fx Fb Fo (Fw _ (ev_cls_in hcl)) FR.2.2.2.2.2.1 hP hS q4 (fun q => hv (Or.inl q)) rfl (by omega) k1 (by omega) hd (fun H1 z1 hP1 hS1 => ?_)
              have K1 := k3 n.toNatClampNeg (by omega) H1 z1 (by rw [ev_cw_app, ← hz, ev_ce_q (by decide), List.length_replicate]; simp only [hrep]; exact hP1) hS1
              rw [hnx] at K1
              rw [hz]
              exact K1
            · have hcn := Nat.eq_of_beq_eq_true hc
              subst hcn
              obtain ⟨kA, comp, q1, q2, q3, q4⟩ := (FK.2 4 _ rfl).2
              refine ew_newq (C := RX2) (cA0 := aC 12) Fx Fb Fo (Fw _ (ev_cls_in hcl)) FR.2.2.2.2.2.2 hP hS q4 (fun q => hv (Or.inl q)) rfl (by omega) k1 (by omega) hd (fun H1 z1 hP1 hS1 => ?_)
              have K1 := k3 n.toNatClampNeg (by omega) H1 z1 (by rw [ev_cw_app, ← hz, ev_ce_q (by decide), List.length_replicate]; simp only [hrep]; exact hP1) hS1
              rw [hnx] at K1
              rw [hz]
              exact K1
          · cases hx
        · cases hx
      · cases hr
    case faload =>
      have hx : (match (generalizing := false) st with
        | .int j :: .retAddr a :: r => match Nat.blt a 4, ev_ro scr a with
          | true, some xs => match ev_in j xs.length with
            | true => some (.int (xs.getD j.toNatClampNeg 0) :: r, h)
            | false => none
          | _, _ => none
        | _ => none) = some (st', h') := hx
      split at hx
      next j a r _ =>
        split at hx
        next xs ha hxs =>
          split at hx
          next hj =>
            cases hx
            have K := KR rfl
            obtain ⟨raw, len, hd, hr⟩ := ev_okI_dec hok (by intro h; cases h) (by intro h; cases h)
            simp only [ev_okR, Bool.and_eq_true, decide_eq_true_eq] at hr
            obtain ⟨⟨rfl, rfl⟩, hnx⟩ := hr
            rw [hnx] at K
            have ha4 : a < 4 := by simpa [Nat.blt_eq] using ha
            have hT := FR.1 a xs hxs
            rw [if_pos ha4] at hT
            have e1 : ev_vl base ra fv (.retAddr a) = .ref (ra a) := if_neg (by omega)
            simp only [List.map_cons, e1]
            exact va_ti Fx Fb hT hS (ev_in_vp hj) rfl hd K
          · cases hx
        · cases hx
      · cases hx
    case caload =>
      have hx : (match (generalizing := false) st with
        | .int j :: .retAddr a :: r => match Nat.blt a 20, ev_ro scr a with
          | false, some xs => match ev_in j xs.length with
            | true => some (.int (xs.getD j.toNatClampNeg 0) :: r, h)
            | false => none
          | _, _ => none
        | _ => none) = some (st', h') := hx
      split at hx
      next j a r _ =>
        split at hx
        next xs ha hxs =>
          split at hx
          next hj =>
            cases hx
            have K := KR rfl
            obtain ⟨raw, len, hd, hr⟩ := ev_okI_dec hok (by intro h; cases h) (by intro h; cases h)
            simp only [ev_okR, Bool.and_eq_true, decide_eq_true_eq] at hr
            obtain ⟨⟨rfl, rfl⟩, hnx⟩ := hr
            rw [hnx] at K
            have ha4 : ¬ a < 20 := fun q => by
              have : Nat.blt a 20 = true := by simpa [Nat.blt_eq] using q
              rw [this] at ha; cases ha
            have hT := FR.1 a xs hxs
            rw [if_neg (by omega)] at hT
            have e1 : ev_vl base ra fv (.retAddr a) = .ref (ra a) := if_neg (by omega)
            simp only [List.map_cons, e1]
            exact va_tb Fx Fb hT hS (ev_in_vp hj) rfl hd K
          · cases hx
        · cases hx
      · cases hx
    case arraylength =>
      have hx : (match (generalizing := false) st with
        | .retAddr a :: r => match ev_ro scr a with
          | some xs => some (.int (Int32.ofNat xs.length) :: r, h)
          | none => none
        | _ => none) = some (st', h') := hx
      split at hx
      next a r _ =>
        split at hx
        next xs hxs =>
          cases hx
          have K := KR rfl
          obtain ⟨raw, len, hd, hr⟩ := ev_okI_dec hok (by intro h; cases h) (by intro h; cases h)
          simp only [ev_okR, Bool.and_eq_true, decide_eq_true_eq] at hr
          obtain ⟨⟨rfl, rfl⟩, hnx⟩ := hr
          rw [hnx] at K
          have ha4 : ¬ a = 4 := fun q => by subst q; cases hxs
          have e1 : ev_vl base ra fv (.retAddr a) = .ref (ra a) := if_neg ha4
          simp only [List.map_cons, e1]
          exact va_tlen Fx Fb (FR.1 a xs hxs) hS rfl hd K
        · cases hx
      · cases hx
    case dload k =>
      have hx : (match (generalizing := false) st with
        | .retAddr a :: r => match (generalizing := false) Nat.blt 9 a, Nat.blt a 18, k with
          | true, true, 0 => some (.retAddr (a + 10) :: r, h)
          | true, true, 1 => some (.int 0 :: r, h)
          | _, _, _ => none
        | _ => none) = some (st', h') := hx
      obtain ⟨raw, len, hd, hr⟩ := ev_okI_dec hok (by intro h; cases h) (by intro h; cases h)
      simp only [ev_okR] at hr
      split at hr
      next ix =>
        simp only [Bool.and_eq_true, decide_eq_true_eq] at hr
        obtain ⟨⟨rfl, hnx⟩, hsf⟩ := hr
        have hlink := Fw _ (ev_sfs_in hsf)
        split at hx
        next a r _ =>
          split at hx
          next =>
            have h9 : Nat.blt 9 a = true := by assumption
            have h18 : Nat.blt a 18 = true := by assumption
            cases hx
            have K := KR rfl
            rw [hnx] at K
            have a9 : 9 < a := by simpa [Nat.blt_eq] using h9
            have a18 : a < 18 := by simpa [Nat.blt_eq] using h18
            obtain ⟨i, rfl⟩ : ∃ i, a = 10 + i := ⟨a - 10, by omega⟩
            have e1 : ev_vl base ra fv (.retAddr (10 + i)) = .ref (ra (10 + i)) := if_neg (by omega)
            have e2 : ev_vl base ra fv (.retAddr (10 + i + 10)) = .ref (ra (20 + i)) := by
              rw [show 10 + i + 10 = 20 + i by omega]
              exact if_neg (by omega)
            simp only [List.map_cons, e2] at K
            simp only [List.map_cons, e1]
            exact vk_getf Fx Fb (FR.2.1 i (by omega)).2.2 hS Fo hlink (fun _ q => q) hd K
          next =>
            have h9 : Nat.blt 9 a = true := by assumption
            have h18 : Nat.blt a 18 = true := by assumption
            cases hx
            have K := KR rfl
            rw [hnx] at K
            have a9 : 9 < a := by simpa [Nat.blt_eq] using h9
            have a18 : a < 18 := by simpa [Nat.blt_eq] using h18
            obtain ⟨i, rfl⟩ : ∃ i, a = 10 + i := ⟨a - 10, by omega⟩
            have e1 : ev_vl base ra fv (.retAddr (10 + i)) = .ref (ra (10 + i)) := if_neg (by omega)
            simp only [List.map_cons, e1]
            exact vk_getf Fx Fb (FR.2.1 i (by omega)).2.1 hS Fo hlink (fun _ q => q) hd K
          · cases hx
        · cases hx
      · cases hr
    all_goals (exact absurd hx (by intro h; cases h))
end STEPH
