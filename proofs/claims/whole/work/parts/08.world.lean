/-! The machine of our own and the kit's: how the one's cells lie in the other's heap. -/
theorem ev_plain : ((List.range 214).all (fun i => plainFor (ev_y i))) = true := by decide +kernel
theorem ev_desc : ((List.range 214).all (fun i => decide ((ev_y i).cls = ev_cn (ev_o i)) && decide ((ev_y i).cls ≠ "java/lang/invoke/MethodHandle") && decide ((ev_y i).cls ≠ "java/lang/invoke/VarHandle") && decide (ev_L i ≤ 40) && decide ((ev_pb i).getD 0 0 = 0) && decide (ev_o i < 13))) = true := by decide +kernel
def ev_isSt (mi : Nat) : Bool := ev_stm.any (fun e => Nat.beq e.1 mi)
theorem ev_desc2 : ((List.range 213).all (fun i => decide ((parseMethodDescriptor (ev_y i).desc).map (fun d => d.parameters.length) = some (if ev_isSt i then ev_np i else ev_np i - 1)))) = true := by decide +kernel
theorem ev_len : ev_ml.length = 214 := by decide +kernel
theorem ev_all {n : Nat} {f : Nat → Bool} (h : (List.range n).all f = true) {i : Nat} (hi : i < n) : f i = true := List.all_eq_true.mp h i (List.mem_range.mpr hi)
theorem ev_pr_of {k : Nat} {cd' : List ev_I} {mL np own : Nat} (h : ev_pr k = some (cd', mL, np, own)) : k < 214 ∧ cd' = ev_cd k ∧ mL = ev_L k ∧ np = ev_np k ∧ own = ev_o k := by
  unfold ev_pr at h
  cases hm : ev_ml[k]? with
  | none => rw [hm] at h; cases h
  | some M =>
    obtain ⟨y, b, mL0, rt, np0, own0, cd0, pb0⟩ := M
    rw [hm] at h
    cases h
    have hl := (List.getElem?_eq_some_iff.mp hm).1
    have hM : ev_M k = (y, b, mL, rt, np, own, cd', pb0) := by
      unfold ev_M
      rw [List.getD_eq_getElem?_getD, hm]
      rfl
    exact ⟨by rw [← ev_len]; exact hl, by rw [ev_cd, hM], by rw [ev_L, hM], by rw [ev_np, hM], by rw [ev_o, hM]⟩
section WORLD
variable (base : Nat) (ra : Nat → Nat) (fv : Value) (aC : Nat → ClassId)
def ev_vl : Value → Value
  | .ref k => .ref (base + k)
  | .retAddr k => if k = 4 then fv else .ref (ra k)
  | v => v
def ev_rf : Value → Option Nat
  | .ref k => some (base + k)
  | _ => none
def ev_ce (c : ev_C) : va_E := match c with
  | .inl (t, xs) => .inl (aC t, xs.length, .inl (fun j => xs.getD j 0))
  | .inr (c, vs) => if c < 7 then .inr (c, vs.map (ev_vl base ra fv)) else .inl (aC c, vs.length, .inr (.inr (.inr (.inr (fun j => ev_rf base (vs.getD j .null))))))
def ev_cw (h : ev_H) : va_W := h.mapIdx (fun k c => (base + k, ev_ce base ra fv aC c))
def ev_A : Nat → Prop := fun q => base ≤ q
abbrev ev_tys : List (ClassId × FieldType) := [(aC 0, .int), (aC 1, .byte), (aC 2, .boolean), (aC 14, .object RX4), (aC 12, .object RX2)]
theorem ev_cw_get {h : ev_H} {k : Nat} {c : ev_C} (hk : h[k]? = some c) : (ev_cw base ra fv aC h)[k]? = some (base + k, ev_ce base ra fv aC c) := by
  unfold ev_cw
  rw [List.getElem?_mapIdx, hk]
  rfl
theorem ev_cw_set (h : ev_H) (k : Nat) (c : ev_C) : ev_cw base ra fv aC (h.set k c) = (ev_cw base ra fv aC h).set k (base + k, ev_ce base ra fv aC c) := by
  apply List.ext_getElem?
  intro i
  unfold ev_cw
  rw [List.getElem?_mapIdx, List.getElem?_set, List.getElem?_set, List.getElem?_mapIdx, List.length_mapIdx]
  by_cases hi : k = i
  · subst hi
    rw [if_pos rfl, if_pos rfl]
    split <;> rfl
  · rw [if_neg hi, if_neg hi]
theorem ev_cw_app (h : ev_H) (c : ev_C) : ev_cw base ra fv aC (h ++ [c]) = ev_cw base ra fv aC h ++ [(base + h.length, ev_ce base ra fv aC c)] := by
  unfold ev_cw
  rw [List.mapIdx_concat]
theorem ev_cw_D (h : ev_H) : va_D (ev_A base) (ev_cw base ra fv aC h) := by
  have key : ∀ (i : Nat) (q : Nat × va_E), (ev_cw base ra fv aC h)[i]? = some q → q.1 = base + i := by
    intro i q hq
    unfold ev_cw at hq
    rw [List.getElem?_mapIdx] at hq
    cases hi : h[i]? with
    | none => rw [hi] at hq; cases hq
    | some c => rw [hi] at hq; cases hq; rfl
  refine ⟨fun i j p q hp hq e => ?_, fun k q hk => ?_⟩
  · have h1 := key i p hp
    have h2 := key j q hq
    omega
  · show base ≤ q.1
    rw [key k q hk]
    omega
variable (D : va_G) (scr : List Int32)
/-- what was there before, and nobody writes -/
def ev_RO (U : State) (H : Heap) : Prop :=
  (∀ k xs, ev_ro scr k = some xs → va_T (if k < 4 then .int else .byte) (ra k) xs.length (fun j => .int (xs.getD j 0)) (ev_A base) U H) ∧
  (∀ i, i < 8 → va_O "java/lang/String" (ra (10 + i)) (ev_A base) U H ∧ va_OF "java/lang/String" "coder" "B" (.int 0) (ra (10 + i)) (ev_A base) U H ∧ va_OF "java/lang/String" "value" "[B" (.ref (ra (20 + i))) (ra (10 + i)) (ev_A base) U H) ∧
  (∀ e ∈ ev_strs, vk_R RX3 e.1 (ev_txt (e.2 - 10)) (ra e.2) U) ∧
  (∀ j, j < 5 → va_Z (ev_sf j).1 (ev_sf j).2.1 (ev_sf j).2.2 (ev_vl base ra fv (ev_sv j)) (ev_A base) U H) ∧
  (∀ e ∈ ev_mns, va_Nw (.methodLinkNest (ev_cn e.2.1) e.2.2.1 (ev_y e.2.2.2) "TenPledges") U) ∧
  va_AO RX4 U ∧ va_AO RX2 U
theorem ev_RO.kept {U : State} {H H1 : Heap} (h : ev_RO base ra fv scr U H) (hq : ∀ a : Nat, a < H.size → ¬ ev_A base a → H1[a]? = H[a]?) : ev_RO base ra fv scr U H1 := by
  obtain ⟨h1, h2, h3, h4, h5⟩ := h
  exact ⟨fun k xs e => (h1 k xs e).kept hq, fun i hi => ⟨(h2 i hi).1.kept hq, (h2 i hi).2.1.kept hq, (h2 i hi).2.2.kept hq⟩, h3, fun j hj => (h4 j hj).kept hq, h5⟩
theorem ev_RO.same {u U : State} {H : Heap} (hv : U.vm = u.vm) (h : ev_RO base ra fv scr u H) : ev_RO base ra fv scr U H := by
  have hal : u.vm.Alike U.vm := by rw [hv]; exact Vm.Alike.refl _
  obtain ⟨h1, h2, h3, h4, h5, h6, h7⟩ := h
  exact ⟨fun k xs e => (h1 k xs e).moved hal, fun i hi => ⟨(h2 i hi).1.moved hal, (h2 i hi).2.1.moved hal, (h2 i hi).2.2.moved hal⟩, fun e he => (h3 e he).same hv, fun j hj => (h4 j hj).moved hal, fun e he => (h5 e he).same rfl hv.symm, h6.moved hal, h7.moved hal⟩
theorem ev_RO.warm {s U : State} {H : Heap} (hW : s.WarmedH U.vm) (h : ev_RO base ra fv scr s H) : ev_RO base ra fv scr U H := by
  have hal : s.vm.Alike U.vm := hW.alike
  obtain ⟨h1, h2, h3, h4, h5, h6, h7⟩ := h
  exact ⟨fun k xs e => (h1 k xs e).moved hal, fun i hi => ⟨(h2 i hi).1.moved hal, (h2 i hi).2.1.moved hal, (h2 i hi).2.2.moved hal⟩, fun e he => (h3 e he).warm hW, fun j hj => (h4 j hj).moved hal, fun e he => (h5 e he).warmM hW, h6.moved hal, h7.moved hal⟩
/-- what holds in a method's frame -/
def ev_F (p : Program) (s : State) (m : MethodId) (args : Array Value) (meth : Method) (c : Code) (mi : Nat) : Prop :=
  p.tables.exec = Jvm.exec ∧ c.code = ev_b mi ∧ meth.sig.returnType = ev_r mi ∧ c.maxLocals = ev_L mi ∧ s.vm.findClass (ev_cn (ev_o mi)) = some m.cls ∧ (∀ w ∈ ev_UW, w.before args s = true) ∧ meth.locks = false ∧ ((ev_y mi).name = "<init>" → meth.name = "<init>") ∧ va_K D ev_cl (ev_tys aC) s ∧ ev_RO base ra fv scr s s.heap ∧ base ≤ s.heap.size
def ev_kn : Value → Bool
  | .int _ => true
  | .long _ => true
  | .ref _ => true
  | .retAddr _ => true
  | _ => false
def ev_kl (ls : List Value) : List (Nat × Value) := (List.range ls.length).filterMap (fun i => match ev_lg ls i with
  | some v => if ev_kn v = true then some (i, ev_vl base ra fv v) else none
  | none => none)
def ev_LH (lsC : Array Slot) (nL : Nat) (ls : List Value) : Prop := lsC.size = nL ∧ lv_wf lsC ∧ ls.length ≤ nL ∧ (∀ i v, ev_lg ls i = some v → ev_kn v = true → lsC[i]? = some (.val (ev_vl base ra fv v))) ∧ ∀ i x, ev_lg ls i = some (.long x) → ev_lg ls (i + 1) = some (.double 0)
end WORLD
theorem ev_lg_get (ls : List Value) (i : Nat) : ev_lg ls i = ls[i]? := by
  induction ls generalizing i with
  | nil => cases i <;> rfl
  | cons a l ih =>
    cases i with
    | zero => rfl
    | succ i => exact (ih i).trans (List.getElem?_cons_succ).symm
theorem ev_lg_lt {ls : List Value} {i : Nat} {v : Value} (h : ev_lg ls i = some v) : i < ls.length := by
  rw [ev_lg_get] at h
  exact (List.getElem?_eq_some_iff.mp h).1
theorem ev_un_lg : ∀ (l : List Value) (i : Nat), ev_lg (ev_un l) i = if i = 0 then (if l.length = 0 then none else some (.float 0)) else ev_lg l i
  | [], i => by cases i <;> rfl
  | a :: l, 0 => by simp [ev_un, ev_lg]
  | a :: l, i + 1 => by simp [ev_un, ev_lg]
theorem ev_un_len (l : List Value) : (ev_un l).length = l.length := by cases l <;> rfl
theorem ev_s1_len : ∀ (l : List Value) (k : Nat) (v : Value), (ev_s1 l k v).length = l.length
  | [], _, _ => rfl
  | a :: l, 0, v => by
    unfold ev_s1
    cases ev_isL a
    · rfl
    · simp [ev_un_len]
  | a :: l, k + 1, v => by simp [ev_s1, ev_s1_len l k v]
theorem ev_s2_len : ∀ (l : List Value) (k : Nat) (v : Value), (ev_s2 l k v).length = l.length
  | [], k, v => by cases k <;> rfl
  | [a], 0, v => rfl
  | [a], k + 1, v => by simp [ev_s2, ev_s2_len [] k v]
  | a :: b :: l, 0, v => rfl
  | a :: b :: l, k + 1, v => by simp [ev_s2, ev_s2_len (b :: l) k v]
/-- what a place holds behind a store of one word -/
theorem ev_s1_lg : ∀ (l : List Value) (k : Nat) (v : Value) (j : Nat), k < l.length → ev_lg (ev_s1 l k v) j = if j = k then some v else if j = k + 1 ∧ (ev_lg l k).any ev_isL = true ∧ j < l.length then some (.float 0) else ev_lg l j
  | [], k, v, j, h => absurd h (Nat.not_lt_zero _)
  | a :: l, 0, v, j, h => by
    unfold ev_s1
    cases ha : ev_isL a with
    | false =>
      dsimp only
      cases j with
      | zero => rfl
      | succ j =>
        rw [if_neg (by omega), if_neg]
        · rfl
        · rintro ⟨-, hx, -⟩
          have hx : ev_isL a = true := hx
          rw [ha] at hx
          cases hx
    | true =>
      dsimp only
      have hL : ∃ x, a = .long x := by
        cases a <;> first | exact ⟨_, rfl⟩ | cases ha
      obtain ⟨x, rfl⟩ := hL
      cases j with
      | zero => rfl
      | succ j =>
        rw [if_neg (by omega)]
        show ev_lg (ev_un l) j = _
        rw [ev_un_lg]
        by_cases hj : j = 0
        · subst hj
          by_cases hl : l.length = 0
          · rw [if_pos rfl, if_pos hl, if_neg]
            · cases l with
              | nil => rfl
              | cons => cases hl
            · rintro ⟨-, -, q⟩
              simp at q
              omega
          · rw [if_pos rfl, if_neg hl, if_pos (show 0 + 1 = 0 + 1 ∧ (ev_lg (Value.long x :: l) 0).any ev_isL = true ∧ 0 + 1 < (Value.long x :: l).length from ⟨rfl, rfl, by simp; omega⟩)]
        · rw [if_neg hj, if_neg (fun q => by omega)]
          rfl
  | a :: l, k + 1, v, 0, h => by
    rw [if_neg (by omega), if_neg (fun q => by omega)]
    rfl
  | a :: l, k + 1, v, j + 1, h => by
    have ih := ev_s1_lg l k v j (by simpa using h)
    show ev_lg (ev_s1 l k v) j = _
    rw [ih]
    by_cases hj : j = k
    · rw [if_pos hj, if_pos (by omega)]
    · rw [if_neg hj, if_neg (show ¬ j + 1 = k + 1 by omega)]
      by_cases hc : j = k + 1 ∧ (ev_lg l k).any ev_isL = true ∧ j < l.length
      · rw [if_pos hc, if_pos (show j + 1 = k + 1 + 1 ∧ (ev_lg (a :: l) (k + 1)).any ev_isL = true ∧ j + 1 < (a :: l).length from ⟨by omega, hc.2.1, by simpa using hc.2.2⟩)]
      · rw [if_neg hc, if_neg (show ¬ (j + 1 = k + 1 + 1 ∧ (ev_lg (a :: l) (k + 1)).any ev_isL = true ∧ j + 1 < (a :: l).length) from fun q => hc ⟨by omega, q.2.1, by simpa using q.2.2⟩)]
        rfl
theorem ev_s2_lg : ∀ (l : List Value) (k : Nat) (v : Value) (j : Nat), k + 1 < l.length → ev_lg (ev_s2 l k v) j = if j = k then some v else if j = k + 1 then some (.double 0) else ev_lg l j
  | [], k, v, j, h => absurd h (Nat.not_lt_zero _)
  | [a], k, v, j, h => absurd h (by simp)
  | a :: b :: l, 0, v, j, h => by
    match j with
    | 0 => rfl
    | 1 => rfl
    | j + 2 => rw [if_neg (by omega), if_neg (by omega)]; rfl
  | a :: b :: l, k + 1, v, 0, h => by
    rw [if_neg (by omega), if_neg (by omega)]
    rfl
  | a :: b :: l, k + 1, v, j + 1, h => by
    have ih := ev_s2_lg (b :: l) k v j (by simpa using h)
    show ev_lg (ev_s2 (b :: l) k v) j = _
    rw [ih]
    by_cases hj : j = k
    · rw [if_pos hj, if_pos (by omega)]
    · rw [if_neg hj, if_neg (show ¬ j + 1 = k + 1 by omega)]
      by_cases hc : j = k + 1
      · rw [if_pos hc, if_pos (show j + 1 = k + 1 + 1 by omega)]
      · rw [if_neg hc, if_neg (show ¬ j + 1 = k + 1 + 1 by omega)]
        rfl
theorem ev_ok1_lt : ∀ (l : List Value) (k : Nat), ev_ok1 l k = true → k < l.length ∧ ev_lg l k ≠ some (.double 0)
  | [], k, h => by cases h
  | a :: l, 0, h => by
    refine ⟨by simp, fun e => ?_⟩
    cases e
    cases h
  | a :: l, k + 1, h => by
    obtain ⟨h1, h2⟩ := ev_ok1_lt l k h
    exact ⟨by simpa using h1, h2⟩
theorem ev_ok2_lt : ∀ (l : List Value) (k : Nat), ev_ok2 l k = true → k + 1 < l.length ∧ ev_lg l k ≠ some (.double 0)
  | [], k, h => by cases k <;> cases h
  | [a], 0, h => by cases h
  | [a], k + 1, h => by
    have h' : ev_ok2 [] k = true := h
    cases k <;> cases h'
  | a :: b :: l, 0, h => by
    refine ⟨by simp, fun e => ?_⟩
    cases e
    cases h
  | a :: b :: l, k + 1, h => by
    obtain ⟨h1, h2⟩ := ev_ok2_lt (b :: l) k h
    exact ⟨by simpa using h1, h2⟩
section WL
variable {base : Nat} {ra : Nat → Nat} {fv : Value}
theorem ev_vl_cat (hfv : fv = .null ∨ ∃ t, fv = .ref t) (v : Value) : (ev_vl base ra fv v).category = v.category := by
  cases v <;> try rfl
  rename_i k
  unfold ev_vl
  dsimp only
  split
  · rcases hfv with rfl | ⟨t, rfl⟩ <;> rfl
  · rfl
theorem ev_kl_mem {ls : List Value} {i : Nat} {v : Value} (h : ev_lg ls i = some v) (hk : ev_kn v = true) : (i, ev_vl base ra fv v) ∈ ev_kl base ra fv ls := by
  refine List.mem_filterMap.mpr ⟨i, List.mem_range.mpr (ev_lg_lt h), ?_⟩
  rw [h]
  simp only [hk, if_true]
theorem ev_LH.has {lsC : Array Slot} {nL : Nat} {ls : List Value} (h : ev_LH base ra fv lsC nL ls) : lv_has lsC nL (ev_kl base ra fv ls) := by
  obtain ⟨h1, h2, h3, h4, h5⟩ := h
  refine ⟨h1, h2, fun q hq => ?_⟩
  obtain ⟨i, -, hi⟩ := List.mem_filterMap.mp hq
  cases hg : ev_lg ls i with
  | none => rw [hg] at hi; cases hi
  | some v =>
    rw [hg] at hi
    by_cases hk : ev_kn v = true
    · simp only [hk, if_true] at hi
      cases hi
      exact h4 i v hg hk
    · simp only [hk] at hi
      cases hi
theorem ev_LH.st1 (hfv : fv = .null ∨ ∃ t, fv = .ref t) {lsC ls' : Array Slot} {nL k : Nat} {ls : List Value} {v : Value} (h : ev_LH base ra fv lsC nL ls) (hk : ev_ok1 ls k = true) (hL : ∀ x, v ≠ .long x)
    (h' : lv_has ls' nL ((k, ev_vl base ra fv v) :: (ev_kl base ra fv ls).filter (fun q => !(q.1 == k) && !(q.1 + 1 == k && q.2.category == 2)))) : ev_LH base ra fv ls' nL (ev_s1 ls k v) := by
  obtain ⟨h1, h2, h3, h4, h5⟩ := h
  obtain ⟨g1, g2, g3⟩ := h'
  obtain ⟨o1, o2⟩ := ev_ok1_lt ls k hk
  refine ⟨g1, g2, by rw [ev_s1_len]; exact h3, fun i w hw hkn => ?_, fun i x hx => ?_⟩
  · rw [ev_s1_lg ls k v i o1] at hw
    by_cases hi : i = k
    · rw [if_pos hi] at hw
      cases hw
      subst hi
      exact g3 (i, _) List.mem_cons_self
    · rw [if_neg hi] at hw
      split at hw
      · cases hw
        cases hkn
      · refine g3 (i, ev_vl base ra fv w) (List.mem_cons_of_mem _ (List.mem_filter.mpr ⟨ev_kl_mem hw hkn, ?_⟩))
        have e1 : (i == k) = false := by simpa using hi
        simp only [e1, Bool.not_false, Bool.true_and, Bool.not_eq_true']
        by_cases hi2 : i + 1 = k
        · by_cases hc : w.category = 2
          · have hw2 : ∃ x, w = .long x := by
              cases w <;> first | exact ⟨_, rfl⟩ | (simp [Value.category, ev_kn] at hc hkn)
            obtain ⟨x, rfl⟩ := hw2
            have := h5 i x hw
            rw [hi2] at this
            exact absurd this o2
          · have e2 : ((ev_vl base ra fv w).category == 2) = false := by
              rw [ev_vl_cat hfv]
              simpa using hc
            rw [e2, Bool.and_false]
        · have e2 : (i + 1 == k) = false := by simpa using hi2
          rw [e2, Bool.false_and]
  · rw [ev_s1_lg ls k v i o1] at hx
    by_cases hi : i = k
    · rw [if_pos hi] at hx
      cases hx
      exact absurd rfl (hL x)
    · rw [if_neg hi] at hx
      split at hx
      · cases hx
      · have h6 := h5 i x hx
        rw [ev_s1_lg ls k v (i + 1) o1]
        by_cases hi2 : i + 1 = k
        · rw [hi2] at h6
          exact absurd h6 o2
        · rw [if_neg hi2, if_neg]
          · exact h6
          · rintro ⟨q, -, -⟩
            omega
theorem ev_LH.st2 (hfv : fv = .null ∨ ∃ t, fv = .ref t) {lsC ls' : Array Slot} {nL k : Nat} {ls : List Value} {x0 : Int64} (h : ev_LH base ra fv lsC nL ls) (hk : ev_ok2 ls k = true)
    (h' : lv_has ls' nL ((k, Value.long x0) :: (ev_kl base ra fv ls).filter (fun q => !(q.1 == k) && (!(q.1 == k + 1) && !(q.1 + 1 == k && q.2.category == 2))))) : ev_LH base ra fv ls' nL (ev_s2 ls k (.long x0)) := by
  obtain ⟨h1, h2, h3, h4, h5⟩ := h
  obtain ⟨g1, g2, g3⟩ := h'
  obtain ⟨o1, o2⟩ := ev_ok2_lt ls k hk
  refine ⟨g1, g2, by rw [ev_s2_len]; exact h3, fun i w hw hkn => ?_, fun i x hx => ?_⟩
  · rw [ev_s2_lg ls k _ i o1] at hw
    by_cases hi : i = k
    · rw [if_pos hi] at hw
      cases hw
      subst hi
      exact g3 (i, _) List.mem_cons_self
    · rw [if_neg hi] at hw
      by_cases hi3 : i = k + 1
      · rw [if_pos hi3] at hw
        cases hw
        cases hkn
      · rw [if_neg hi3] at hw
        refine g3 (i, ev_vl base ra fv w) (List.mem_cons_of_mem _ (List.mem_filter.mpr ⟨ev_kl_mem hw hkn, ?_⟩))
        have e1 : (i == k) = false := by simpa using hi
        have e3 : (i == k + 1) = false := by simpa using hi3
        simp only [e1, e3, Bool.not_false, Bool.true_and, Bool.not_eq_true']
        by_cases hi2 : i + 1 = k
        · by_cases hc : w.category = 2
          · have hw2 : ∃ x, w = .long x := by
              cases w <;> first | exact ⟨_, rfl⟩ | (simp [Value.category, ev_kn] at hc hkn)
            obtain ⟨x, rfl⟩ := hw2
            have := h5 i x hw
            rw [hi2] at this
            exact absurd this o2
          · have e2 : ((ev_vl base ra fv w).category == 2) = false := by
              rw [ev_vl_cat hfv]
              simpa using hc
            rw [e2, Bool.and_false]
        · have e2 : (i + 1 == k) = false := by simpa using hi2
          rw [e2, Bool.false_and]
  · rw [ev_s2_lg ls k _ i o1] at hx
    by_cases hi : i = k
    · rw [ev_s2_lg ls k _ (i + 1) o1, if_neg (by omega), if_pos (by omega)]
    · rw [if_neg hi] at hx
      by_cases hi3 : i = k + 1
      · rw [if_pos hi3] at hx
        cases hx
      · rw [if_neg hi3] at hx
        have h6 := h5 i x hx
        rw [ev_s2_lg ls k _ (i + 1) o1]
        by_cases hi2 : i + 1 = k
        · rw [hi2] at h6
          exact absurd h6 o2
        · rw [if_neg hi2, if_neg (by omega)]
          exact h6
/-- a method's first locals -/
theorem ev_lay_at : ∀ (vs : List Value) (n i0 : Nat) (i : Nat) (v : Value), ev_lg (ev_lay vs n) i = some v → ev_kn v = true → (i0 + i, v) ∈ lv_args i0 vs
  | [], n, i0, i, v, h, hk => by
    unfold ev_lay at h
    rw [ev_lg_get] at h
    have := List.eq_of_mem_replicate (List.mem_of_getElem? h)
    rw [this] at hk
    cases hk
  | w :: vs, n, i0, i, v, h, hk => by
    unfold ev_lay at h
    cases hh : ev_half w with
    | true => rw [hh] at h; cases i <;> cases h
    | false =>
      rw [hh] at h
      cases hw : ev_isL w with
      | true =>
        rw [hw] at h
        have hL : ∃ x, w = .long x := by
          cases w <;> first | exact ⟨_, rfl⟩ | cases hw
        obtain ⟨x, rfl⟩ := hL
        match n, h with
        | n + 2, h =>
          match i, h with
          | 0, h => cases h; exact List.mem_cons_self
          | 1, h => cases h; cases hk
          | i + 2, h =>
            have ih := ev_lay_at vs n (i0 + 2) i v h hk
            refine List.mem_cons_of_mem _ ?_
            rw [show i0 + (i + 2) = i0 + 2 + i by omega]
            exact ih
        | 0, h => cases i <;> cases h
        | 1, h => cases i <;> cases h
      | false =>
        rw [hw] at h
        match n, h with
        | 0, h => cases i <;> cases h
        | n + 1, h =>
          match i, h with
          | 0, h => cases h; exact List.mem_cons_self
          | i + 1, h =>
            have ih := ev_lay_at vs n (i0 + 1) i v h hk
            have hc : ¬ w.category = 2 := by
              intro hc
              cases w <;> simp [Value.category, ev_isL, ev_half] at hc hw hh
            refine List.mem_cons_of_mem _ ?_
            rw [if_neg hc, show i0 + (i + 1) = i0 + 1 + i by omega]
            exact ih
theorem ev_lay_long : ∀ (vs : List Value) (n i : Nat) (x : Int64), ev_lg (ev_lay vs n) i = some (.long x) → ev_lg (ev_lay vs n) (i + 1) = some (.double 0)
  | [], n, i, x, h => by
    unfold ev_lay at h
    rw [ev_lg_get] at h
    have := List.eq_of_mem_replicate (List.mem_of_getElem? h)
    cases this
  | w :: vs, n, i, x, h => by
    unfold ev_lay at h ⊢
    cases hh : ev_half w with
    | true => rw [hh] at h; cases i <;> cases h
    | false =>
      rw [hh] at h
      cases hw : ev_isL w with
      | true =>
        rw [hw] at h
        match n, h with
        | n + 2, h =>
          match i, h with
          | 0, h => rfl
          | 1, h => cases h
          | i + 2, h => exact ev_lay_long vs n i x h
        | 0, h => cases i <;> cases h
        | 1, h => cases i <;> cases h
      | false =>
        rw [hw] at h
        match n, h with
        | 0, h => cases i <;> cases h
        | n + 1, h =>
          match i, h with
          | 0, h => cases h; cases hw
          | i + 1, h => exact ev_lay_long vs n i x h
theorem ev_lay_len : ∀ (vs : List Value) (n : Nat), (ev_lay vs n).length ≤ n
  | [], n => by unfold ev_lay; simp
  | w :: vs, n => by
    unfold ev_lay
    cases ev_half w with
    | true => simp
    | false =>
      cases ev_isL w with
      | true =>
        match n with
        | 0 => simp
        | 1 => simp
        | n + 2 => have := ev_lay_len vs n; simp; omega
      | false =>
        match n with
        | 0 => simp
        | n + 1 => have := ev_lay_len vs n; simp; omega
end WL
