/-! The same rules, for an end that is said by a predicate. -/
def ev_X (scr : List Int32) (d : Nat) (cd : List ev_I) (pc : Nat) (ls st : List Value) (h : ev_H) (Q : Option Value → ev_H → Prop) : Prop := ∃ v h', ev_V scr d cd pc ls st h (v, h') ∧ Q v h'
section XR
variable {scr : List Int32} {d : Nat} {cd : List ev_I} {pc : Nat} {ls st : List Value} {h : ev_H} {Q : Option Value → ev_H → Prop}
theorem ex_of {v : Option Value} {h' : ev_H} (K : ev_V scr d cd pc ls st h (v, h')) (q : Q v h') : ev_X scr d cd pc ls st h Q := ⟨v, h', K, q⟩
theorem ex_mono {Q' : Option Value → ev_H → Prop} (K : ev_X scr d cd pc ls st h Q') (q : ∀ v h', Q' v h' → Q v h') : ev_X scr d cd pc ls st h Q := by
  obtain ⟨v, h', k, q'⟩ := K
  exact ⟨v, h', k, q v h' q'⟩
theorem ex_more {d' : Nat} (hd : d ≤ d') (K : ev_X scr d cd pc ls st h Q) : ev_X scr d' cd pc ls st h Q := by
  obtain ⟨v, h', k, q'⟩ := K
  exact ⟨v, h', k.more hd, q'⟩
theorem ex_step {i : ev_I} {pc' : Nat} {ls' st' : List Value} {h' : ev_H} (hf : ev_ft cd pc = some i) (hs : ev_S scr i pc ls st h = some (.inl (pc', ls', st', h'))) (K : ev_X scr d cd pc' ls' st' h' Q) : ev_X scr d cd pc ls st h Q := by
  obtain ⟨v, h2, k, q⟩ := K
  exact ⟨v, h2, ev_step hf hs k, q⟩
theorem ex_go (n : Nat) {pc' : Nat} {ls' st' : List Value} (hr : ev_run n cd pc ls st = (pc', ls', st')) (K : ev_X scr d cd pc' ls' st' h Q) : ev_X scr d cd pc ls st h Q := by
  obtain ⟨v, h2, k, q⟩ := K
  exact ⟨v, h2, ev_go n hr k, q⟩
theorem ex_iret {x : Int32} (hf : ev_ft cd pc = some (.inl .ireturn)) (q : Q (some (.int x)) h) : ev_X scr d cd pc ls [.int x] h Q := ⟨_, _, ev_iret hf, q⟩
theorem ex_lret {x : Int64} (hf : ev_ft cd pc = some (.inl .lreturn)) (q : Q (some (.long x)) h) : ev_X scr d cd pc ls [.long x] h Q := ⟨_, _, ev_lret hf, q⟩
theorem ex_vret (hf : ev_ft cd pc = some (.inl .return_)) (q : Q none h) : ev_X scr d cd pc ls [] h Q := ⟨_, _, ev_vret hf, q⟩
theorem ex_tret {x : Int32} {t : Nat} (hf : ev_ft cd pc = some (.inl (.ret t))) (hn : ev_nrw t x = true) (q : Q (some (.int x)) h) : ev_X scr d cd pc ls [.int x] h Q := ⟨_, _, ev_tret hf hn, q⟩
theorem ex_aret {x : Nat} (hf : ev_ft cd pc = some (.inl .areturn)) (hx : Nat.beq x 4 = false) (q : Q (some (.retAddr x)) h) : ev_X scr d cd pc ls [.retAddr x] h Q := ⟨_, _, ev_aret hf hx, q⟩
/-- a call of a method that changes nothing, or whose end is known -/
theorem ex_cs {k d' : Nat} {cd' : List ev_I} {mL np own : Nat} {v : Option Value} {h' : ev_H} (hf : ev_ft cd pc = some (.inl (.invokestatic k))) (hp : ev_pr k = some (cd', mL, np, own)) (hl : (Nat.ble np st.length && Nat.ble (st.drop np).length 4 && Nat.ble (ev_wd (st.take np)) mL) = true) (hd : d' < d)
    (C : ev_V scr d' cd' 0 (ev_lay (st.take np).reverse mL) [] h (v, h')) (K : ev_X scr d cd (pc + 1) ls (v.toList ++ st.drop np) h' Q) : ev_X scr d cd pc ls st h Q := by
  obtain ⟨v2, h2, k, q⟩ := K
  exact ⟨v2, h2, ev_cs hf hp hl hd C k, q⟩
theorem ex_cv {k d' b : Nat} {cd' : List ev_I} {mL np own : Nat} {vs : List Value} {v : Option Value} {h' : ev_H} (hf : ev_ft cd pc = some (.inl (.invokevirtual k))) (hp : ev_pr k = some (cd', mL, np, own)) (hl : (Nat.ble np st.length && Nat.ble (st.drop np).length 4 && Nat.ble (ev_wd (st.take np)) mL) = true) (hb : ev_lg (st.take np).reverse 0 = some (.ref b)) (hh : h[b]? = some (.inr (own, vs))) (ho : Nat.blt own 7 = true) (hd : d' < d)
    (C : ev_V scr d' cd' 0 (ev_lay (st.take np).reverse mL) [] h (v, h')) (K : ev_X scr d cd (pc + 1) ls (v.toList ++ st.drop np) h' Q) : ev_X scr d cd pc ls st h Q := by
  obtain ⟨v2, h2, k, q⟩ := K
  exact ⟨v2, h2, ev_cv hf hp hl hb hh ho hd C k, q⟩
theorem ex_ct {k d' b : Nat} {cd' : List ev_I} {mL np : Nat} {v : Option Value} {h' : ev_H} (hf : ev_ft cd pc = some (.inl (.invokevirtual k))) (hp : ev_pr k = some (cd', mL, np, 10)) (hl : (Nat.ble np st.length && Nat.ble (st.drop np).length 4 && Nat.ble (ev_wd (st.take np)) mL) = true) (hb : ev_lg (st.take np).reverse 0 = some (.retAddr b)) (hh : (Nat.blt 9 b && Nat.blt b 18) = true) (hd : d' < d)
    (C : ev_V scr d' cd' 0 (ev_lay (st.take np).reverse mL) [] h (v, h')) (K : ev_X scr d cd (pc + 1) ls (v.toList ++ st.drop np) h' Q) : ev_X scr d cd pc ls st h Q := by
  obtain ⟨v2, h2, k, q⟩ := K
  exact ⟨v2, h2, ev_ct hf hp hl hb hh hd C k, q⟩
/-- a call of a method whose end is said by a predicate -/
theorem ex_csx {k d' : Nat} {cd' : List ev_I} {mL np own : Nat} {Q' : Option Value → ev_H → Prop} (hf : ev_ft cd pc = some (.inl (.invokestatic k))) (hp : ev_pr k = some (cd', mL, np, own)) (hl : (Nat.ble np st.length && Nat.ble (st.drop np).length 4 && Nat.ble (ev_wd (st.take np)) mL) = true) (hd : d' < d)
    (C : ev_X scr d' cd' 0 (ev_lay (st.take np).reverse mL) [] h Q') (K : ∀ v h', Q' v h' → ev_X scr d cd (pc + 1) ls (v.toList ++ st.drop np) h' Q) : ev_X scr d cd pc ls st h Q := by
  obtain ⟨v1, h1, k1, q1⟩ := C
  exact ex_cs hf hp hl hd k1 (K v1 h1 q1)
theorem ex_cvx {k d' b : Nat} {cd' : List ev_I} {mL np own : Nat} {vs : List Value} {Q' : Option Value → ev_H → Prop} (hf : ev_ft cd pc = some (.inl (.invokevirtual k))) (hp : ev_pr k = some (cd', mL, np, own)) (hl : (Nat.ble np st.length && Nat.ble (st.drop np).length 4 && Nat.ble (ev_wd (st.take np)) mL) = true) (hb : ev_lg (st.take np).reverse 0 = some (.ref b)) (hh : h[b]? = some (.inr (own, vs))) (ho : Nat.blt own 7 = true) (hd : d' < d)
    (C : ev_X scr d' cd' 0 (ev_lay (st.take np).reverse mL) [] h Q') (K : ∀ v h', Q' v h' → ev_X scr d cd (pc + 1) ls (v.toList ++ st.drop np) h' Q) : ev_X scr d cd pc ls st h Q := by
  obtain ⟨v1, h1, k1, q1⟩ := C
  exact ex_cv hf hp hl hb hh ho hd k1 (K v1 h1 q1)
theorem ex_nop (hf : ev_ft cd pc = some (.inl .nop)) (K : ev_X scr d cd (pc + 1) ls st h Q) : ev_X scr d cd pc ls st h Q := ex_step hf rfl K
theorem ex_getf {i a c : Nat} {vs : List Value} {v : Value} (hf : ev_ft cd pc = some (.inl (.getfield i))) (hh : h[a]? = some (.inr (c, vs))) (hc : Nat.beq c (i / 32) = true) (hv : vs[i % 32]? = some v) (K : ev_X scr d cd (pc + 1) ls (v :: st) h Q) : ev_X scr d cd pc ls (.ref a :: st) h Q := by
  refine ex_step hf (pc' := pc + 1) (ls' := ls) (st' := v :: st) (h' := h) ?_ K
  simp only [ev_S, ev_xP, ev_xB, ev_xH, hh, hc, hv]
theorem ex_putf {i a c : Nat} {vs : List Value} {x : Int32} (hf : ev_ft cd pc = some (.inl (.putfield i))) (hh : h[a]? = some (.inr (c, vs))) (hc : Nat.beq c (i / 32) = true) (hl : Nat.blt (i % 32) vs.length = true) (K : ev_X scr d cd (pc + 1) ls st (h.set a (.inr (c, vs.set (i % 32) (.int x)))) Q) : ev_X scr d cd pc ls (.int x :: .ref a :: st) h Q := by
  refine ex_step hf ?_ K
  simp only [ev_S, ev_xP, ev_xB, ev_xH, hh, hc, hl]
theorem ex_putz {i a c n : Nat} {vs : List Value} {x : Int32} (hf : ev_ft cd pc = some (.inl (.multianewarray i n))) (hh : h[a]? = some (.inr (c, vs))) (hc : Nat.beq c (i / 32) = true) (hl : Nat.blt (i % 32) vs.length = true) (hz : ev_bz x = true) (K : ev_X scr d cd (pc + 1) ls st (h.set a (.inr (c, vs.set (i % 32) (.int x)))) Q) : ev_X scr d cd pc ls (.int x :: .ref a :: st) h Q := by
  refine ex_step hf ?_ K
  simp only [ev_S, ev_xP, ev_xB, ev_xH, hh, hc, hl, hz]
theorem ex_putr {i a c b : Nat} {vs : List Value} (hf : ev_ft cd pc = some (.inl (.putstatic i))) (hh : h[a]? = some (.inr (c, vs))) (hc : Nat.beq c (i / 32) = true) (hl : Nat.blt (i % 32) vs.length = true) (K : ev_X scr d cd (pc + 1) ls st (h.set a (.inr (c, vs.set (i % 32) (.ref b)))) Q) : ev_X scr d cd pc ls (.ref b :: .ref a :: st) h Q := by
  refine ex_step hf ?_ K
  simp only [ev_S, ev_xP, ev_xB, ev_xH, hh, hc, hl]
theorem ex_iald (n : Nat) {a : Nat} {j x : Int32} {xs : List Int32} (hf : ev_ft cd pc = some (.inl .iaload)) (hh : h[a]? = some (.inl (0, xs))) (hj : j = nI n) (hn : n < xs.length) (hb : n < 1000) (hx : xs.getD n 0 = x) (K : ev_X scr d cd (pc + 1) ls (.int x :: st) h Q) : ev_X scr d cd pc ls (.int j :: .ref a :: st) h Q := by
  obtain ⟨h1, h2⟩ := ev_in_of hj hn hb
  refine ex_step hf (pc' := pc + 1) (ls' := ls) (st' := .int x :: st) (h' := h) ?_ K
  simp only [ev_S, ev_xP, ev_xB, ev_xH, hh, h1, h2, hx]
theorem ex_bald (n : Nat) {a : Nat} {j x : Int32} {xs : List Int32} (hf : ev_ft cd pc = some (.inl .baload)) (hh : h[a]? = some (.inl (1, xs)) ∨ h[a]? = some (.inl (2, xs))) (hj : j = nI n) (hn : n < xs.length) (hb : n < 1000) (hx : xs.getD n 0 = x) (K : ev_X scr d cd (pc + 1) ls (.int x :: st) h Q) : ev_X scr d cd pc ls (.int j :: .ref a :: st) h Q := by
  obtain ⟨h1, h2⟩ := ev_in_of hj hn hb
  refine ex_step hf (pc' := pc + 1) (ls' := ls) (st' := .int x :: st) (h' := h) ?_ K
  rcases hh with hh | hh <;> simp only [ev_S, ev_xP, ev_xB, ev_xH, hh, h1, h2, hx]
theorem ex_iast (n : Nat) {a : Nat} {j x : Int32} {xs : List Int32} (hf : ev_ft cd pc = some (.inl .iastore)) (hh : h[a]? = some (.inl (0, xs))) (hj : j = nI n) (hn : n < xs.length) (hb : n < 1000) (K : ev_X scr d cd (pc + 1) ls st (h.set a (.inl (0, xs.set n x))) Q) : ev_X scr d cd pc ls (.int x :: .int j :: .ref a :: st) h Q := by
  obtain ⟨h1, h2⟩ := ev_in_of hj hn hb
  refine ex_step hf (pc' := pc + 1) (ls' := ls) (st' := st) (h' := h.set a (.inl (0, xs.set n x))) ?_ K
  simp only [ev_S, ev_xP, ev_xB, ev_xH, hh, h1, h2]
theorem ex_bast1 (n : Nat) {a : Nat} {j x : Int32} {xs : List Int32} (hf : ev_ft cd pc = some (.inl .bastore)) (hh : h[a]? = some (.inl (1, xs))) (hj : j = nI n) (hn : n < xs.length) (hb : n < 1000) (K : ev_X scr d cd (pc + 1) ls st (h.set a (.inl (1, xs.set n (vp_nar .byte x)))) Q) : ev_X scr d cd pc ls (.int x :: .int j :: .ref a :: st) h Q := by
  obtain ⟨h1, h2⟩ := ev_in_of hj hn hb
  refine ex_step hf (pc' := pc + 1) (ls' := ls) (st' := st) (h' := h.set a (.inl (1, xs.set n (vp_nar .byte x)))) ?_ K
  simp only [ev_S, ev_xP, ev_xB, ev_xH, hh, h1, h2]
theorem ex_bast2 (n : Nat) {a : Nat} {j x : Int32} {xs : List Int32} (hf : ev_ft cd pc = some (.inl .bastore)) (hh : h[a]? = some (.inl (2, xs))) (hj : j = nI n) (hn : n < xs.length) (hb : n < 1000) (K : ev_X scr d cd (pc + 1) ls st (h.set a (.inl (2, xs.set n (vp_nar .boolean x)))) Q) : ev_X scr d cd pc ls (.int x :: .int j :: .ref a :: st) h Q := by
  obtain ⟨h1, h2⟩ := ev_in_of hj hn hb
  refine ex_step hf (pc' := pc + 1) (ls' := ls) (st' := st) (h' := h.set a (.inl (2, xs.set n (vp_nar .boolean x)))) ?_ K
  simp only [ev_S, ev_xP, ev_xB, ev_xH, hh, h1, h2]
theorem ex_aald (n : Nat) {a b c : Nat} {j : Int32} {vs : List Value} (hf : ev_ft cd pc = some (.inl .aaload)) (hh : h[a]? = some (.inr (c, vs))) (hc : (Nat.beq c 14 || Nat.beq c 12) = true) (hj : j = nI n) (hn : n < vs.length) (hb : n < 1000) (hx : vs[n]? = some (.ref b)) (K : ev_X scr d cd (pc + 1) ls (.ref b :: st) h Q) : ev_X scr d cd pc ls (.int j :: .ref a :: st) h Q := by
  obtain ⟨h1, h2⟩ := ev_in_of hj hn hb
  refine ex_step hf (pc' := pc + 1) (ls' := ls) (st' := .ref b :: st) (h' := h) ?_ K
  simp only [ev_S, ev_xP, ev_xB, ev_xH, hh, hc, h1, h2, hx]
theorem ex_fald (n : Nat) {a : Nat} {j x : Int32} {xs : List Int32} (hf : ev_ft cd pc = some (.inl .faload)) (ha : Nat.blt a 4 = true) (hh : ev_ro scr a = some xs) (hj : j = nI n) (hn : n < xs.length) (hb : n < 1000) (hx : xs.getD n 0 = x) (K : ev_X scr d cd (pc + 1) ls (.int x :: st) h Q) : ev_X scr d cd pc ls (.int j :: .retAddr a :: st) h Q := by
  obtain ⟨h1, h2⟩ := ev_in_of hj hn hb
  refine ex_step hf (pc' := pc + 1) (ls' := ls) (st' := .int x :: st) (h' := h) ?_ K
  simp only [ev_S, ev_xP, ev_xB, ev_xH, ha, hh, h1, h2, hx]
theorem ex_cald (n : Nat) {a : Nat} {j x : Int32} {xs : List Int32} (hf : ev_ft cd pc = some (.inl .caload)) (ha : Nat.blt a 20 = false) (hh : ev_ro scr a = some xs) (hj : j = nI n) (hn : n < xs.length) (hb : n < 1000) (hx : xs.getD n 0 = x) (K : ev_X scr d cd (pc + 1) ls (.int x :: st) h Q) : ev_X scr d cd pc ls (.int j :: .retAddr a :: st) h Q := by
  obtain ⟨h1, h2⟩ := ev_in_of hj hn hb
  refine ex_step hf (pc' := pc + 1) (ls' := ls) (st' := .int x :: st) (h' := h) ?_ K
  simp only [ev_S, ev_xP, ev_xB, ev_xH, ha, hh, h1, h2, hx]
theorem ex_alen {a : Nat} {xs : List Int32} (hf : ev_ft cd pc = some (.inl .arraylength)) (hh : ev_ro scr a = some xs) (K : ev_X scr d cd (pc + 1) ls (.int (Int32.ofNat xs.length) :: st) h Q) : ev_X scr d cd pc ls (.retAddr a :: st) h Q := by
  refine ex_step hf (pc' := pc + 1) (ls' := ls) (st' := .int (Int32.ofNat xs.length) :: st) (h' := h) ?_ K
  simp only [ev_S, ev_xP, ev_xB, ev_xH, hh]
theorem ex_cbr {c : ClassFile.Cond} {x y : Int32} {t : Int} (b : Bool) (hb : ev_cb c x y = b) (hf : ev_ft cd pc = some (.inl (.if_icmp c t))) (K : ev_X scr d cd (ev_br b t.toNat (pc + 1)) ls st h Q) : ev_X scr d cd pc ls (.int y :: .int x :: st) h Q := by
  refine ex_step hf ?_ K
  simp only [ev_S, ev_xP, ev_xB, hb]
theorem ex_cbr0 {c : ClassFile.Cond} {x : Int32} {t : Int} (b : Bool) (hb : ev_cb c x 0 = b) (hf : ev_ft cd pc = some (.inl (.ifCond c t))) (K : ev_X scr d cd (ev_br b t.toNat (pc + 1)) ls st h Q) : ev_X scr d cd pc ls (.int x :: st) h Q := by
  refine ex_step hf ?_ K
  simp only [ev_S, ev_xP, ev_xB, hb]
theorem ex_ieq {x y : Int32} {t : Int} (hf : ev_ft cd pc = some (.inl (.if_icmp .eq t))) (kt : x = y → ev_X scr d cd t.toNat ls st h Q) (kf : ¬ x = y → ev_X scr d cd (pc + 1) ls st h Q) : ev_X scr d cd pc ls (.int y :: .int x :: st) h Q := by
  by_cases hc : x = y
  · exact ex_cbr (c := .eq) true (decide_eq_true hc) hf (kt hc)
  · exact ex_cbr (c := .eq) false (decide_eq_false hc) hf (kf hc)
theorem ex_zeq {x : Int32} {t : Int} (hf : ev_ft cd pc = some (.inl (.ifCond .eq t))) (kt : x = 0 → ev_X scr d cd t.toNat ls st h Q) (kf : ¬ x = 0 → ev_X scr d cd (pc + 1) ls st h Q) : ev_X scr d cd pc ls (.int x :: st) h Q := by
  by_cases hc : x = 0
  · exact ex_cbr0 (c := .eq) true (decide_eq_true hc) hf (kt hc)
  · exact ex_cbr0 (c := .eq) false (decide_eq_false hc) hf (kf hc)
theorem ex_ine {x y : Int32} {t : Int} (hf : ev_ft cd pc = some (.inl (.if_icmp .ne t))) (kt : ¬ x = y → ev_X scr d cd t.toNat ls st h Q) (kf : x = y → ev_X scr d cd (pc + 1) ls st h Q) : ev_X scr d cd pc ls (.int y :: .int x :: st) h Q := by
  by_cases hc : ¬ x = y
  · exact ex_cbr (c := .ne) true (decide_eq_true hc) hf (kt hc)
  · exact ex_cbr (c := .ne) false (decide_eq_false hc) hf (kf (Decidable.not_not.mp hc))
theorem ex_zne {x : Int32} {t : Int} (hf : ev_ft cd pc = some (.inl (.ifCond .ne t))) (kt : ¬ x = 0 → ev_X scr d cd t.toNat ls st h Q) (kf : x = 0 → ev_X scr d cd (pc + 1) ls st h Q) : ev_X scr d cd pc ls (.int x :: st) h Q := by
  by_cases hc : ¬ x = 0
  · exact ex_cbr0 (c := .ne) true (decide_eq_true hc) hf (kt hc)
  · exact ex_cbr0 (c := .ne) false (decide_eq_false hc) hf (kf (Decidable.not_not.mp hc))
theorem ex_ilt {x y : Int32} {t : Int} (hf : ev_ft cd pc = some (.inl (.if_icmp .lt t))) (kt : x < y → ev_X scr d cd t.toNat ls st h Q) (kf : ¬ x < y → ev_X scr d cd (pc + 1) ls st h Q) : ev_X scr d cd pc ls (.int y :: .int x :: st) h Q := by
  by_cases hc : x < y
  · exact ex_cbr (c := .lt) true (decide_eq_true hc) hf (kt hc)
  · exact ex_cbr (c := .lt) false (decide_eq_false hc) hf (kf hc)
theorem ex_zlt {x : Int32} {t : Int} (hf : ev_ft cd pc = some (.inl (.ifCond .lt t))) (kt : x < 0 → ev_X scr d cd t.toNat ls st h Q) (kf : ¬ x < 0 → ev_X scr d cd (pc + 1) ls st h Q) : ev_X scr d cd pc ls (.int x :: st) h Q := by
  by_cases hc : x < 0
  · exact ex_cbr0 (c := .lt) true (decide_eq_true hc) hf (kt hc)
  · exact ex_cbr0 (c := .lt) false (decide_eq_false hc) hf (kf hc)
theorem ex_ige {x y : Int32} {t : Int} (hf : ev_ft cd pc = some (.inl (.if_icmp .ge t))) (kt : y ≤ x → ev_X scr d cd t.toNat ls st h Q) (kf : ¬ y ≤ x → ev_X scr d cd (pc + 1) ls st h Q) : ev_X scr d cd pc ls (.int y :: .int x :: st) h Q := by
  by_cases hc : y ≤ x
  · exact ex_cbr (c := .ge) true (decide_eq_true hc) hf (kt hc)
  · exact ex_cbr (c := .ge) false (decide_eq_false hc) hf (kf hc)
theorem ex_zge {x : Int32} {t : Int} (hf : ev_ft cd pc = some (.inl (.ifCond .ge t))) (kt : 0 ≤ x → ev_X scr d cd t.toNat ls st h Q) (kf : ¬ 0 ≤ x → ev_X scr d cd (pc + 1) ls st h Q) : ev_X scr d cd pc ls (.int x :: st) h Q := by
  by_cases hc : 0 ≤ x
  · exact ex_cbr0 (c := .ge) true (decide_eq_true hc) hf (kt hc)
  · exact ex_cbr0 (c := .ge) false (decide_eq_false hc) hf (kf hc)
theorem ex_igt {x y : Int32} {t : Int} (hf : ev_ft cd pc = some (.inl (.if_icmp .gt t))) (kt : y < x → ev_X scr d cd t.toNat ls st h Q) (kf : ¬ y < x → ev_X scr d cd (pc + 1) ls st h Q) : ev_X scr d cd pc ls (.int y :: .int x :: st) h Q := by
  by_cases hc : y < x
  · exact ex_cbr (c := .gt) true (decide_eq_true hc) hf (kt hc)
  · exact ex_cbr (c := .gt) false (decide_eq_false hc) hf (kf hc)
theorem ex_zgt {x : Int32} {t : Int} (hf : ev_ft cd pc = some (.inl (.ifCond .gt t))) (kt : 0 < x → ev_X scr d cd t.toNat ls st h Q) (kf : ¬ 0 < x → ev_X scr d cd (pc + 1) ls st h Q) : ev_X scr d cd pc ls (.int x :: st) h Q := by
  by_cases hc : 0 < x
  · exact ex_cbr0 (c := .gt) true (decide_eq_true hc) hf (kt hc)
  · exact ex_cbr0 (c := .gt) false (decide_eq_false hc) hf (kf hc)
theorem ex_ile {x y : Int32} {t : Int} (hf : ev_ft cd pc = some (.inl (.if_icmp .le t))) (kt : x ≤ y → ev_X scr d cd t.toNat ls st h Q) (kf : ¬ x ≤ y → ev_X scr d cd (pc + 1) ls st h Q) : ev_X scr d cd pc ls (.int y :: .int x :: st) h Q := by
  by_cases hc : x ≤ y
  · exact ex_cbr (c := .le) true (decide_eq_true hc) hf (kt hc)
  · exact ex_cbr (c := .le) false (decide_eq_false hc) hf (kf hc)
theorem ex_zle {x : Int32} {t : Int} (hf : ev_ft cd pc = some (.inl (.ifCond .le t))) (kt : x ≤ 0 → ev_X scr d cd t.toNat ls st h Q) (kf : ¬ x ≤ 0 → ev_X scr d cd (pc + 1) ls st h Q) : ev_X scr d cd pc ls (.int x :: st) h Q := by
  by_cases hc : x ≤ 0
  · exact ex_cbr0 (c := .le) true (decide_eq_true hc) hf (kt hc)
  · exact ex_cbr0 (c := .le) false (decide_eq_false hc) hf (kf hc)
theorem ex_idiv {x y v : Int32} (hf : ev_ft cd pc = some (.inl .idiv)) (hy : ¬ y = 0) (hv : x / y = v) (K : ev_X scr d cd (pc + 1) ls (.int v :: st) h Q) : ev_X scr d cd pc ls (.int y :: .int x :: st) h Q := by
  refine ex_step hf (pc' := pc + 1) (ls' := ls) (st' := .int v :: st) (h' := h) ?_ K
  simp only [ev_S, ev_xP, ev_xB, hy, if_false, hv]
theorem ex_irem {x y v : Int32} (hf : ev_ft cd pc = some (.inl .irem)) (hy : ¬ y = 0) (hv : x - x / y * y = v) (K : ev_X scr d cd (pc + 1) ls (.int v :: st) h Q) : ev_X scr d cd pc ls (.int y :: .int x :: st) h Q := by
  refine ex_step hf (pc' := pc + 1) (ls' := ls) (st' := .int v :: st) (h' := h) ?_ K
  simp only [ev_S, ev_xP, ev_xB, hy, if_false, hv]
theorem ex_ldiv {x y v : Int64} (hf : ev_ft cd pc = some (.inl .ldiv)) (hy : ¬ y = 0) (hv : x / y = v) (K : ev_X scr d cd (pc + 1) ls (.long v :: st) h Q) : ev_X scr d cd pc ls (.long y :: .long x :: st) h Q := by
  refine ex_step hf (pc' := pc + 1) (ls' := ls) (st' := .long v :: st) (h' := h) ?_ K
  simp only [ev_S, ev_xP, ev_xB, hy, if_false, hv]
theorem ex_lrem {x y v : Int64} (hf : ev_ft cd pc = some (.inl .lrem)) (hy : ¬ y = 0) (hv : x - x / y * y = v) (K : ev_X scr d cd (pc + 1) ls (.long v :: st) h Q) : ev_X scr d cd pc ls (.long y :: .long x :: st) h Q := by
  refine ex_step hf (pc' := pc + 1) (ls' := ls) (st' := .long v :: st) (h' := h) ?_ K
  simp only [ev_S, ev_xP, ev_xB, hy, if_false, hv]
theorem ex_tsw {x : Int32} {d0 lo hi : Int} {offs : Array Int} {t : Nat} (hf : ev_ft cd pc = some (.inl (.tableswitch d0 lo hi offs))) (ht : (if x.toInt < lo ∨ hi < x.toInt then d0.toNat else (offs.toList.getD (x.toInt - lo).toNat d0).toNat) = t) (K : ev_X scr d cd t ls st h Q) : ev_X scr d cd pc ls (.int x :: st) h Q := by
  refine ex_step hf ?_ K
  simp only [ev_S, ev_xP, ev_xB, ht]
theorem ex_lsw {x : Int32} {d0 : Int} {ps : Array (Int × Int)} {t : Nat} (hf : ev_ft cd pc = some (.inl (.lookupswitch d0 ps))) (ht : (Op.lookupswitch.offset ps.toList d0 x.toInt).toNat = t) (K : ev_X scr d cd t ls st h Q) : ev_X scr d cd pc ls (.int x :: st) h Q := by
  refine ex_step hf ?_ K
  simp only [ev_S, ev_xP, ev_xB, ht]
theorem ex_ia (n : Nat) {a L : Nat} {P : Nat → Prop} {g : Nat → Int32} {j x : Int32} (hf : ev_ft cd pc = some (.inl .iaload)) (hA : IA h a L P g) (hj : j = nI n) (hP : P n) (hn : n < L) (hb : n < 1000) (hx : g n = x) (K : ev_X scr d cd (pc + 1) ls (.int x :: st) h Q) : ev_X scr d cd pc ls (.int j :: .ref a :: st) h Q := by
  obtain ⟨xs, h1, h2, h3⟩ := hA
  exact ex_iald n hf h1 hj (by omega) hb ((h3 n hn hP).trans hx) K
theorem ex_iaw (n : Nat) {a L : Nat} {P : Nat → Prop} {g : Nat → Int32} {j : Int32} (hf : ev_ft cd pc = some (.inl .iaload)) (hA : IA h a L P g) (hj : j = nI n) (hn : n < L) (hb : n < 1000) (K : ∀ x : Int32, (P n → x = g n) → ev_X scr d cd (pc + 1) ls (.int x :: st) h Q) : ev_X scr d cd pc ls (.int j :: .ref a :: st) h Q := by
  obtain ⟨xs, h1, h2, h3⟩ := hA
  exact ex_iald n hf h1 hj (by omega) hb rfl (K _ (fun q => h3 n hn q))
theorem ex_is (n : Nat) {a L : Nat} {P : Nat → Prop} {g : Nat → Int32} {j x : Int32} (hf : ev_ft cd pc = some (.inl .iastore)) (hA : IA h a L P g) (hj : j = nI n) (hn : n < L) (hb : n < 1000) (K : ∀ h', IA h' a L (fun i => P i ∨ i = n) (fun i => if i = n then x else g i) → SB a h h' → ev_X scr d cd (pc + 1) ls st h' Q) : ev_X scr d cd pc ls (.int x :: .int j :: .ref a :: st) h Q := by
  obtain ⟨xs, h1, h2, h3⟩ := hA
  refine ex_iast n hf h1 hj (by omega) hb (K _ ⟨xs.set n x, ?_, by simpa using h2, fun i hi hp => ?_⟩ SB.set)
  · rw [List.getElem?_set_self (by exact (List.getElem?_eq_some_iff.mp h1).1)]
  · by_cases e : i = n
    · subst e
      simp [h2, hi]
    · dsimp only
      rw [if_neg e]
      rcases hp with hp | hp
      · rw [← h3 i hi hp]
        simp [List.getD_eq_getElem?_getD, List.getElem?_set, Ne.symm e]
      · exact absurd hp e
theorem ex_pf {i a c : Nat} {vs : List Value} {x : Int32} (hf : ev_ft cd pc = some (.inl (.putfield i))) (hh : h[a]? = some (.inr (c, vs))) (hc : Nat.beq c (i / 32) = true) (hl : Nat.blt (i % 32) vs.length = true) (K : ∀ h', h'[a]? = some (.inr (c, vs.set (i % 32) (.int x))) → SB a h h' → ev_X scr d cd (pc + 1) ls st h' Q) : ev_X scr d cd pc ls (.int x :: .ref a :: st) h Q :=
  ex_putf hf hh hc hl (K _ (by rw [List.getElem?_set_self (List.getElem?_eq_some_iff.mp hh).1]) SB.set)
theorem ex_pz {i a c n : Nat} {vs : List Value} {x : Int32} (hf : ev_ft cd pc = some (.inl (.multianewarray i n))) (hh : h[a]? = some (.inr (c, vs))) (hc : Nat.beq c (i / 32) = true) (hl : Nat.blt (i % 32) vs.length = true) (hz : ev_bz x = true) (K : ∀ h', h'[a]? = some (.inr (c, vs.set (i % 32) (.int x))) → SB a h h' → ev_X scr d cd (pc + 1) ls st h' Q) : ev_X scr d cd pc ls (.int x :: .ref a :: st) h Q :=
  ex_putz hf hh hc hl hz (K _ (by rw [List.getElem?_set_self (List.getElem?_eq_some_iff.mp hh).1]) SB.set)
theorem ex_pr2 {i a c b : Nat} {vs : List Value} (hf : ev_ft cd pc = some (.inl (.putstatic i))) (hh : h[a]? = some (.inr (c, vs))) (hc : Nat.beq c (i / 32) = true) (hl : Nat.blt (i % 32) vs.length = true) (K : ∀ h', h'[a]? = some (.inr (c, vs.set (i % 32) (.ref b))) → SB a h h' → ev_X scr d cd (pc + 1) ls st h' Q) : ev_X scr d cd pc ls (.ref b :: .ref a :: st) h Q :=
  ex_putr hf hh hc hl (K _ (by rw [List.getElem?_set_self (List.getElem?_eq_some_iff.mp hh).1]) SB.set)
end XR
