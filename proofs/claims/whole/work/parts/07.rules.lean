section ER
variable {scr : List Int32} {d : Nat} {cd : List ev_I} {pc : Nat} {ls st : List Value} {h : ev_H} {r : Option Value × ev_H}
theorem ev_nop (hf : ev_ft cd pc = some (.inl .nop)) (K : ev_V scr d cd (pc + 1) ls st h r) : ev_V scr d cd pc ls st h r := ev_step hf rfl K
theorem ev_getf {i a c : Nat} {vs : List Value} {v : Value} (hf : ev_ft cd pc = some (.inl (.getfield i))) (hh : h[a]? = some (.inr (c, vs))) (hc : Nat.beq c (i / 32) = true) (hv : vs[i % 32]? = some v) (K : ev_V scr d cd (pc + 1) ls (v :: st) h r) : ev_V scr d cd pc ls (.ref a :: st) h r := by
  refine ev_step hf (pc' := pc + 1) (ls' := ls) (st' := v :: st) (h' := h) ?_ K
  simp only [ev_S, ev_xP, ev_xB, ev_xH, hh, hc, hv]
theorem ev_putf {i a c : Nat} {vs : List Value} {x : Int32} (hf : ev_ft cd pc = some (.inl (.putfield i))) (hh : h[a]? = some (.inr (c, vs))) (hc : Nat.beq c (i / 32) = true) (hl : Nat.blt (i % 32) vs.length = true) (K : ev_V scr d cd (pc + 1) ls st (h.set a (.inr (c, vs.set (i % 32) (.int x)))) r) : ev_V scr d cd pc ls (.int x :: .ref a :: st) h r := by
  refine ev_step hf ?_ K
  simp only [ev_S, ev_xP, ev_xB, ev_xH, hh, hc, hl]
theorem ev_putz {i a c n : Nat} {vs : List Value} {x : Int32} (hf : ev_ft cd pc = some (.inl (.multianewarray i n))) (hh : h[a]? = some (.inr (c, vs))) (hc : Nat.beq c (i / 32) = true) (hl : Nat.blt (i % 32) vs.length = true) (hz : ev_bz x = true) (K : ev_V scr d cd (pc + 1) ls st (h.set a (.inr (c, vs.set (i % 32) (.int x)))) r) : ev_V scr d cd pc ls (.int x :: .ref a :: st) h r := by
  refine ev_step hf ?_ K
  simp only [ev_S, ev_xP, ev_xB, ev_xH, hh, hc, hl, hz]
theorem ev_putr {i a c b : Nat} {vs : List Value} (hf : ev_ft cd pc = some (.inl (.putstatic i))) (hh : h[a]? = some (.inr (c, vs))) (hc : Nat.beq c (i / 32) = true) (hl : Nat.blt (i % 32) vs.length = true) (K : ev_V scr d cd (pc + 1) ls st (h.set a (.inr (c, vs.set (i % 32) (.ref b)))) r) : ev_V scr d cd pc ls (.ref b :: .ref a :: st) h r := by
  refine ev_step hf ?_ K
  simp only [ev_S, ev_xP, ev_xB, ev_xH, hh, hc, hl]
theorem ev_in_of {j : Int32} {n L : Nat} (hj : j = nI n) (hn : n < L) (hb : n < 1000) : ev_in j L = true ∧ j.toNatClampNeg = n := by
  subst hj
  have hc : (nI n).toNatClampNeg = n := nI_clamp (by omega)
  refine ⟨?_, hc⟩
  simp only [ev_in, hc, Bool.not_eq_true', Bool.or_eq_false_iff, decide_eq_false_iff_not]
  exact ⟨nI_pos (by omega), by omega⟩
theorem ev_iald (n : Nat) {a : Nat} {j x : Int32} {xs : List Int32} (hf : ev_ft cd pc = some (.inl .iaload)) (hh : h[a]? = some (.inl (0, xs))) (hj : j = nI n) (hn : n < xs.length) (hb : n < 1000) (hx : xs.getD n 0 = x) (K : ev_V scr d cd (pc + 1) ls (.int x :: st) h r) : ev_V scr d cd pc ls (.int j :: .ref a :: st) h r := by
  obtain ⟨h1, h2⟩ := ev_in_of hj hn hb
  refine ev_step hf (pc' := pc + 1) (ls' := ls) (st' := .int x :: st) (h' := h) ?_ K
  simp only [ev_S, ev_xP, ev_xB, ev_xH, hh, h1, h2, hx]
theorem ev_bald (n : Nat) {a : Nat} {j x : Int32} {xs : List Int32} (hf : ev_ft cd pc = some (.inl .baload)) (hh : h[a]? = some (.inl (1, xs)) ∨ h[a]? = some (.inl (2, xs))) (hj : j = nI n) (hn : n < xs.length) (hb : n < 1000) (hx : xs.getD n 0 = x) (K : ev_V scr d cd (pc + 1) ls (.int x :: st) h r) : ev_V scr d cd pc ls (.int j :: .ref a :: st) h r := by
  obtain ⟨h1, h2⟩ := ev_in_of hj hn hb
  refine ev_step hf (pc' := pc + 1) (ls' := ls) (st' := .int x :: st) (h' := h) ?_ K
  rcases hh with hh | hh <;> simp only [ev_S, ev_xP, ev_xB, ev_xH, hh, h1, h2, hx]
theorem ev_iast (n : Nat) {a : Nat} {j x : Int32} {xs : List Int32} (hf : ev_ft cd pc = some (.inl .iastore)) (hh : h[a]? = some (.inl (0, xs))) (hj : j = nI n) (hn : n < xs.length) (hb : n < 1000) (K : ev_V scr d cd (pc + 1) ls st (h.set a (.inl (0, xs.set n x))) r) : ev_V scr d cd pc ls (.int x :: .int j :: .ref a :: st) h r := by
  obtain ⟨h1, h2⟩ := ev_in_of hj hn hb
  refine ev_step hf (pc' := pc + 1) (ls' := ls) (st' := st) (h' := h.set a (.inl (0, xs.set n x))) ?_ K
  simp only [ev_S, ev_xP, ev_xB, ev_xH, hh, h1, h2]
theorem ev_bast1 (n : Nat) {a : Nat} {j x : Int32} {xs : List Int32} (hf : ev_ft cd pc = some (.inl .bastore)) (hh : h[a]? = some (.inl (1, xs))) (hj : j = nI n) (hn : n < xs.length) (hb : n < 1000) (K : ev_V scr d cd (pc + 1) ls st (h.set a (.inl (1, xs.set n (vp_nar .byte x)))) r) : ev_V scr d cd pc ls (.int x :: .int j :: .ref a :: st) h r := by
  obtain ⟨h1, h2⟩ := ev_in_of hj hn hb
  refine ev_step hf (pc' := pc + 1) (ls' := ls) (st' := st) (h' := h.set a (.inl (1, xs.set n (vp_nar .byte x)))) ?_ K
  simp only [ev_S, ev_xP, ev_xB, ev_xH, hh, h1, h2]
theorem ev_bast2 (n : Nat) {a : Nat} {j x : Int32} {xs : List Int32} (hf : ev_ft cd pc = some (.inl .bastore)) (hh : h[a]? = some (.inl (2, xs))) (hj : j = nI n) (hn : n < xs.length) (hb : n < 1000) (K : ev_V scr d cd (pc + 1) ls st (h.set a (.inl (2, xs.set n (vp_nar .boolean x)))) r) : ev_V scr d cd pc ls (.int x :: .int j :: .ref a :: st) h r := by
  obtain ⟨h1, h2⟩ := ev_in_of hj hn hb
  refine ev_step hf (pc' := pc + 1) (ls' := ls) (st' := st) (h' := h.set a (.inl (2, xs.set n (vp_nar .boolean x)))) ?_ K
  simp only [ev_S, ev_xP, ev_xB, ev_xH, hh, h1, h2]
theorem ev_aald (n : Nat) {a b c : Nat} {j : Int32} {vs : List Value} (hf : ev_ft cd pc = some (.inl .aaload)) (hh : h[a]? = some (.inr (c, vs))) (hc : (Nat.beq c 14 || Nat.beq c 12) = true) (hj : j = nI n) (hn : n < vs.length) (hb : n < 1000) (hx : vs[n]? = some (.ref b)) (K : ev_V scr d cd (pc + 1) ls (.ref b :: st) h r) : ev_V scr d cd pc ls (.int j :: .ref a :: st) h r := by
  obtain ⟨h1, h2⟩ := ev_in_of hj hn hb
  refine ev_step hf (pc' := pc + 1) (ls' := ls) (st' := .ref b :: st) (h' := h) ?_ K
  simp only [ev_S, ev_xP, ev_xB, ev_xH, hh, hc, h1, h2, hx]
/-- out of the script, out of rows that nobody writes -/
theorem ev_fald (n : Nat) {a : Nat} {j x : Int32} {xs : List Int32} (hf : ev_ft cd pc = some (.inl .faload)) (ha : Nat.blt a 4 = true) (hh : ev_ro scr a = some xs) (hj : j = nI n) (hn : n < xs.length) (hb : n < 1000) (hx : xs.getD n 0 = x) (K : ev_V scr d cd (pc + 1) ls (.int x :: st) h r) : ev_V scr d cd pc ls (.int j :: .retAddr a :: st) h r := by
  obtain ⟨h1, h2⟩ := ev_in_of hj hn hb
  refine ev_step hf (pc' := pc + 1) (ls' := ls) (st' := .int x :: st) (h' := h) ?_ K
  simp only [ev_S, ev_xP, ev_xB, ev_xH, ha, hh, h1, h2, hx]
theorem ev_cald (n : Nat) {a : Nat} {j x : Int32} {xs : List Int32} (hf : ev_ft cd pc = some (.inl .caload)) (ha : Nat.blt a 20 = false) (hh : ev_ro scr a = some xs) (hj : j = nI n) (hn : n < xs.length) (hb : n < 1000) (hx : xs.getD n 0 = x) (K : ev_V scr d cd (pc + 1) ls (.int x :: st) h r) : ev_V scr d cd pc ls (.int j :: .retAddr a :: st) h r := by
  obtain ⟨h1, h2⟩ := ev_in_of hj hn hb
  refine ev_step hf (pc' := pc + 1) (ls' := ls) (st' := .int x :: st) (h' := h) ?_ K
  simp only [ev_S, ev_xP, ev_xB, ev_xH, ha, hh, h1, h2, hx]
theorem ev_alen {a : Nat} {xs : List Int32} (hf : ev_ft cd pc = some (.inl .arraylength)) (hh : ev_ro scr a = some xs) (K : ev_V scr d cd (pc + 1) ls (.int (Int32.ofNat xs.length) :: st) h r) : ev_V scr d cd pc ls (.retAddr a :: st) h r := by
  refine ev_step hf (pc' := pc + 1) (ls' := ls) (st' := .int (Int32.ofNat xs.length) :: st) (h' := h) ?_ K
  simp only [ev_S, ev_xP, ev_xB, ev_xH, hh]
theorem ev_cbr {c : ClassFile.Cond} {x y : Int32} {t : Int} (b : Bool) (hb : ev_cb c x y = b) (hf : ev_ft cd pc = some (.inl (.if_icmp c t))) (K : ev_V scr d cd (ev_br b t.toNat (pc + 1)) ls st h r) : ev_V scr d cd pc ls (.int y :: .int x :: st) h r := by
  refine ev_step hf ?_ K
  simp only [ev_S, ev_xP, ev_xB, hb]
theorem ev_cbr0 {c : ClassFile.Cond} {x : Int32} {t : Int} (b : Bool) (hb : ev_cb c x 0 = b) (hf : ev_ft cd pc = some (.inl (.ifCond c t))) (K : ev_V scr d cd (ev_br b t.toNat (pc + 1)) ls st h r) : ev_V scr d cd pc ls (.int x :: st) h r := by
  refine ev_step hf ?_ K
  simp only [ev_S, ev_xP, ev_xB, hb]
theorem ev_ieq {x y : Int32} {t : Int} (hf : ev_ft cd pc = some (.inl (.if_icmp .eq t))) (kt : x = y → ev_V scr d cd t.toNat ls st h r) (kf : ¬ x = y → ev_V scr d cd (pc + 1) ls st h r) : ev_V scr d cd pc ls (.int y :: .int x :: st) h r := by
  by_cases hc : x = y
  · exact ev_cbr (c := .eq) true (decide_eq_true hc) hf (kt hc)
  · exact ev_cbr (c := .eq) false (decide_eq_false hc) hf (kf hc)
theorem ev_zeq {x : Int32} {t : Int} (hf : ev_ft cd pc = some (.inl (.ifCond .eq t))) (kt : x = 0 → ev_V scr d cd t.toNat ls st h r) (kf : ¬ x = 0 → ev_V scr d cd (pc + 1) ls st h r) : ev_V scr d cd pc ls (.int x :: st) h r := by
  by_cases hc : x = 0
  · exact ev_cbr0 (c := .eq) true (decide_eq_true hc) hf (kt hc)
  · exact ev_cbr0 (c := .eq) false (decide_eq_false hc) hf (kf hc)
theorem ev_ine {x y : Int32} {t : Int} (hf : ev_ft cd pc = some (.inl (.if_icmp .ne t))) (kt : ¬ x = y → ev_V scr d cd t.toNat ls st h r) (kf : x = y → ev_V scr d cd (pc + 1) ls st h r) : ev_V scr d cd pc ls (.int y :: .int x :: st) h r := by
  by_cases hc : ¬ x = y
  · exact ev_cbr (c := .ne) true (decide_eq_true hc) hf (kt hc)
  · exact ev_cbr (c := .ne) false (decide_eq_false hc) hf (kf (Decidable.not_not.mp hc))
theorem ev_zne {x : Int32} {t : Int} (hf : ev_ft cd pc = some (.inl (.ifCond .ne t))) (kt : ¬ x = 0 → ev_V scr d cd t.toNat ls st h r) (kf : x = 0 → ev_V scr d cd (pc + 1) ls st h r) : ev_V scr d cd pc ls (.int x :: st) h r := by
  by_cases hc : ¬ x = 0
  · exact ev_cbr0 (c := .ne) true (decide_eq_true hc) hf (kt hc)
  · exact ev_cbr0 (c := .ne) false (decide_eq_false hc) hf (kf (Decidable.not_not.mp hc))
theorem ev_ilt {x y : Int32} {t : Int} (hf : ev_ft cd pc = some (.inl (.if_icmp .lt t))) (kt : x < y → ev_V scr d cd t.toNat ls st h r) (kf : ¬ x < y → ev_V scr d cd (pc + 1) ls st h r) : ev_V scr d cd pc ls (.int y :: .int x :: st) h r := by
  by_cases hc : x < y
  · exact ev_cbr (c := .lt) true (decide_eq_true hc) hf (kt hc)
  · exact ev_cbr (c := .lt) false (decide_eq_false hc) hf (kf hc)
theorem ev_zlt {x : Int32} {t : Int} (hf : ev_ft cd pc = some (.inl (.ifCond .lt t))) (kt : x < 0 → ev_V scr d cd t.toNat ls st h r) (kf : ¬ x < 0 → ev_V scr d cd (pc + 1) ls st h r) : ev_V scr d cd pc ls (.int x :: st) h r := by
  by_cases hc : x < 0
  · exact ev_cbr0 (c := .lt) true (decide_eq_true hc) hf (kt hc)
  · exact ev_cbr0 (c := .lt) false (decide_eq_false hc) hf (kf hc)
theorem ev_ige {x y : Int32} {t : Int} (hf : ev_ft cd pc = some (.inl (.if_icmp .ge t))) (kt : y ≤ x → ev_V scr d cd t.toNat ls st h r) (kf : ¬ y ≤ x → ev_V scr d cd (pc + 1) ls st h r) : ev_V scr d cd pc ls (.int y :: .int x :: st) h r := by
  by_cases hc : y ≤ x
  · exact ev_cbr (c := .ge) true (decide_eq_true hc) hf (kt hc)
  · exact ev_cbr (c := .ge) false (decide_eq_false hc) hf (kf hc)
theorem ev_zge {x : Int32} {t : Int} (hf : ev_ft cd pc = some (.inl (.ifCond .ge t))) (kt : 0 ≤ x → ev_V scr d cd t.toNat ls st h r) (kf : ¬ 0 ≤ x → ev_V scr d cd (pc + 1) ls st h r) : ev_V scr d cd pc ls (.int x :: st) h r := by
  by_cases hc : 0 ≤ x
  · exact ev_cbr0 (c := .ge) true (decide_eq_true hc) hf (kt hc)
  · exact ev_cbr0 (c := .ge) false (decide_eq_false hc) hf (kf hc)
theorem ev_igt {x y : Int32} {t : Int} (hf : ev_ft cd pc = some (.inl (.if_icmp .gt t))) (kt : y < x → ev_V scr d cd t.toNat ls st h r) (kf : ¬ y < x → ev_V scr d cd (pc + 1) ls st h r) : ev_V scr d cd pc ls (.int y :: .int x :: st) h r := by
  by_cases hc : y < x
  · exact ev_cbr (c := .gt) true (decide_eq_true hc) hf (kt hc)
  · exact ev_cbr (c := .gt) false (decide_eq_false hc) hf (kf hc)
theorem ev_zgt {x : Int32} {t : Int} (hf : ev_ft cd pc = some (.inl (.ifCond .gt t))) (kt : 0 < x → ev_V scr d cd t.toNat ls st h r) (kf : ¬ 0 < x → ev_V scr d cd (pc + 1) ls st h r) : ev_V scr d cd pc ls (.int x :: st) h r := by
  by_cases hc : 0 < x
  · exact ev_cbr0 (c := .gt) true (decide_eq_true hc) hf (kt hc)
  · exact ev_cbr0 (c := .gt) false (decide_eq_false hc) hf (kf hc)
theorem ev_ile {x y : Int32} {t : Int} (hf : ev_ft cd pc = some (.inl (.if_icmp .le t))) (kt : x ≤ y → ev_V scr d cd t.toNat ls st h r) (kf : ¬ x ≤ y → ev_V scr d cd (pc + 1) ls st h r) : ev_V scr d cd pc ls (.int y :: .int x :: st) h r := by
  by_cases hc : x ≤ y
  · exact ev_cbr (c := .le) true (decide_eq_true hc) hf (kt hc)
  · exact ev_cbr (c := .le) false (decide_eq_false hc) hf (kf hc)
theorem ev_zle {x : Int32} {t : Int} (hf : ev_ft cd pc = some (.inl (.ifCond .le t))) (kt : x ≤ 0 → ev_V scr d cd t.toNat ls st h r) (kf : ¬ x ≤ 0 → ev_V scr d cd (pc + 1) ls st h r) : ev_V scr d cd pc ls (.int x :: st) h r := by
  by_cases hc : x ≤ 0
  · exact ev_cbr0 (c := .le) true (decide_eq_true hc) hf (kt hc)
  · exact ev_cbr0 (c := .le) false (decide_eq_false hc) hf (kf hc)
theorem ev_idiv {x y v : Int32} (hf : ev_ft cd pc = some (.inl .idiv)) (hy : ¬ y = 0) (hv : x / y = v) (K : ev_V scr d cd (pc + 1) ls (.int v :: st) h r) : ev_V scr d cd pc ls (.int y :: .int x :: st) h r := by
  refine ev_step hf (pc' := pc + 1) (ls' := ls) (st' := .int v :: st) (h' := h) ?_ K
  simp only [ev_S, ev_xP, ev_xB, hy, if_false, hv]
theorem ev_irem {x y v : Int32} (hf : ev_ft cd pc = some (.inl .irem)) (hy : ¬ y = 0) (hv : x - x / y * y = v) (K : ev_V scr d cd (pc + 1) ls (.int v :: st) h r) : ev_V scr d cd pc ls (.int y :: .int x :: st) h r := by
  refine ev_step hf (pc' := pc + 1) (ls' := ls) (st' := .int v :: st) (h' := h) ?_ K
  simp only [ev_S, ev_xP, ev_xB, hy, if_false, hv]
theorem ev_ldiv {x y v : Int64} (hf : ev_ft cd pc = some (.inl .ldiv)) (hy : ¬ y = 0) (hv : x / y = v) (K : ev_V scr d cd (pc + 1) ls (.long v :: st) h r) : ev_V scr d cd pc ls (.long y :: .long x :: st) h r := by
  refine ev_step hf (pc' := pc + 1) (ls' := ls) (st' := .long v :: st) (h' := h) ?_ K
  simp only [ev_S, ev_xP, ev_xB, hy, if_false, hv]
theorem ev_lrem {x y v : Int64} (hf : ev_ft cd pc = some (.inl .lrem)) (hy : ¬ y = 0) (hv : x - x / y * y = v) (K : ev_V scr d cd (pc + 1) ls (.long v :: st) h r) : ev_V scr d cd pc ls (.long y :: .long x :: st) h r := by
  refine ev_step hf (pc' := pc + 1) (ls' := ls) (st' := .long v :: st) (h' := h) ?_ K
  simp only [ev_S, ev_xP, ev_xB, hy, if_false, hv]
theorem ev_tsw {x : Int32} {d0 lo hi : Int} {offs : Array Int} {t : Nat} (hf : ev_ft cd pc = some (.inl (.tableswitch d0 lo hi offs))) (ht : (if x.toInt < lo ∨ hi < x.toInt then d0.toNat else (offs.toList.getD (x.toInt - lo).toNat d0).toNat) = t) (K : ev_V scr d cd t ls st h r) : ev_V scr d cd pc ls (.int x :: st) h r := by
  refine ev_step hf ?_ K
  simp only [ev_S, ev_xP, ev_xB, ht]
theorem ev_lsw {x : Int32} {d0 : Int} {ps : Array (Int × Int)} {t : Nat} (hf : ev_ft cd pc = some (.inl (.lookupswitch d0 ps))) (ht : (Op.lookupswitch.offset ps.toList d0 x.toInt).toNat = t) (K : ev_V scr d cd t ls st h r) : ev_V scr d cd pc ls (.int x :: st) h r := by
  refine ev_step hf ?_ K
  simp only [ev_S, ev_xP, ev_xB, ht]
theorem ev_iret {x : Int32} (hf : ev_ft cd pc = some (.inl .ireturn)) : ev_V scr d cd pc ls [.int x] h (some (.int x), h) := ev_ret hf rfl
theorem ev_lret {x : Int64} (hf : ev_ft cd pc = some (.inl .lreturn)) : ev_V scr d cd pc ls [.long x] h (some (.long x), h) := ev_ret hf rfl
theorem ev_vret (hf : ev_ft cd pc = some (.inl .return_)) : ev_V scr d cd pc ls [] h (none, h) := ev_ret hf rfl
theorem ev_tret {x : Int32} {t : Nat} (hf : ev_ft cd pc = some (.inl (.ret t))) (hn : ev_nrw t x = true) : ev_V scr d cd pc ls [.int x] h (some (.int x), h) := by
  refine ev_ret hf ?_
  simp only [ev_S, ev_xP, ev_xB, ev_xH, ev_xR, hn]
theorem ev_aret {x : Nat} (hf : ev_ft cd pc = some (.inl .areturn)) (hx : Nat.beq x 4 = false) : ev_V scr d cd pc ls [.retAddr x] h (some (.retAddr x), h) := by
  refine ev_ret hf ?_
  simp only [ev_S, ev_xP, ev_xB, ev_xH, ev_xR, hx]
theorem ev_cs {k d' : Nat} {cd' : List ev_I} {mL np own : Nat} {v : Option Value} {h' : ev_H} (hf : ev_ft cd pc = some (.inl (.invokestatic k))) (hp : ev_pr k = some (cd', mL, np, own)) (hl : (Nat.ble np st.length && Nat.ble (st.drop np).length 4 && Nat.ble (ev_wd (st.take np)) mL) = true) (hd : d' < d)
    (C : ev_V scr d' cd' 0 (ev_lay (st.take np).reverse mL) [] h (v, h')) (K : ev_V scr d cd (pc + 1) ls (v.toList ++ st.drop np) h' r) : ev_V scr d cd pc ls st h r := by
  refine ev_call hf (k := k) ?_ hp ?_ hd C K
  · simp only [ev_S, ev_xP, ev_xB, ev_xH, ev_xR, ev_xC]
  · rw [Bool.and_eq_true] at hl
    simp only [ev_cok, hl.1, hl.2, Bool.and_true]
theorem ev_cv {k d' b : Nat} {cd' : List ev_I} {mL np own : Nat} {vs : List Value} {v : Option Value} {h' : ev_H} (hf : ev_ft cd pc = some (.inl (.invokevirtual k))) (hp : ev_pr k = some (cd', mL, np, own)) (hl : (Nat.ble np st.length && Nat.ble (st.drop np).length 4 && Nat.ble (ev_wd (st.take np)) mL) = true) (hb : ev_lg (st.take np).reverse 0 = some (.ref b)) (hh : h[b]? = some (.inr (own, vs))) (ho : Nat.blt own 7 = true) (hd : d' < d)
    (C : ev_V scr d' cd' 0 (ev_lay (st.take np).reverse mL) [] h (v, h')) (K : ev_V scr d cd (pc + 1) ls (v.toList ++ st.drop np) h' r) : ev_V scr d cd pc ls st h r := by
  refine ev_call hf (k := k) ?_ hp ?_ hd C K
  · simp only [ev_S, ev_xP, ev_xB, ev_xH, ev_xR, ev_xC]
  · have e : Nat.beq own own = true := Nat.beq_refl own
    rw [Bool.and_eq_true] at hl
    simp only [ev_cok, hl.1, hl.2, hb, ev_rec, hh, ho, e, Bool.and_self]
theorem ev_ct {k d' b : Nat} {cd' : List ev_I} {mL np : Nat} {v : Option Value} {h' : ev_H} (hf : ev_ft cd pc = some (.inl (.invokevirtual k))) (hp : ev_pr k = some (cd', mL, np, 10)) (hl : (Nat.ble np st.length && Nat.ble (st.drop np).length 4 && Nat.ble (ev_wd (st.take np)) mL) = true) (hb : ev_lg (st.take np).reverse 0 = some (.retAddr b)) (hh : (Nat.blt 9 b && Nat.blt b 18) = true) (hd : d' < d)
    (C : ev_V scr d' cd' 0 (ev_lay (st.take np).reverse mL) [] h (v, h')) (K : ev_V scr d cd (pc + 1) ls (v.toList ++ st.drop np) h' r) : ev_V scr d cd pc ls st h r := by
  refine ev_call hf (k := k) ?_ hp ?_ hd C K
  · simp only [ev_S, ev_xP, ev_xB, ev_xH, ev_xR, ev_xC]
  · simp only [Bool.and_eq_true] at hh
    rw [Bool.and_eq_true] at hl
    simp only [ev_cok, hl.1, hl.2, hb, ev_rec, hh.1, hh.2, show Nat.beq 10 10 = true from rfl, Bool.and_self]
end ER
