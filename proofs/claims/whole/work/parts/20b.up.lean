/-! Towns that change. -/
def up (f : Nat → Nat) (k v : Nat) : Nat → Nat := fun j => if j = k then v else f j
theorem up_ne {f : Nat → Nat} {k v j : Nat} (h : j ≠ k) : up f k v j = f j := if_neg h
theorem up_eq {f : Nat → Nat} {k v : Nat} : up f k v k = v := if_pos rfl
theorem up_eq' {f : Nat → Nat} {k v j : Nat} (h : j = k) : up f k v j = v := if_pos h
theorem TA.kept {h h1 : ev_H} {a b n : Nat} {f : Nat → Nat} (hT : TA h b n f) (x : FR a (a + 8) h h1) (hd : b + 8 < a ∨ a + 8 < b) : TA h1 b n f := by
  obtain ⟨hO, t1, t2, t3, t4, t5, t6, t7, t8⟩ := hT
  exact ⟨(x.2 b (by omega)).trans hO, t1.fr x (by omega), t2.fr x (by omega), t3.fr x (by omega), t4.fr x (by omega), t5.fr x (by omega), t6.fr x (by omega), t7.fr x (by omega), t8.fr x (by omega)⟩
theorem TA.fr {h h1 : ev_H} {b n p q : Nat} {f : Nat → Nat} (hT : TA h b n f) (x : FR p q h h1) (hd : b + 8 < p ∨ q < b) : TA h1 b n f := by
  obtain ⟨hO, t1, t2, t3, t4, t5, t6, t7, t8⟩ := hT
  exact ⟨(x.2 b (by omega)).trans hO, t1.fr x (by omega), t2.fr x (by omega), t3.fr x (by omega), t4.fr x (by omega), t5.fr x (by omega), t6.fr x (by omega), t7.fr x (by omega), t8.fr x (by omega)⟩
theorem TA.cong {h : ev_H} {a n : Nat} {f f' : Nat → Nat} (hT : TA h a n f) (e : ∀ j, f' j = f j) : TA h a n f' := by
  rw [show f' = f from funext e]
  exact hT
theorem IA.grow {h : ev_H} {k L i : Nat} {P : Nat → Prop} {g : Nat → Int32} {x : Int32} (hA : IA h k L (fun m => (m < i ∧ P m) ∨ m = i) (fun m => if m = i then x else g m)) (hx : P i → x = g i) : IA h k L (fun m => m < i + 1 ∧ P m) g := by
  refine hA.congr (fun m hm hp => ?_)
  by_cases c : m = i
  · refine ⟨Or.inr c, ?_⟩
    rw [if_pos c, hx (c ▸ hp.2), c]
  · refine ⟨Or.inl ⟨by omega, hp.2⟩, ?_⟩
    rw [if_neg c]
theorem IA.none {h : ev_H} {k L : Nat} {P P' : Nat → Prop} {g g' : Nat → Int32} (hA : IA h k L P g) : IA h k L (fun m => m < 0 ∧ P' m) g' := hA.congr (fun m _ hp => absurd hp.1 (Nat.not_lt_zero m))
theorem IA.full {h : ev_H} {k L : Nat} {P : Nat → Prop} {g : Nat → Int32} (hA : IA h k L (fun m => m < L ∧ P m) g) : IA h k L P g := hA.congr (fun m hm hp => ⟨⟨hm, hp⟩, rfl⟩)
section UP
variable {h h1 : ev_H} {a n m v : Nat} {f : Nat → Nat} {x : Int32}
theorem TA.u_kinds (hT : TA h a n f) (hA : IA h1 (a + 1) 8 (fun i => i < n ∨ i = m) (fun i => if i = m then x else nI (f (5 * i)))) (hB : SB (a + 1) h h1) (hm : m < 8) (hx : x = nI v) : TA h1 a n (up f (5 * m) v) := by
  subst hx
  obtain ⟨hO, t1, t2, t3, t4, t5, t6, t7, t8⟩ := hT
  have e : ∀ j, 40 ≤ j → up f (5 * m) v j = f j := fun j hj => up_ne (by omega)
  unfold TA
  rw [e 40 (by decide), e 41 (by decide), e 42 (by decide), e 43 (by decide), e 44 (by decide)]
  exact ⟨(hB.2 a (by omega)).trans hO, hA.congr (fun i hi hp => ⟨Or.inl hp, by
    by_cases c : i = m
    · rw [if_pos c, up_eq' (by omega)]
    · rw [if_neg c, up_ne (by omega)]⟩), (t2.sb hB (by omega)).congr (fun i hi hp => ⟨hp, by rw [up_ne (by omega)]⟩), (t3.sb hB (by omega)).congr (fun i hi hp => ⟨hp, by rw [up_ne (by omega)]⟩), (t4.sb hB (by omega)).congr (fun i hi hp => ⟨hp, by rw [up_ne (by omega)]⟩), (t5.sb hB (by omega)).congr (fun i hi hp => ⟨hp, by rw [up_ne (by omega)]⟩), (t6.sb hB (by omega)).congr (fun i hi hp => ⟨hp, by rw [up_ne (by omega)]⟩), (t7.sb hB (by omega)).congr (fun i hi hp => ⟨hp, by rw [up_ne (by omega)]⟩), (t8.sb hB (by omega)).congr (fun i hi hp => ⟨hp, by rw [up_ne (by omega)]⟩)⟩
theorem TA.u_odds (hT : TA h a n f) (hA : IA h1 (a + 2) 8 (fun i => i < n ∨ i = m) (fun i => if i = m then x else nI (f (5 * i + 1)))) (hB : SB (a + 2) h h1) (hm : m < 8) (hx : x = nI v) : TA h1 a n (up f (5 * m + 1) v) := by
  subst hx
  obtain ⟨hO, t1, t2, t3, t4, t5, t6, t7, t8⟩ := hT
  have e : ∀ j, 40 ≤ j → up f (5 * m + 1) v j = f j := fun j hj => up_ne (by omega)
  unfold TA
  rw [e 40 (by decide), e 41 (by decide), e 42 (by decide), e 43 (by decide), e 44 (by decide)]
  exact ⟨(hB.2 a (by omega)).trans hO, (t1.sb hB (by omega)).congr (fun i hi hp => ⟨hp, by rw [up_ne (by omega)]⟩), hA.congr (fun i hi hp => ⟨Or.inl hp, by
    by_cases c : i = m
    · rw [if_pos c, up_eq' (by omega)]
    · rw [if_neg c, up_ne (by omega)]⟩), (t3.sb hB (by omega)).congr (fun i hi hp => ⟨hp, by rw [up_ne (by omega)]⟩), (t4.sb hB (by omega)).congr (fun i hi hp => ⟨hp, by rw [up_ne (by omega)]⟩), (t5.sb hB (by omega)).congr (fun i hi hp => ⟨hp, by rw [up_ne (by omega)]⟩), (t6.sb hB (by omega)).congr (fun i hi hp => ⟨hp, by rw [up_ne (by omega)]⟩), (t7.sb hB (by omega)).congr (fun i hi hp => ⟨hp, by rw [up_ne (by omega)]⟩), (t8.sb hB (by omega)).congr (fun i hi hp => ⟨hp, by rw [up_ne (by omega)]⟩)⟩
theorem TA.u_stock (hT : TA h a n f) (hA : IA h1 (a + 3) 8 (fun i => i < n ∨ i = m) (fun i => if i = m then x else nI (f (5 * i + 2)))) (hB : SB (a + 3) h h1) (hm : m < 8) (hx : x = nI v) : TA h1 a n (up f (5 * m + 2) v) := by
  subst hx
  obtain ⟨hO, t1, t2, t3, t4, t5, t6, t7, t8⟩ := hT
  have e : ∀ j, 40 ≤ j → up f (5 * m + 2) v j = f j := fun j hj => up_ne (by omega)
  unfold TA
  rw [e 40 (by decide), e 41 (by decide), e 42 (by decide), e 43 (by decide), e 44 (by decide)]
  exact ⟨(hB.2 a (by omega)).trans hO, (t1.sb hB (by omega)).congr (fun i hi hp => ⟨hp, by rw [up_ne (by omega)]⟩), (t2.sb hB (by omega)).congr (fun i hi hp => ⟨hp, by rw [up_ne (by omega)]⟩), hA.congr (fun i hi hp => ⟨Or.inl hp, by
    by_cases c : i = m
    · rw [if_pos c, up_eq' (by omega)]
    · rw [if_neg c, up_ne (by omega)]⟩), (t4.sb hB (by omega)).congr (fun i hi hp => ⟨hp, by rw [up_ne (by omega)]⟩), (t5.sb hB (by omega)).congr (fun i hi hp => ⟨hp, by rw [up_ne (by omega)]⟩), (t6.sb hB (by omega)).congr (fun i hi hp => ⟨hp, by rw [up_ne (by omega)]⟩), (t7.sb hB (by omega)).congr (fun i hi hp => ⟨hp, by rw [up_ne (by omega)]⟩), (t8.sb hB (by omega)).congr (fun i hi hp => ⟨hp, by rw [up_ne (by omega)]⟩)⟩
theorem TA.u_tens (hT : TA h a n f) (hA : IA h1 (a + 4) 8 (fun i => i < n ∨ i = m) (fun i => if i = m then x else tv (f (5 * i + 3)))) (hB : SB (a + 4) h h1) (hm : m < 8) (hx : x = tv v) : TA h1 a n (up f (5 * m + 3) v) := by
  subst hx
  obtain ⟨hO, t1, t2, t3, t4, t5, t6, t7, t8⟩ := hT
  have e : ∀ j, 40 ≤ j → up f (5 * m + 3) v j = f j := fun j hj => up_ne (by omega)
  unfold TA
  rw [e 40 (by decide), e 41 (by decide), e 42 (by decide), e 43 (by decide), e 44 (by decide)]
  exact ⟨(hB.2 a (by omega)).trans hO, (t1.sb hB (by omega)).congr (fun i hi hp => ⟨hp, by rw [up_ne (by omega)]⟩), (t2.sb hB (by omega)).congr (fun i hi hp => ⟨hp, by rw [up_ne (by omega)]⟩), (t3.sb hB (by omega)).congr (fun i hi hp => ⟨hp, by rw [up_ne (by omega)]⟩), hA.congr (fun i hi hp => ⟨Or.inl hp, by
    by_cases c : i = m
    · rw [if_pos c, up_eq' (by omega)]
    · rw [if_neg c, up_ne (by omega)]⟩), (t5.sb hB (by omega)).congr (fun i hi hp => ⟨hp, by rw [up_ne (by omega)]⟩), (t6.sb hB (by omega)).congr (fun i hi hp => ⟨hp, by rw [up_ne (by omega)]⟩), (t7.sb hB (by omega)).congr (fun i hi hp => ⟨hp, by rw [up_ne (by omega)]⟩), (t8.sb hB (by omega)).congr (fun i hi hp => ⟨hp, by rw [up_ne (by omega)]⟩)⟩
theorem TA.u_kins (hT : TA h a n f) (hA : IA h1 (a + 5) 8 (fun i => True ∨ i = m) (fun i => if i = m then x else nI (f (5 * i + 4)))) (hB : SB (a + 5) h h1) (hm : m < 8) (hx : x = nI v) : TA h1 a n (up f (5 * m + 4) v) := by
  subst hx
  obtain ⟨hO, t1, t2, t3, t4, t5, t6, t7, t8⟩ := hT
  have e : ∀ j, 40 ≤ j → up f (5 * m + 4) v j = f j := fun j hj => up_ne (by omega)
  unfold TA
  rw [e 40 (by decide), e 41 (by decide), e 42 (by decide), e 43 (by decide), e 44 (by decide)]
  exact ⟨(hB.2 a (by omega)).trans hO, (t1.sb hB (by omega)).congr (fun i hi hp => ⟨hp, by rw [up_ne (by omega)]⟩), (t2.sb hB (by omega)).congr (fun i hi hp => ⟨hp, by rw [up_ne (by omega)]⟩), (t3.sb hB (by omega)).congr (fun i hi hp => ⟨hp, by rw [up_ne (by omega)]⟩), (t4.sb hB (by omega)).congr (fun i hi hp => ⟨hp, by rw [up_ne (by omega)]⟩), hA.congr (fun i hi hp => ⟨Or.inl hp, by
    by_cases c : i = m
    · rw [if_pos c, up_eq' (by omega)]
    · rw [if_neg c, up_ne (by omega)]⟩), (t6.sb hB (by omega)).congr (fun i hi hp => ⟨hp, by rw [up_ne (by omega)]⟩), (t7.sb hB (by omega)).congr (fun i hi hp => ⟨hp, by rw [up_ne (by omega)]⟩), (t8.sb hB (by omega)).congr (fun i hi hp => ⟨hp, by rw [up_ne (by omega)]⟩)⟩
theorem TA.u_mosts (hT : TA h a n f) (hA : IA h1 (a + 6) 4 (fun i => True ∨ i = m) (fun i => if i = m then x else nI (f (60 + i)))) (hB : SB (a + 6) h h1) (hm : m < 4) (hx : x = nI v) : TA h1 a n (up f (60 + m) v) := by
  subst hx
  obtain ⟨hO, t1, t2, t3, t4, t5, t6, t7, t8⟩ := hT
  have e : ∀ j, j < 60 → up f (60 + m) v j = f j := fun j hj => up_ne (by omega)
  unfold TA
  rw [e 40 (by decide), e 41 (by decide), e 42 (by decide), e 43 (by decide), e 44 (by decide)]
  exact ⟨(hB.2 a (by omega)).trans hO, (t1.sb hB (by omega)).congr (fun i hi hp => ⟨hp, by rw [up_ne (by omega)]⟩), (t2.sb hB (by omega)).congr (fun i hi hp => ⟨hp, by rw [up_ne (by omega)]⟩), (t3.sb hB (by omega)).congr (fun i hi hp => ⟨hp, by rw [up_ne (by omega)]⟩), (t4.sb hB (by omega)).congr (fun i hi hp => ⟨hp, by rw [up_ne (by omega)]⟩), (t5.sb hB (by omega)).congr (fun i hi hp => ⟨hp, by rw [up_ne (by omega)]⟩), hA.congr (fun i hi hp => ⟨Or.inl hp, by
    by_cases c : i = m
    · rw [if_pos c, up_eq' (by omega)]
    · rw [if_neg c, up_ne (by omega)]⟩), (t7.sb hB (by omega)).congr (fun i hi hp => ⟨hp, by rw [up_ne (by omega)]⟩), (t8.sb hB (by omega)).congr (fun i hi hp => ⟨hp, by rw [up_ne (by omega)]⟩)⟩
theorem TA.f_41 (hT : TA h a n f) (hO1 : h1[a]? = some (.inr (4, [.int (nI (n)), .int x, .int (nI (f 42)), .int (nI (f 43)), .int (nI (f 40)), .int (nI (f 44)), .ref (a + 1), .ref (a + 2), .ref (a + 3), .ref (a + 4), .ref (a + 5), .ref (a + 6), .ref (a + 7), .ref (a + 8)]))) (hB : SB a h h1) (hx : x = nI v) : TA h1 a n (up f 41 v) := by
  subst hx
  obtain ⟨hO, t1, t2, t3, t4, t5, t6, t7, t8⟩ := hT
  have e : ∀ j, j ≠ 41 → up f 41 v j = f j := fun j hj => up_ne hj
  unfold TA
  rw [e 40 (by decide), e 42 (by decide), e 43 (by decide), e 44 (by decide), up_eq]
  exact ⟨hO1, (t1.sb hB (by omega)).congr (fun i hi hp => ⟨hp, by rw [up_ne (by omega)]⟩), (t2.sb hB (by omega)).congr (fun i hi hp => ⟨hp, by rw [up_ne (by omega)]⟩), (t3.sb hB (by omega)).congr (fun i hi hp => ⟨hp, by rw [up_ne (by omega)]⟩), (t4.sb hB (by omega)).congr (fun i hi hp => ⟨hp, by rw [up_ne (by omega)]⟩), (t5.sb hB (by omega)).congr (fun i hi hp => ⟨hp, by rw [up_ne (by omega)]⟩), (t6.sb hB (by omega)).congr (fun i hi hp => ⟨hp, by rw [up_ne (by omega)]⟩), (t7.sb hB (by omega)).congr (fun i hi hp => ⟨hp, by rw [up_ne (by omega)]⟩), (t8.sb hB (by omega)).congr (fun i hi hp => ⟨hp, by rw [up_ne (by omega)]⟩)⟩
theorem TA.f_42 (hT : TA h a n f) (hO1 : h1[a]? = some (.inr (4, [.int (nI (n)), .int (nI (f 41)), .int x, .int (nI (f 43)), .int (nI (f 40)), .int (nI (f 44)), .ref (a + 1), .ref (a + 2), .ref (a + 3), .ref (a + 4), .ref (a + 5), .ref (a + 6), .ref (a + 7), .ref (a + 8)]))) (hB : SB a h h1) (hx : x = nI v) : TA h1 a n (up f 42 v) := by
  subst hx
  obtain ⟨hO, t1, t2, t3, t4, t5, t6, t7, t8⟩ := hT
  have e : ∀ j, j ≠ 42 → up f 42 v j = f j := fun j hj => up_ne hj
  unfold TA
  rw [e 40 (by decide), e 41 (by decide), e 43 (by decide), e 44 (by decide), up_eq]
  exact ⟨hO1, (t1.sb hB (by omega)).congr (fun i hi hp => ⟨hp, by rw [up_ne (by omega)]⟩), (t2.sb hB (by omega)).congr (fun i hi hp => ⟨hp, by rw [up_ne (by omega)]⟩), (t3.sb hB (by omega)).congr (fun i hi hp => ⟨hp, by rw [up_ne (by omega)]⟩), (t4.sb hB (by omega)).congr (fun i hi hp => ⟨hp, by rw [up_ne (by omega)]⟩), (t5.sb hB (by omega)).congr (fun i hi hp => ⟨hp, by rw [up_ne (by omega)]⟩), (t6.sb hB (by omega)).congr (fun i hi hp => ⟨hp, by rw [up_ne (by omega)]⟩), (t7.sb hB (by omega)).congr (fun i hi hp => ⟨hp, by rw [up_ne (by omega)]⟩), (t8.sb hB (by omega)).congr (fun i hi hp => ⟨hp, by rw [up_ne (by omega)]⟩)⟩
theorem TA.f_43 (hT : TA h a n f) (hO1 : h1[a]? = some (.inr (4, [.int (nI (n)), .int (nI (f 41)), .int (nI (f 42)), .int x, .int (nI (f 40)), .int (nI (f 44)), .ref (a + 1), .ref (a + 2), .ref (a + 3), .ref (a + 4), .ref (a + 5), .ref (a + 6), .ref (a + 7), .ref (a + 8)]))) (hB : SB a h h1) (hx : x = nI v) : TA h1 a n (up f 43 v) := by
  subst hx
  obtain ⟨hO, t1, t2, t3, t4, t5, t6, t7, t8⟩ := hT
  have e : ∀ j, j ≠ 43 → up f 43 v j = f j := fun j hj => up_ne hj
  unfold TA
  rw [e 40 (by decide), e 41 (by decide), e 42 (by decide), e 44 (by decide), up_eq]
  exact ⟨hO1, (t1.sb hB (by omega)).congr (fun i hi hp => ⟨hp, by rw [up_ne (by omega)]⟩), (t2.sb hB (by omega)).congr (fun i hi hp => ⟨hp, by rw [up_ne (by omega)]⟩), (t3.sb hB (by omega)).congr (fun i hi hp => ⟨hp, by rw [up_ne (by omega)]⟩), (t4.sb hB (by omega)).congr (fun i hi hp => ⟨hp, by rw [up_ne (by omega)]⟩), (t5.sb hB (by omega)).congr (fun i hi hp => ⟨hp, by rw [up_ne (by omega)]⟩), (t6.sb hB (by omega)).congr (fun i hi hp => ⟨hp, by rw [up_ne (by omega)]⟩), (t7.sb hB (by omega)).congr (fun i hi hp => ⟨hp, by rw [up_ne (by omega)]⟩), (t8.sb hB (by omega)).congr (fun i hi hp => ⟨hp, by rw [up_ne (by omega)]⟩)⟩
theorem TA.f_40 (hT : TA h a n f) (hO1 : h1[a]? = some (.inr (4, [.int (nI (n)), .int (nI (f 41)), .int (nI (f 42)), .int (nI (f 43)), .int x, .int (nI (f 44)), .ref (a + 1), .ref (a + 2), .ref (a + 3), .ref (a + 4), .ref (a + 5), .ref (a + 6), .ref (a + 7), .ref (a + 8)]))) (hB : SB a h h1) (hx : x = nI v) : TA h1 a n (up f 40 v) := by
  subst hx
  obtain ⟨hO, t1, t2, t3, t4, t5, t6, t7, t8⟩ := hT
  have e : ∀ j, j ≠ 40 → up f 40 v j = f j := fun j hj => up_ne hj
  unfold TA
  rw [e 41 (by decide), e 42 (by decide), e 43 (by decide), e 44 (by decide), up_eq]
  exact ⟨hO1, (t1.sb hB (by omega)).congr (fun i hi hp => ⟨hp, by rw [up_ne (by omega)]⟩), (t2.sb hB (by omega)).congr (fun i hi hp => ⟨hp, by rw [up_ne (by omega)]⟩), (t3.sb hB (by omega)).congr (fun i hi hp => ⟨hp, by rw [up_ne (by omega)]⟩), (t4.sb hB (by omega)).congr (fun i hi hp => ⟨hp, by rw [up_ne (by omega)]⟩), (t5.sb hB (by omega)).congr (fun i hi hp => ⟨hp, by rw [up_ne (by omega)]⟩), (t6.sb hB (by omega)).congr (fun i hi hp => ⟨hp, by rw [up_ne (by omega)]⟩), (t7.sb hB (by omega)).congr (fun i hi hp => ⟨hp, by rw [up_ne (by omega)]⟩), (t8.sb hB (by omega)).congr (fun i hi hp => ⟨hp, by rw [up_ne (by omega)]⟩)⟩
end UP
