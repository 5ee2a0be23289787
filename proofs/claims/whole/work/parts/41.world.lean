/-! Bytes; the whole of what there is, block by block. -/
def BA (h : ev_H) (k t L : Nat) (P : Nat → Prop) (g : Nat → Int32) : Prop := ∃ xs : List Int32, h[k]? = some (.inl (t, xs)) ∧ xs.length = L ∧ ∀ i, i < L → P i → xs.getD i 0 = g i
theorem BA.kept {h h' : ev_H} {k t L : Nat} {P : Nat → Prop} {g : Nat → Int32} (x : BA h k t L P g) (hk : h'[k]? = h[k]?) : BA h' k t L P g := by
  obtain ⟨xs, h1, h2, h3⟩ := x
  exact ⟨xs, hk.trans h1, h2, h3⟩
theorem BA.congr {h : ev_H} {k t L : Nat} {P Q : Nat → Prop} {g g' : Nat → Int32} (x : BA h k t L P g) (hg : ∀ i, i < L → Q i → P i ∧ g i = g' i) : BA h k t L Q g' := by
  obtain ⟨xs, h1, h2, h3⟩ := x
  exact ⟨xs, h1, h2, fun i hi hq => (h3 i hi (hg i hi hq).1).trans (hg i hi hq).2⟩
section BYTES
variable {scr : List Int32} {d : Nat} {cd : List ev_I} {pc : Nat} {ls st : List Value} {h : ev_H} {Q : Option Value → ev_H → Prop}
theorem ex_ba (n : Nat) {a t L : Nat} {P : Nat → Prop} {g : Nat → Int32} {j x : Int32} (hf : ev_ft cd pc = some (.inl .baload)) (hA : BA h a t L P g) (ht : t = 1 ∨ t = 2) (hj : j = nI n) (hP : P n) (hn : n < L) (hb : n < 1000) (hx : g n = x) (K : ev_X scr d cd (pc + 1) ls (.int x :: st) h Q) : ev_X scr d cd pc ls (.int j :: .ref a :: st) h Q := by
  obtain ⟨xs, h1, h2, h3⟩ := hA
  refine ex_bald n hf ?_ hj (by omega) hb ((h3 n hn hP).trans hx) K
  rcases ht with rfl | rfl
  · exact Or.inl h1
  · exact Or.inr h1
theorem ex_bs (n : Nat) {a t L : Nat} {P : Nat → Prop} {g : Nat → Int32} {j x y : Int32} (hf : ev_ft cd pc = some (.inl .bastore)) (hA : BA h a t L P g) (hj : j = nI n) (hy : (t = 1 ∧ vp_nar .byte x = y) ∨ (t = 2 ∧ vp_nar .boolean x = y)) (hn : n < L) (hb : n < 1000) (K : ∀ h', BA h' a t L (fun i => P i ∨ i = n) (fun i => if i = n then y else g i) → SB a h h' → ev_X scr d cd (pc + 1) ls st h' Q) : ev_X scr d cd pc ls (.int x :: .int j :: .ref a :: st) h Q := by
  obtain ⟨xs, h1, h2, h3⟩ := hA
  have key : ∀ c : ev_C, c = .inl (t, xs.set n y) → ev_X scr d cd (pc + 1) ls st (h.set a c) Q := by
    intro c hc
    refine K _ ⟨xs.set n y, ?_, by simpa using h2, fun i hi hp => ?_⟩ SB.set
    · rw [List.getElem?_set_self (by exact (List.getElem?_eq_some_iff.mp h1).1), hc]
    · by_cases e : i = n
      · subst e
        simp [h2, hi]
      · dsimp only
        rw [if_neg e]
        rcases hp with hp | hp
        · rw [← h3 i hi hp]
          simp [List.getD_eq_getElem?_getD, List.getElem?_set, Ne.symm e]
        · exact absurd hp e
  rcases hy with ⟨rfl, hy⟩ | ⟨rfl, hy⟩
  · exact ex_bast1 n hf h1 hj (by omega) hb (key _ (by rw [hy]))
  · exact ex_bast2 n hf h1 hj (by omega) hb (key _ (by rw [hy]))
end BYTES
def imgs : List Value := [.ref 31, .ref 40]
def shts : List Value := [.ref 49, .ref 51, .ref 53, .ref 55]
theorem imgs_g {k : Nat} (hk : k < 2) : imgs[k]? = some (.ref (31 + 9 * k)) := by
  rcases (by omega : k = 0 ∨ k = 1) with rfl | rfl <;> rfl
theorem shts_g {k : Nat} (hk : k < 4) : shts[k]? = some (.ref (49 + 2 * k)) := by
  rcases (by omega : k = 0 ∨ k = 1 ∨ k = 2 ∨ k = 3) with rfl | rfl | rfl | rfl <;> rfl
def szI (v : Bool) (s : Nat) : Int32 := if v = true then nI s else -4
abbrev KB (h : ev_H) (k : Nat) (kp : Nat → Bool) : Prop := BA h k 2 2 (fun _ => True) (fun i => nI (tb_b (kp i)))
def IMc (h : ev_H) (n : Nat) (kp : Nat → Bool) (fk : Nat → Nat → Nat) : Prop := h[19]? = some (.inr (14, imgs)) ∧ KB h 20 kp ∧ ∀ k, k < 2 → ∃ n2 f2, TA h (31 + 9 * k) n2 f2 ∧ (kp k = true → n2 = n ∧ f2 = fk k)
def SHo (h : ev_H) (k l : Nat) (s : Int32) : Prop := h[49 + 2 * k]? = some (.inr (2, [.int (nI l), .int s, .ref (49 + 2 * k + 1)]))
def SHc (h : ev_H) (sv : Nat → Bool) (sl ss : Nat → Nat) (sc : Nat → Nat → Int32) : Prop := h[21]? = some (.inr (12, shts)) ∧ ∀ k, k < 4 → SHo h k (sl k) (szI (sv k) (ss k)) ∧ IA h (49 + 2 * k + 1) 40 (fun _ => True) (sc k)
def TEL (h : ev_H) : Prop := (∃ (y : Nat → Int32) (a b : Value), h[23]? = some (.inr (3, [.int (y 0), .int (y 1), .int (y 2), a, b, .int (y 3), .int (y 4), .int (y 5), .int (y 6), .int (y 7), .ref 24, .int (y 8), .int (y 9), .int (y 10), .int (y 11)]))) ∧ LA h 24 3
def PUT (h : ev_H) : Prop := (∃ (y : Int32) (a : Value), h[25]? = some (.inr (1, [.ref 26, .int y, a, .ref 27, .ref 28, .ref 29]))) ∧ LA h 26 8 ∧ LA h 27 8 ∧ LA h 28 4 ∧ LA h 29 4
def WC (h : ev_H) (n : Nat) (f : Nat → Nat) (x : Nat → Int32) (kp : Nat → Bool) (fk : Nat → Nat → Nat) (tl : Nat) (tp : Nat → Nat) (sv : Nat → Bool) (sl ss : Nat → Nat) (sc : Nat → Nat → Int32) : Prop := (CO h x ∧ x 0 = nI tl) ∧ TA h 1 n f ∧ TL h ∧ IMc h n kp fk ∧ SHc h sv sl ss sc ∧ BA h 22 1 160 (fun i => i < tl) (fun i => nI (tp i)) ∧ TEL h ∧ PUT h ∧ FB h
def IMr (h : ev_H) (im : Nat → Int32) (kp : Nat → Bool) (fk : Nat → Nat → Nat) : Prop := KB h 60 kp ∧ ∀ k, k < 2 → kp k = true → ∀ j, j < 57 → im (57 * (k + 1) + j) = rv (fk k) j
def SHr (h : ev_H) (sv : Nat → Bool) (sl ss : Nat → Nat) (sc : Nat → Nat → Int32) : Prop := IA h 67 4 (fun _ => True) (fun k => szI (sv k) (sl k)) ∧ IA h 68 4 (fun _ => True) (fun k => nI (ss k)) ∧ IA h 69 160 (fun _ => True) (fun j => sc (j / 40) (j % 40))
def WR (h : ev_H) (n : Nat) (f : Nat → Nat) (q : Nat → Int32) (im : Nat → Int32) (kp : Nat → Bool) (fk : Nat → Nat → Nat) (tl : Nat) (tp : Nat → Nat) (sv : Nat → Bool) (sl ss : Nat → Nat) (sc : Nat → Nat → Int32) : Prop := (MO h n q ∧ q 4 = nI tl) ∧ ST h f im ∧ RS h ∧ MS h f ∧ IMr h im kp fk ∧ (LA h 62 57 ∧ LA h 63 4) ∧ IA h 64 160 (fun i => i < tl) (fun i => nI (tp i)) ∧ SHr h sv sl ss sc ∧ LA h 70 57
/-- what is said of the numbers alone -/
def PU (n : Nat) (f : Nat → Nat) (x q : Nat → Int32) (kp : Nat → Bool) (fk : Nat → Nat → Nat) (tl : Nat) (tp : Nat → Nat) (sl ss : Nat → Nat) : Prop := GD n f ∧ (x 1 = q 9 ∧ x 2 = q 11) ∧ (∀ k, k < 2 → kp k = true → GD n (fk k) ∧ ∀ t, t < 4 → fk k (60 + t) = f (60 + t)) ∧ tl ≤ 160 ∧ (∀ i, i < tl → tp i < 128) ∧ ∀ k, k < 4 → sl k ≤ 2 ∧ ss k ≤ 40
section WORLD
variable {h h' : ev_H} {n : Nat} {f f' : Nat → Nat} {x q im : Nat → Int32} {kp : Nat → Bool} {fk : Nat → Nat → Nat} {tl : Nat} {tp : Nat → Nat} {sv : Nat → Bool} {sl ss : Nat → Nat} {sc : Nat → Nat → Int32}
theorem TA.same {a : Nat} (t : TA h a n f) (e : ∀ j, a ≤ j → j ≤ a + 8 → h'[j]? = h[j]?) : TA h' a n f := by
  obtain ⟨hO, t1, t2, t3, t4, t5, t6, t7, t8⟩ := t
  exact ⟨(e a (by omega) (by omega)).trans hO, t1.kept (e _ (by omega) (by omega)), t2.kept (e _ (by omega) (by omega)), t3.kept (e _ (by omega) (by omega)), t4.kept (e _ (by omega) (by omega)), t5.kept (e _ (by omega) (by omega)), t6.kept (e _ (by omega) (by omega)), t7.kept (e _ (by omega) (by omega)), t8.kept (e _ (by omega) (by omega))⟩
theorem TL.same (t : TL h) (e : ∀ j, 10 ≤ j → j ≤ 18 → h'[j]? = h[j]?) : TL h' := by
  obtain ⟨n, f, t⟩ := t
  exact ⟨n, f, t.same e⟩
theorem IMc.same (t : IMc h n kp fk) (e : ∀ j, j = 19 ∨ j = 20 ∨ (31 ≤ j ∧ j ≤ 48) → h'[j]? = h[j]?) : IMc h' n kp fk := by
  obtain ⟨a, b, c⟩ := t
  refine ⟨(e 19 (by omega)).trans a, b.kept (e 20 (by omega)), fun k hk => ?_⟩
  obtain ⟨n2, f2, t, i⟩ := c k hk
  exact ⟨n2, f2, t.same (fun j h1 h2 => e j (by omega)), i⟩
theorem SHc.same (t : SHc h sv sl ss sc) (e : ∀ j, j = 21 ∨ 49 ≤ j ∧ j ≤ 56 → h'[j]? = h[j]?) : SHc h' sv sl ss sc := by
  obtain ⟨a, b⟩ := t
  refine ⟨(e 21 (by omega)).trans a, fun k hk => ⟨(e _ (by omega)).trans (b k hk).1, (b k hk).2.kept (e _ (by omega))⟩⟩
theorem TEL.same (t : TEL h) (e : ∀ j, 23 ≤ j → j ≤ 24 → h'[j]? = h[j]?) : TEL h' := by
  obtain ⟨⟨y, a, b, o⟩, l⟩ := t
  exact ⟨⟨y, a, b, (e 23 (by decide) (by decide)).trans o⟩, l.kept (e 24 (by decide) (by decide))⟩
theorem PUT.same (t : PUT h) (e : ∀ j, 25 ≤ j → j ≤ 29 → h'[j]? = h[j]?) : PUT h' := by
  obtain ⟨⟨y, a, o⟩, l1, l2, l3, l4⟩ := t
  exact ⟨⟨y, a, (e 25 (by decide) (by decide)).trans o⟩, l1.kept (e 26 (by decide) (by decide)), l2.kept (e 27 (by decide) (by decide)), l3.kept (e 28 (by decide) (by decide)), l4.kept (e 29 (by decide) (by decide))⟩
theorem FB.same (t : FB h) (e : h'[30]? = h[30]?) : FB h' := by
  obtain ⟨a, b, c, d, k, o⟩ := t
  exact ⟨a, b, c, d, k, e.trans o⟩
theorem WC.same (w : WC h n f x kp fk tl tp sv sl ss sc) (e : ∀ j, j ≤ 56 → h'[j]? = h[j]?) : WC h' n f x kp fk tl tp sv sl ss sc := by
  obtain ⟨⟨w0, w1⟩, w2, w3, w4, w5, w6, w7, w8, w9⟩ := w
  exact ⟨⟨(e 0 (by decide)).trans w0, w1⟩, w2.same (fun j _ _ => e j (by omega)), w3.same (fun j _ _ => e j (by omega)), w4.same (fun j _ => e j (by omega)), w5.same (fun j _ => e j (by omega)), w6.kept (e 22 (by decide)), w7.same (fun j _ _ => e j (by omega)), w8.same (fun j _ _ => e j (by omega)), w9.same (e 30 (by decide))⟩
theorem WR.same (w : WR h n f q im kp fk tl tp sv sl ss sc) (e : ∀ j, 57 ≤ j → h'[j]? = h[j]?) : WR h' n f q im kp fk tl tp sv sl ss sc := by
  obtain ⟨⟨w0, w1⟩, w2, w3, w4, w5, w6, w7, w8, w9⟩ := w
  exact ⟨⟨(e 57 (by decide)).trans w0, w1⟩, w2.kept (e 58 (by decide)), ⟨w3.1.kept (e _ (by decide)), w3.2.1.kept (e _ (by decide)), w3.2.2.kept (e _ (by decide))⟩, w4.kept (e _ (by decide)), ⟨w5.1.kept (e _ (by decide)), w5.2⟩, ⟨w6.1.kept (e _ (by decide)), w6.2.kept (e _ (by decide))⟩, w7.kept (e _ (by decide)), ⟨w8.1.kept (e _ (by decide)), w8.2.1.kept (e _ (by decide)), w8.2.2.kept (e _ (by decide))⟩, w9.kept (e _ (by decide))⟩
theorem WC.town (w : WC h n f x kp fk tl tp sv sl ss sc) (F : FR 1 18 h h') (hT : TA h' 1 n f') (hL : TL h') : WC h' n f' x kp fk tl tp sv sl ss sc := by
  obtain ⟨⟨w0, w1⟩, w2, w3, w4, w5, w6, w7, w8, w9⟩ := w
  exact ⟨⟨(F.2 0 (by decide)).trans w0, w1⟩, hT, hL, w4.same (fun j _ => F.2 j (by omega)), w5.same (fun j _ => F.2 j (by omega)), w6.kept (F.2 22 (by decide)), w7.same (fun j _ _ => F.2 j (by omega)), w8.same (fun j _ _ => F.2 j (by omega)), w9.same (F.2 30 (by decide))⟩
theorem WR.st (w : WR h n f q im kp fk tl tp sv sl ss sc) (Y : RY h h') (hS : ST h' f' im) (hR : RS h') (hm : ∀ t, t < 4 → f' (60 + t) = f (60 + t)) : WR h' n f' q im kp fk tl tp sv sl ss sc := by
  obtain ⟨⟨w0, w1⟩, w2, w3, w4, w5, w6, w7, w8, w9⟩ := w
  have e : ∀ j, j ≠ 58 → j ≠ 59 → j ≠ 65 → j ≠ 66 → h'[j]? = h[j]? := Y.2
  exact ⟨⟨(e 57 (by decide) (by decide) (by decide) (by decide)).trans w0, w1⟩, hS, hR, (w4.kept (e _ (by decide) (by decide) (by decide) (by decide))).congr (fun t ht hp => ⟨hp, by rw [hm t ht]⟩), ⟨w5.1.kept (e _ (by decide) (by decide) (by decide) (by decide)), w5.2⟩, ⟨w6.1.kept (e _ (by decide) (by decide) (by decide) (by decide)), w6.2.kept (e _ (by decide) (by decide) (by decide) (by decide))⟩, w7.kept (e _ (by decide) (by decide) (by decide) (by decide)), ⟨w8.1.kept (e _ (by decide) (by decide) (by decide) (by decide)), w8.2.1.kept (e _ (by decide) (by decide) (by decide) (by decide)), w8.2.2.kept (e _ (by decide) (by decide) (by decide) (by decide))⟩, w9.kept (e _ (by decide) (by decide) (by decide) (by decide))⟩
end WORLD
