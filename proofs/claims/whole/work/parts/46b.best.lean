/-! best: puttings, and what may be left out. -/
def pt (n : Nat) (f a : Nat → Nat) : Nat → Nat := fun j => if j % 5 = 3 ∧ j < 5 * n then a (j / 5) else f j
theorem pt_t {n : Nat} {f a : Nat → Nat} {m : Nat} (hm : m < n) : pt n f a (5 * m + 3) = a m := by
  unfold pt
  rw [if_pos (by omega)]
  congr 1
  omega
theorem pt_o {n : Nat} {f a : Nat → Nat} {j : Nat} (h : ¬ (j % 5 = 3 ∧ j < 5 * n)) : pt n f a j = f j := if_neg h
theorem pt_c {n : Nat} {f a b : Nat → Nat} (h : ∀ m, m < n → a m = b m) : pt n f a = pt n f b := funext (fun j => by
  unfold pt
  by_cases c : j % 5 = 3 ∧ j < 5 * n
  · rw [if_pos c, if_pos c, h _ (by omega)]
  · rw [if_neg c, if_neg c])
def prp (n : Nat) (f a : Nat → Nat) : Prop := ∀ m, m < n → (f (5 * m) = 3 → a m = 4) ∧ (f (5 * m) ≠ 3 → a m < 4)
theorem gd_pt {n : Nat} {f a : Nat → Nat} (g : GD n f) (p : prp n f a) : GD n (pt n f a) := by
  have hn := g.1
  obtain ⟨g1, g2, g3, g4, g5, g6, g7, g8, g9, g10⟩ := g
  have ho : ∀ j, 40 ≤ j → pt n f a j = f j := fun j hj => pt_o (by omega)
  refine ⟨g1, fun m hmn => ?_, by rw [ho 40 (by omega)]; exact g3, by rw [ho 41 (by omega)]; exact g4, by rw [ho 42 (by omega)]; exact g5, fun m h8 => by rw [pt_o (by omega)]; exact g6 m h8, by rw [ho 43 (by omega)]; exact g7, by rw [ho 44 (by omega)]; exact g8, fun k hk => ?_, fun t ht => by rw [ho _ (by omega)]; exact g10 t ht⟩
  · rw [pt_o (by omega), pt_o (by omega), pt_o (by omega), pt_t hmn, ho 40 (by omega)]
    obtain ⟨a1, a2, a3, a4, a5, a6⟩ := g2 m hmn
    obtain ⟨p1, p2⟩ := p m hmn
    by_cases c : f (5 * m) = 3
    · have := p1 c
      refine ⟨a1, a2, a3, by omega, by omega, fun hb => ?_⟩
      have := a6 hb
      have := a5.mp c
      omega
    · have := p2 c
      exact ⟨a1, a2, a3, by omega, by omega, fun _ => this⟩
  · rw [ho 44 (by omega)] at hk
    rw [ho _ (by omega), ho _ (by omega)]
    exact g9 k hk
def Hh (n : Nat) (f a : Nat → Nat) : Nat := ha n (pt n f a)
def ctn (n : Nat) (a : Nat → Nat) (t : Nat) : Nat := sm (fun m => tb_b (decide (a m = t))) n
def vb (n : Nat) (f a : Nat → Nat) : Nat → Bool
  | 0 => true
  | t + 1 => vb n f a t && decide (ctn n a t ≤ f (60 + t))
theorem vb_iff (n : Nat) (f a : Nat → Nat) : ∀ k, vb n f a k = true ↔ ∀ t, t < k → ctn n a t ≤ f (60 + t)
  | 0 => ⟨fun _ t ht => absurd ht (Nat.not_lt_zero t), fun _ => rfl⟩
  | k + 1 => by
    rw [vb, Bool.and_eq_true, decide_eq_true_eq, vb_iff n f a k]
    constructor
    · rintro ⟨x, y⟩ t ht
      by_cases c : t = k
      · rw [c]; exact y
      · exact x t (by omega)
    · intro x
      exact ⟨fun t ht => x t (by omega), x k (by omega)⟩
def vld (n : Nat) (f a : Nat → Nat) : Bool := vb n f a 4
theorem ctn_c {n : Nat} {a b : Nat → Nat} (h : ∀ m, m < n → a m = b m) (t : Nat) : ctn n a t = ctn n b t := sm_cong (fun i hi => by rw [h i hi])
theorem vld_c {n : Nat} {f a b : Nat → Nat} (h : ∀ m, m < n → a m = b m) : vld n f a = vld n f b := by
  have : ∀ k, vb n f a k = vb n f b k := by
    intro k
    induction k with
    | zero => rfl
    | succ k ih => rw [vb, vb, ih, ctn_c h]
  exact this 4
theorem Hh_c {n : Nat} {f a b : Nat → Nat} (h : ∀ m, m < n → a m = b m) : Hh n f a = Hh n f b := by
  unfold Hh
  rw [pt_c h]
/-- other quarrelsome ones with him -/
def otA (n : Nat) (f a : Nat → Nat) (m : Nat) : Nat := sm (fun j => tb_b (decide (j ≠ m) && (decide (a j = a m) && decide (f (5 * j) = 1)))) n
theorem oth_pt {n : Nat} (hn : n ≤ 8) (f a : Nat → Nat) {m : Nat} (hm : m < n) : oth n (pt n f a) m = otA n f a m := by
  unfold oth otA
  refine sm_cong (fun j hj => ?_)
  rw [pt_t hj, pt_t hm, pt_o (by omega)]
theorem oda_pt {n : Nat} (f a : Nat → Nat) (m k : Nat) (b : Bool) : oda (pt n f a) m k b = oda f m k b := by
  unfold oda
  rw [pt_o (by omega), pt_o (by omega)]
def hsm (n : Nat) (f : Nat → Nat) (k : Nat → Nat) : Nat := sm (fun m => oda f m (k m) ((f 40).testBit m)) n * f 41 + 10 * f 42 * pc8 (f 40)
theorem H_sum {n : Nat} {f a : Nat → Nat} (g : GD n f) (p : prp n f a) : Hh n f a = hsm n f (otA n f a) := by
  have hn := g.1
  have gp := gd_pt g p
  unfold Hh hsm
  rw [ha_men gp]
  have e40 : pt n f a 40 = f 40 := pt_o (by omega)
  have e41 : pt n f a 41 = f 41 := pt_o (by omega)
  have e42 : pt n f a 42 = f 42 := pt_o (by omega)
  have hpc : pc8 (f 40) = sm (fun m => tb_b ((f 40).testBit m)) n := pc8_of hn (fun i _ => by
    by_cases c : i < n
    · simp [c]
    · rw [Nat.testBit_lt_two_pow (Nat.lt_of_lt_of_le g.2.2.1 (Nat.pow_le_pow_right (by decide) (Nat.le_of_not_lt c)))]
      simp [c])
  rw [hpc, ← sm_mul, sm_mulc, ← sm_add]
  refine sm_cong (fun m hm => ?_)
  obtain ⟨a1, a2, a3, a4, a5, a6⟩ := g.2.1 m hm
  obtain ⟨p1, p2⟩ := p m hm
  unfold hx1
  rw [e40, e41, e42, pt_t hm]
  by_cases c : f (5 * m) = 3
  · have h4 := p1 c
    have hb : (f 40).testBit m = false := by
      cases hb : (f 40).testBit m
      · rfl
      · have := a6 hb
        have := a5.mp c
        omega
    have ho : oda f m (otA n f a m) false = f (5 * m + 1) := by
      unfold oda hv
      rw [if_neg (by omega), if_neg (by decide), if_neg (by omega)]
      omega
    rw [if_neg (by omega), hb, ho, pt_o (by omega)]
    show _ = _ + 10 * f 42 * 0
    omega
  · have h4 := p2 c
    rw [if_pos h4]
    unfold odw
    rw [oth_pt hn f a hm, oda_pt, Nat.mul_comm (10 * f 42) (tb_b _), Nat.mul_assoc (tb_b _) 10]
theorem oda_mono (f : Nat → Nat) (m : Nat) {k k' : Nat} (h : f (5 * m) = 1 → k ≤ k') (b : Bool) : oda f m k b ≤ oda f m k' b := by
  unfold oda
  split
  · exact Nat.le_refl _
  · have hx : f (5 * m + 1) + (if f (5 * m) = 1 then k else 0) ≤ f (5 * m + 1) + (if f (5 * m) = 1 then k' else 0) := by
      split
      · have := h (by assumption); omega
      · omega
    generalize f (5 * m + 1) + (if f (5 * m) = 1 then k else 0) = u at *
    generalize f (5 * m + 1) + (if f (5 * m) = 1 then k' else 0) = w at *
    cases b
    · show min 9 u ≤ min 9 w
      omega
    · show min 9 (u / 2) ≤ min 9 (w / 2)
      omega
theorem sm_le2 {g g' : Nat → Nat} : ∀ {n : Nat}, (∀ i, i < n → g i ≤ g' i) → sm g n ≤ sm g' n
  | 0, _ => Nat.le_refl _
  | n + 1, h => by
    have := sm_le2 (n := n) (fun i hi => h i (by omega))
    have := h n (by omega)
    rw [sm, sm]
    omega
theorem hsm_mono {n : Nat} {f : Nat → Nat} {k k' : Nat → Nat} (h : ∀ m, m < n → f (5 * m) = 1 → k m ≤ k' m) : hsm n f k ≤ hsm n f k' := by
  unfold hsm
  have := Nat.mul_le_mul_right (f 41) (sm_le2 (n := n) (fun m hm => oda_mono f m (h m hm) ((f 40).testBit m)))
  omega
/-- quarrelsome ones in t among the first m -/
def rgh (f a : Nat → Nat) (m t : Nat) : Nat := sm (fun j => tb_b (decide (a j = t) && decide (f (5 * j) = 1))) m
/-- the fewest that one who comes finds -/
def few (f a : Nat → Nat) (m : Nat) : Nat → Nat
  | 0 => 8
  | t + 1 => if ctn m a t < f (60 + t) then min (few f a m t) (rgh f a m t) else few f a m t
theorem few_le {f a : Nat → Nat} {m t : Nat} (hc : ctn m a t < f (60 + t)) : ∀ k, t < k → few f a m k ≤ rgh f a m t
  | 0, h => absurd h (Nat.not_lt_zero t)
  | k + 1, h => by
    rw [few]
    by_cases c : t = k
    · rw [← c, if_pos hc]; exact Nat.min_le_right _ _
    · have := few_le hc k (by omega)
      split
      · exact Nat.le_trans (Nat.min_le_left _ _) this
      · exact this
theorem few_8 (f a : Nat → Nat) (m : Nat) : ∀ k, few f a m k ≤ 8
  | 0 => Nat.le_refl _
  | k + 1 => by
    have := few_8 f a m k
    rw [few]
    split
    · omega
    · exact this
def lbk (f a : Nat → Nat) (m j : Nat) : Nat := if j < m then (if a j < 4 then rgh f a m (a j) - 1 else 0) else few f a m 4
def LB (n : Nat) (f a : Nat → Nat) (m : Nat) : Nat := hsm n f (lbk f a m)
/-- b goes on from the first m of a -/
def Cp (n : Nat) (f a : Nat → Nat) (m : Nat) (b : Nat → Nat) : Prop := (∀ j, j < m → b j = a j) ∧ prp n f b
theorem rgh_c {f a b : Nat → Nat} {m : Nat} (h : ∀ j, j < m → b j = a j) (t : Nat) : rgh f b m t = rgh f a m t := sm_cong (fun i hi => by rw [h i hi])
theorem otA_rgh {n : Nat} {f b : Nat → Nat} {j : Nat} (hj : j < n) (hq : f (5 * j) = 1) : rgh f b n (b j) = otA n f b j + 1 := by
  unfold rgh otA
  have h := sm_one (g := fun i => tb_b (decide (b i = b j) && decide (f (5 * i) = 1))) (g' := fun i => tb_b (decide (i ≠ j) && (decide (b i = b j) && decide (f (5 * i) = 1)))) hj (fun i _ hi => by simp [hi])
  have e1 : tb_b (decide (j ≠ j) && (decide (b j = b j) && decide (f (5 * j) = 1))) = 0 := by simp [tb_b]
  have e2 : tb_b (decide (b j = b j) && decide (f (5 * j) = 1)) = 1 := by simp [tb_b, hq]
  rw [e1, e2, Nat.add_zero] at h
  exact h
theorem rgh_mono {f b : Nat → Nat} {m n : Nat} (h : m ≤ n) (t : Nat) : rgh f b m t ≤ rgh f b n t := sm_mono _ h
theorem ctn_mono {b : Nat → Nat} {m n : Nat} (h : m ≤ n) (t : Nat) : ctn m b t ≤ ctn n b t := sm_mono _ h
/-- no completion has less harm -/
theorem LB_le {n : Nat} {f a b : Nat → Nat} {m : Nat} (g : GD n f) (hm : m ≤ n) (hc : Cp n f a m b) (hv : vld n f b = true) : LB n f a m ≤ Hh n f b := by
  rw [H_sum g hc.2]
  refine hsm_mono (fun j hj hq => ?_)
  have h4 : b j < 4 := (hc.2 j hj).2 (by omega)
  have ho := otA_rgh (b := b) hj hq
  unfold lbk
  by_cases c : j < m
  · rw [if_pos c, ← hc.1 j c, if_pos h4, ← rgh_c hc.1]
    have := rgh_mono (f := f) (b := b) hm (b j)
    omega
  · rw [if_neg c]
    have hvt := (vb_iff n f b 4).mp hv (b j) h4
    have h1 : ctn (j + 1) b (b j) ≤ ctn n b (b j) := ctn_mono (by omega) _
    have h2 : ctn (j + 1) b (b j) = ctn j b (b j) + 1 := by
      unfold ctn
      rw [sm_s]
      simp [tb_b]
    have h3 : ctn m b (b j) ≤ ctn j b (b j) := ctn_mono (by omega) _
    have h5 : ctn m a (b j) = ctn m b (b j) := ctn_c (fun i hi => (hc.1 i hi).symm) _
    have hf := few_le (f := f) (a := a) (m := m) (t := b j) (by omega) 4 h4
    rw [← rgh_c hc.1] at hf
    have h6 : rgh f b (j + 1) (b j) = rgh f b j (b j) + 1 := by
      unfold rgh
      rw [sm_s]
      simp [tb_b, hq]
    have h7 := rgh_mono (f := f) (b := b) (m := m) (n := j) (by omega) (b j)
    have h8 := rgh_mono (f := f) (b := b) (m := j + 1) (n := n) (by omega) (b j)
    omega
/-- all seated: it is the harm -/
theorem LB_n {n : Nat} {f a : Nat → Nat} (g : GD n f) (p : prp n f a) : LB n f a n = Hh n f a := by
  rw [H_sum g p]
  have key : ∀ j, j < n → f (5 * j) = 1 → lbk f a n j = otA n f a j := fun j hj hq => by
    have h4 : a j < 4 := (p j hj).2 (by omega)
    have ho := otA_rgh (b := a) hj hq
    unfold lbk
    rw [if_pos hj, if_pos h4]
    omega
  exact Nat.le_antisymm (hsm_mono (fun j hj hq => by rw [key j hj hq]; exact Nat.le_refl _)) (hsm_mono (fun j hj hq => by rw [key j hj hq]; exact Nat.le_refl _))
/-! all puttings in their order -/
def lf (n : Nat) (f a : Nat → Nat) (s : Nat × (Nat → Nat)) : Nat × (Nat → Nat) := if vld n f a = true ∧ Hh n f a < s.1 then (Hh n f a, a) else s
def scn (n : Nat) (f : Nat → Nat) : Nat → Nat → (Nat → Nat) → Nat × (Nat → Nat) → Nat × (Nat → Nat)
  | 0, _, a, s => lf n f a s
  | k + 1, m, a, s => if f (5 * m) = 3 then scn n f k (m + 1) (up a m 4) s else scn n f k (m + 1) (up a m 3) (scn n f k (m + 1) (up a m 2) (scn n f k (m + 1) (up a m 1) (scn n f k (m + 1) (up a m 0) s)))
theorem Cp_up {n : Nat} {f a b : Nat → Nat} {m t : Nat} (h : Cp n f (up a m t) (m + 1) b) : Cp n f a m b := ⟨fun j hj => by rw [h.1 j (by omega), up_ne (by omega)], h.2⟩
theorem scn_id {n : Nat} {f : Nat → Nat} (L : Nat) (s : Nat → Nat) : ∀ k m a, m + k = n → (∀ j, j < m → (f (5 * j) = 3 → a j = 4) ∧ (f (5 * j) ≠ 3 → a j < 4)) → (∀ b, Cp n f a m b → vld n f b = true → L ≤ Hh n f b) → scn n f k m a (L, s) = (L, s)
  | 0, m, a, hk, hp, h => by
    rw [scn, lf, if_neg]
    rintro ⟨x, y⟩
    have := h a ⟨fun _ _ => rfl, fun j hj => hp j (by omega)⟩ x
    dsimp only at y
    omega
  | k + 1, m, a, hk, hp, h => by
    have ex : ∀ t, ((f (5 * m) = 3 → t = 4) ∧ (f (5 * m) ≠ 3 → t < 4)) → ∀ j, j < m + 1 → (f (5 * j) = 3 → up a m t j = 4) ∧ (f (5 * j) ≠ 3 → up a m t j < 4) := by
      intro t ht j hj
      by_cases c : j = m
      · rw [c, up_eq]; exact ht
      · rw [up_ne c]; exact hp j (by omega)
    have st : ∀ t, ((f (5 * m) = 3 → t = 4) ∧ (f (5 * m) ≠ 3 → t < 4)) → scn n f k (m + 1) (up a m t) (L, s) = (L, s) := fun t ht => scn_id L s k (m + 1) (up a m t) (by omega) (ex t ht) (fun b hb hv => h b (Cp_up hb) hv)
    rw [scn]
    by_cases c : f (5 * m) = 3
    · rw [if_pos c]
      exact st 4 ⟨fun _ => rfl, fun x => absurd c x⟩
    · rw [if_neg c, st 0 ⟨fun x => absurd x c, fun _ => by decide⟩, st 1 ⟨fun x => absurd x c, fun _ => by decide⟩, st 2 ⟨fun x => absurd x c, fun _ => by decide⟩, st 3 ⟨fun x => absurd x c, fun _ => by decide⟩]
theorem scn_dec (n : Nat) (f : Nat → Nat) : ∀ k m a s, (scn n f k m a s).1 ≤ s.1
  | 0, m, a, s => by
    rw [scn, lf]
    split
    · rename_i c
      exact Nat.le_of_lt c.2
    · exact Nat.le_refl _
  | k + 1, m, a, s => by
    rw [scn]
    split
    · exact scn_dec n f k _ _ _
    · exact Nat.le_trans (scn_dec n f k _ _ _) (Nat.le_trans (scn_dec n f k _ _ _) (Nat.le_trans (scn_dec n f k _ _ _) (scn_dec n f k _ _ _)))
theorem scn_le {n : Nat} {f : Nat → Nat} : ∀ k m a s, m + k = n → ∀ b, Cp n f a m b → vld n f b = true → (scn n f k m a s).1 ≤ Hh n f b
  | 0, m, a, s, hk, b, hb, hv => by
    have e : ∀ j, j < n → a j = b j := fun j hj => (hb.1 j (by omega)).symm
    rw [scn, lf]
    rw [← vld_c e] at hv
    rw [← Hh_c e]
    split
    · exact Nat.le_refl _
    · rename_i c
      apply Classical.byContradiction
      intro c2
      exact c ⟨hv, by omega⟩
  | k + 1, m, a, s, hk, b, hb, hv => by
    have st : ∀ t s, b m = t → (scn n f k (m + 1) (up a m t) s).1 ≤ Hh n f b := fun t s ht => scn_le k (m + 1) (up a m t) s (by omega) b ⟨fun j hj => by
      by_cases c : j = m
      · rw [c, up_eq, ht]
      · rw [up_ne c, hb.1 j (by omega)], hb.2⟩ hv
    obtain ⟨q1, q2⟩ := hb.2 m (by omega)
    rw [scn]
    by_cases c : f (5 * m) = 3
    · rw [if_pos c]
      exact st 4 s (q1 c)
    · rw [if_neg c]
      have := q2 c
      rcases (by omega : b m = 0 ∨ b m = 1 ∨ b m = 2 ∨ b m = 3) with e | e | e | e
      · exact Nat.le_trans (scn_dec _ _ _ _ _ _) (Nat.le_trans (scn_dec _ _ _ _ _ _) (Nat.le_trans (scn_dec _ _ _ _ _ _) (st 0 _ e)))
      · exact Nat.le_trans (scn_dec _ _ _ _ _ _) (Nat.le_trans (scn_dec _ _ _ _ _ _) (st 1 _ e))
      · exact Nat.le_trans (scn_dec _ _ _ _ _ _) (st 2 _ e)
      · exact st 3 _ e
