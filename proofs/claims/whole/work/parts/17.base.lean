/-! Pure: loops, arrays of ints, numbers, sets as bits. -/
theorem ev_loop (n : Nat) (P : Nat → Prop) (hs : ∀ i, i < n → P (i + 1) → P i) (he : P n) : P 0 := by
  have key : ∀ k, k ≤ n → P (n - k) := by
    intro k
    induction k with
    | zero => intro _; exact he
    | succ k ih =>
      intro hk
      have h1 := ih (by omega)
      refine hs (n - (k + 1)) (by omega) ?_
      rw [show n - (k + 1) + 1 = n - k by omega]
      exact h1
  have := key n (Nat.le_refl n)
  rw [Nat.sub_self] at this
  exact this
/-- from i on -/
theorem ev_loopF (i0 n : Nat) (h0 : i0 ≤ n) (P : Nat → Prop) (hs : ∀ i, i0 ≤ i → i < n → P (i + 1) → P i) (he : P n) : P i0 := by
  have := ev_loop (n - i0) (fun i => P (i0 + i)) (fun i hi K => hs (i0 + i) (by omega) (by omega) K) (by rw [show i0 + (n - i0) = n by omega]; exact he)
  exact this
/-- downwards -/
theorem ev_down (n : Nat) (P : Nat → Prop) (hs : ∀ i, i < n → P i → P (i + 1)) (he : P 0) : P n := by
  induction n with
  | zero => exact he
  | succ n ih => exact hs n (Nat.lt_succ_self n) (ih (fun i hi => hs i (by omega)))
/-- an array of ints of length L; what is said of its places with P -/
def IA (h : ev_H) (k L : Nat) (P : Nat → Prop) (g : Nat → Int32) : Prop := ∃ xs : List Int32, h[k]? = some (.inl (0, xs)) ∧ xs.length = L ∧ ∀ i, i < L → P i → xs.getD i 0 = g i
/-- nothing but the cell k is another -/
def SB (k : Nat) (h h' : ev_H) : Prop := h'.length = h.length ∧ ∀ j, j ≠ k → h'[j]? = h[j]?
/-- nothing but the cells from a to b is another -/
def FR (a b : Nat) (h h' : ev_H) : Prop := h'.length = h.length ∧ ∀ j, (j < a ∨ b < j) → h'[j]? = h[j]?
theorem FR.rf {a b : Nat} {h : ev_H} : FR a b h h := ⟨rfl, fun _ _ => rfl⟩
theorem FR.tr {a b : Nat} {h h1 h2 : ev_H} (x : FR a b h h1) (y : FR a b h1 h2) : FR a b h h2 := ⟨y.1.trans x.1, fun j hj => (y.2 j hj).trans (x.2 j hj)⟩
theorem SB.fr {k a b : Nat} {h h' : ev_H} (x : SB k h h') (ha : a ≤ k) (hb : k ≤ b) : FR a b h h' := ⟨x.1, fun j hj => x.2 j (by omega)⟩
theorem FR.wide {a b a' b' : Nat} {h h' : ev_H} (x : FR a b h h') (ha : a' ≤ a) (hb : b ≤ b') : FR a' b' h h' := ⟨x.1, fun j hj => x.2 j (by omega)⟩
theorem SB.set {k : Nat} {h : ev_H} {c : ev_C} : SB k h (h.set k c) := ⟨by simp, fun j hj => by rw [List.getElem?_set_ne (Ne.symm hj)]⟩
theorem IA.congr {h : ev_H} {k L : Nat} {P Q : Nat → Prop} {g g' : Nat → Int32} (x : IA h k L P g) (hg : ∀ i, i < L → Q i → P i ∧ g i = g' i) : IA h k L Q g' := by
  obtain ⟨xs, h1, h2, h3⟩ := x
  exact ⟨xs, h1, h2, fun i hi hq => (h3 i hi (hg i hi hq).1).trans (hg i hi hq).2⟩
theorem IA.kept {h h' : ev_H} {k L : Nat} {P : Nat → Prop} {g : Nat → Int32} (x : IA h k L P g) (hk : h'[k]? = h[k]?) : IA h' k L P g := by
  obtain ⟨xs, h1, h2, h3⟩ := x
  exact ⟨xs, hk.trans h1, h2, h3⟩
theorem IA.sb {h h' : ev_H} {k j L : Nat} {P : Nat → Prop} {g : Nat → Int32} (x : IA h k L P g) (y : SB j h h') (hk : k ≠ j) : IA h' k L P g := x.kept (y.2 k hk)
theorem IA.fr {h h' : ev_H} {k a b L : Nat} {P : Nat → Prop} {g : Nat → Int32} (x : IA h k L P g) (y : FR a b h h') (hk : k < a ∨ b < k) : IA h' k L P g := x.kept (y.2 k hk)
section PR
variable {scr : List Int32} {d : Nat} {cd : List ev_I} {pc : Nat} {ls st : List Value} {h : ev_H} {r : Option Value × ev_H}
theorem ev_ia (n : Nat) {a L : Nat} {P : Nat → Prop} {g : Nat → Int32} {j x : Int32} (hf : ev_ft cd pc = some (.inl .iaload)) (hA : IA h a L P g) (hj : j = nI n) (hP : P n) (hn : n < L) (hb : n < 1000) (hx : g n = x) (K : ev_V scr d cd (pc + 1) ls (.int x :: st) h r) : ev_V scr d cd pc ls (.int j :: .ref a :: st) h r := by
  obtain ⟨xs, h1, h2, h3⟩ := hA
  exact ev_iald n hf h1 hj (by omega) hb ((h3 n hn hP).trans hx) K
/-- whatever it holds -/
theorem ev_iaw (n : Nat) {a L : Nat} {P : Nat → Prop} {g : Nat → Int32} {j : Int32} (hf : ev_ft cd pc = some (.inl .iaload)) (hA : IA h a L P g) (hj : j = nI n) (hn : n < L) (hb : n < 1000) (K : ∀ x : Int32, (P n → x = g n) → ev_V scr d cd (pc + 1) ls (.int x :: st) h r) : ev_V scr d cd pc ls (.int j :: .ref a :: st) h r := by
  obtain ⟨xs, h1, h2, h3⟩ := hA
  exact ev_iald n hf h1 hj (by omega) hb rfl (K _ (fun q => h3 n hn q))
theorem ev_is (n : Nat) {a L : Nat} {P : Nat → Prop} {g : Nat → Int32} {j x : Int32} (hf : ev_ft cd pc = some (.inl .iastore)) (hA : IA h a L P g) (hj : j = nI n) (hn : n < L) (hb : n < 1000) (K : ∀ h', IA h' a L (fun i => P i ∨ i = n) (fun i => if i = n then x else g i) → SB a h h' → ev_V scr d cd (pc + 1) ls st h' r) : ev_V scr d cd pc ls (.int x :: .int j :: .ref a :: st) h r := by
  obtain ⟨xs, h1, h2, h3⟩ := hA
  refine ev_iast n hf h1 hj (by omega) hb (K _ ⟨xs.set n x, ?_, by simpa using h2, fun i hi hp => ?_⟩ SB.set)
  · rw [List.getElem?_set_self (by exact (List.getElem?_eq_some_iff.mp h1).1)]
  · by_cases e : i = n
    · subst e
      simp [h2, hi]
    · dsimp only
      rw [if_neg e]
      rcases hp with hp | hp
      · rw [← h3 i hi hp]
        simp [List.getD_eq_getElem?_getD, List.getElem?_set, Ne.symm e]
      · exact absurd hp e
/-- a field is put -/
theorem ev_pf {i a c : Nat} {vs : List Value} {x : Int32} (hf : ev_ft cd pc = some (.inl (.putfield i))) (hh : h[a]? = some (.inr (c, vs))) (hc : Nat.beq c (i / 32) = true) (hl : Nat.blt (i % 32) vs.length = true) (K : ∀ h', h'[a]? = some (.inr (c, vs.set (i % 32) (.int x))) → SB a h h' → ev_V scr d cd (pc + 1) ls st h' r) : ev_V scr d cd pc ls (.int x :: .ref a :: st) h r :=
  ev_putf hf hh hc hl (K _ (by rw [List.getElem?_set_self (List.getElem?_eq_some_iff.mp hh).1]) SB.set)
theorem ev_pz {i a c n : Nat} {vs : List Value} {x : Int32} (hf : ev_ft cd pc = some (.inl (.multianewarray i n))) (hh : h[a]? = some (.inr (c, vs))) (hc : Nat.beq c (i / 32) = true) (hl : Nat.blt (i % 32) vs.length = true) (hz : ev_bz x = true) (K : ∀ h', h'[a]? = some (.inr (c, vs.set (i % 32) (.int x))) → SB a h h' → ev_V scr d cd (pc + 1) ls st h' r) : ev_V scr d cd pc ls (.int x :: .ref a :: st) h r :=
  ev_putz hf hh hc hl hz (K _ (by rw [List.getElem?_set_self (List.getElem?_eq_some_iff.mp hh).1]) SB.set)
theorem ev_pr2 {i a c b : Nat} {vs : List Value} (hf : ev_ft cd pc = some (.inl (.putstatic i))) (hh : h[a]? = some (.inr (c, vs))) (hc : Nat.beq c (i / 32) = true) (hl : Nat.blt (i % 32) vs.length = true) (K : ∀ h', h'[a]? = some (.inr (c, vs.set (i % 32) (.ref b))) → SB a h h' → ev_V scr d cd (pc + 1) ls st h' r) : ev_V scr d cd pc ls (.ref b :: .ref a :: st) h r :=
  ev_putr hf hh hc hl (K _ (by rw [List.getElem?_set_self (List.getElem?_eq_some_iff.mp hh).1]) SB.set)
end PR
-- numbers
theorem nI_inc (i : Nat) : ev_inc 1 (nI i) = nI (i + 1) := nI_1 i
theorem tb_or (a b : Nat) : nI a ||| nI b = nI (a ||| b) := by
  apply Int32.toBitVec_inj.mp
  show BitVec.ofNat 32 a ||| BitVec.ofNat 32 b = BitVec.ofNat 32 (a ||| b)
  apply BitVec.eq_of_getLsbD_eq
  intro i hi
  simp [BitVec.getLsbD_ofNat, hi, Nat.testBit_or]
theorem tb_and (a b : Nat) : nI a &&& nI b = nI (a &&& b) := by
  apply Int32.toBitVec_inj.mp
  show BitVec.ofNat 32 a &&& BitVec.ofNat 32 b = BitVec.ofNat 32 (a &&& b)
  apply BitVec.eq_of_getLsbD_eq
  intro i hi
  simp [BitVec.getLsbD_ofNat, hi, Nat.testBit_and]
theorem tb_xor (a b : Nat) : nI a ^^^ nI b = nI (a ^^^ b) := by
  apply Int32.toBitVec_inj.mp
  show BitVec.ofNat 32 a ^^^ BitVec.ofNat 32 b = BitVec.ofNat 32 (a ^^^ b)
  apply BitVec.eq_of_getLsbD_eq
  intro i hi
  simp [BitVec.getLsbD_ofNat, hi, Nat.testBit_xor]
/-- a without b -/
def tb_wo (a b : Nat) : Nat := a ^^^ (a &&& b)
theorem tb_andn (a b : Nat) : nI a &&& (nI b ^^^ (-1)) = nI (tb_wo a b) := by
  have h : nI a &&& (nI b ^^^ (-1)) = nI a ^^^ (nI a &&& nI b) := by
    apply Int32.toBitVec_inj.mp
    show (nI a).toBitVec &&& ((nI b).toBitVec ^^^ (-1 : Int32).toBitVec) = (nI a).toBitVec ^^^ ((nI a).toBitVec &&& (nI b).toBitVec)
    apply BitVec.eq_of_getLsbD_eq
    intro i hi
    have e1 : ((-1 : Int32).toBitVec).getLsbD i = true := by
      have : (-1 : Int32).toBitVec = BitVec.allOnes 32 := by decide
      rw [this, BitVec.getLsbD_allOnes]
      simpa using hi
    simp only [BitVec.getLsbD_and, BitVec.getLsbD_xor, e1]
    cases (nI a).toBitVec.getLsbD i <;> cases (nI b).toBitVec.getLsbD i <;> rfl
  rw [h, tb_and, tb_xor]
  rfl
theorem tb_wo_bit (a b i : Nat) : (tb_wo a b).testBit i = (a.testBit i && !b.testBit i) := by
  unfold tb_wo
  rw [Nat.testBit_xor, Nat.testBit_and]
  cases a.testBit i <;> cases b.testBit i <;> rfl
theorem tb_sh1 : ∀ i, i < 31 → (1 : Int32) <<< (nI i &&& 31) = nI (2 ^ i) := by decide
theorem tb_shl {a : Nat} (i : Nat) (hi : i < 31) : nI a <<< (nI i &&& 31) = nI (a * 2 ^ i) := by
  apply Int32.toBitVec_inj.mp
  have h1 : ∀ i, i < 31 → ((nI i &&& 31).toBitVec.smod 32).toNat = i := by decide
  have h2 := pk_shl (nI a) (nI i &&& 31) i (h1 i hi)
  apply BitVec.eq_of_toNat_eq
  rw [h2]
  show (BitVec.ofNat 32 a).toNat * 2 ^ i % 2 ^ 32 = (BitVec.ofNat 32 (a * 2 ^ i)).toNat
  rw [BitVec.toNat_ofNat, BitVec.toNat_ofNat, Nat.mod_mul_mod]
/-- a bit of a set -/
def tb_b (b : Bool) : Nat := if b = true then 1 else 0
theorem tb_shr {a : Nat} (ha : a < 2 ^ 31) (i : Nat) (hi : i < 31) : nI a >>> (nI i &&& 31) = nI (a / 2 ^ i) := by
  have h1 : ∀ i, i < 31 → ((nI i &&& 31).toBitVec.smod 32).toNat = i := by decide
  exact pk_shrN ha (nI i &&& 31) i (h1 i hi)
theorem tb_bit {a : Nat} (ha : a < 2 ^ 31) (i : Nat) (hi : i < 31) : (nI a >>> (nI i &&& 31)) &&& 1 = nI (tb_b (a.testBit i)) := by
  rw [tb_shr ha i hi]
  rw [show (1 : Int32) = nI 1 from rfl, tb_and]
  congr 1
  rw [show (1 : Nat) = 2 ^ 1 - 1 from rfl, Nat.and_two_pow_sub_one_eq_mod]
  unfold tb_b
  rw [Nat.testBit_eq_decide_div_mod_eq]
  have : a / 2 ^ i % 2 = 0 ∨ a / 2 ^ i % 2 = 1 := by omega
  rcases this with q | q <;> simp [q]
theorem tb_b0 (b : Bool) : nI (tb_b b) = 0 ↔ b = false := by cases b <;> decide
theorem tb_b1 (b : Bool) : nI (tb_b b) = 1 ↔ b = true := by cases b <;> decide
/-- the set of those below n with p -/
def bs (p : Nat → Bool) : Nat → Nat
  | 0 => 0
  | i + 1 => bs p i + (if p i = true then 2 ^ i else 0)
theorem bs_lt (p : Nat → Bool) : ∀ n, bs p n < 2 ^ n
  | 0 => by simp [bs]
  | n + 1 => by
    have := bs_lt p n
    rw [bs, Nat.pow_succ]
    split <;> omega
theorem bs_bit (p : Nat → Bool) : ∀ n i, (bs p n).testBit i = (decide (i < n) && p i)
  | 0, i => by simp [bs]
  | n + 1, i => by
    have ih := bs_bit p n i
    have hlt := bs_lt p n
    rw [bs]
    by_cases hp : p n = true
    · rw [if_pos hp]
      have e : bs p n + 2 ^ n = bs p n ||| 2 ^ n := by
        rw [Nat.add_comm, Nat.or_comm]
        have := Nat.two_pow_add_eq_or_of_lt hlt 1
        simpa using this
      rw [e, Nat.testBit_or, ih, Nat.testBit_two_pow]
      by_cases hi : i = n
      · subst hi
        simp [hp]
      · have h1 : (decide (n = i)) = false := by simpa using Ne.symm hi
        rw [h1, Bool.or_false]
        by_cases h2 : i < n
        · simp [h2, Nat.lt_succ_of_lt h2]
        · have h3 : ¬ i < n + 1 := by omega
          simp [h2, h3]
    · have hp' : p n = false := by simpa using hp
      rw [if_neg hp, Nat.add_zero, ih]
      by_cases hi : i = n
      · subst hi
        simp [hp']
      · by_cases h2 : i < n
        · simp [h2, Nat.lt_succ_of_lt h2]
        · have h3 : ¬ i < n + 1 := by omega
          simp [h2, h3]
theorem bs_cong {p q : Nat → Bool} : ∀ {n : Nat}, (∀ i, i < n → p i = q i) → bs p n = bs q n
  | 0, _ => rfl
  | n + 1, h => by rw [bs, bs, bs_cong (fun i hi => h i (Nat.lt_succ_of_lt hi)), h n (Nat.lt_succ_self n)]
theorem bs_step (p : Nat → Bool) {i : Nat} (hi : i < 31) (hp : p i = true) : nI (bs p i) ||| ((1 : Int32) <<< (nI i &&& 31)) = nI (bs p (i + 1)) := by
  rw [tb_sh1 i hi, tb_or]
  congr 1
  rw [bs, if_pos hp, Nat.add_comm, Nat.or_comm]
  have := Nat.two_pow_add_eq_or_of_lt (bs_lt p i) 1
  rw [Nat.mul_one] at this
  exact this.symm
theorem bs_stay (p : Nat → Bool) {i : Nat} (hp : p i = false) : bs p (i + 1) = bs p i := by
  rw [bs, if_neg (by rw [hp]; decide), Nat.add_zero]
/-- sums -/
def sm (g : Nat → Nat) : Nat → Nat
  | 0 => 0
  | i + 1 => sm g i + g i
theorem sm_cong {g g' : Nat → Nat} : ∀ {n : Nat}, (∀ i, i < n → g i = g' i) → sm g n = sm g' n
  | 0, _ => rfl
  | n + 1, h => by rw [sm, sm, sm_cong (fun i hi => h i (Nat.lt_succ_of_lt hi)), h n (Nat.lt_succ_self n)]
theorem sm_le {g : Nat → Nat} {c : Nat} : ∀ {n : Nat}, (∀ i, i < n → g i ≤ c) → sm g n ≤ n * c
  | 0, _ => by simp [sm]
  | n + 1, h => by
    have := sm_le (g := g) (c := c) (n := n) (fun i hi => h i (Nat.lt_succ_of_lt hi))
    have := h n (Nat.lt_succ_self n)
    rw [sm, Nat.succ_mul]
    omega
theorem sm_mono (g : Nat → Nat) : ∀ {m n : Nat}, m ≤ n → sm g m ≤ sm g n
  | m, 0, h => by rw [Nat.le_zero.mp h]; exact Nat.le_refl _
  | m, n + 1, h => by
    by_cases e : m = n + 1
    · rw [e]; exact Nat.le_refl _
    · have := sm_mono g (show m ≤ n by omega)
      rw [sm]
      omega
theorem sm_add (g g' : Nat → Nat) : ∀ n, sm (fun i => g i + g' i) n = sm g n + sm g' n
  | 0 => rfl
  | n + 1 => by rw [sm, sm, sm, sm_add g g' n]; omega
theorem sm_mul (g : Nat → Nat) (c : Nat) : ∀ n, sm (fun i => g i * c) n = sm g n * c
  | 0 => by simp [sm]
  | n + 1 => by rw [sm, sm, sm_mul g c n, Nat.add_mul]
/-- how many of the first eight bits -/
def pc8 (x : Nat) : Nat := sm (fun i => tb_b (x.testBit i)) 8
