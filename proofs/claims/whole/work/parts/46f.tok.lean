/-! text: tokens, and how the class finds them. -/
section TOK
variable (tp : Nat → Nat) (tl : Nat)
/-- how far p goes on while Q is so -/
def rnf (Q : Nat → Bool) : Nat → Nat → Nat
  | 0, p => p
  | k + 1, p => if p < tl ∧ Q (tp p) = true then rnf Q k (p + 1) else p
def run (Q : Nat → Bool) (p : Nat) : Nat := rnf tp tl Q (tl - p) p
def qS (c : Nat) : Bool := decide (c = 32)
def qB (lo hi c : Nat) : Bool := decide (lo ≤ c ∧ c ≤ hi)
end TOK
theorem run_t {tp : Nat → Nat} {tl : Nat} {Q : Nat → Bool} {p : Nat} (h : p < tl) (hq : Q (tp p) = true) : run tp tl Q p = run tp tl Q (p + 1) := by
  unfold run
  rw [show tl - p = (tl - (p + 1)) + 1 by omega, rnf, if_pos ⟨h, hq⟩]
theorem run_f {tp : Nat → Nat} {tl : Nat} {Q : Nat → Bool} {p : Nat} (h : ¬ (p < tl ∧ Q (tp p) = true)) : run tp tl Q p = p := by
  unfold run
  cases hk : tl - p with
  | zero => rfl
  | succ k => rw [rnf, if_neg h]
theorem rnf_le {tp : Nat → Nat} {tl : Nat} {Q : Nat → Bool} : ∀ k p, p ≤ rnf tp tl Q k p ∧ rnf tp tl Q k p ≤ p + k
  | 0, p => ⟨Nat.le_refl _, Nat.le_refl _⟩
  | k + 1, p => by
    obtain ⟨a, b⟩ := rnf_le (tp := tp) (tl := tl) (Q := Q) k (p + 1)
    rw [rnf]
    split <;> omega
theorem run_le {tp : Nat → Nat} {tl : Nat} {Q : Nat → Bool} {p : Nat} (h : p ≤ tl) : p ≤ run tp tl Q p ∧ run tp tl Q p ≤ tl := by
  obtain ⟨a, b⟩ := rnf_le (tp := tp) (tl := tl) (Q := Q) (tl - p) p
  unfold run
  omega
theorem rnf_in {tp : Nat → Nat} {tl : Nat} {Q : Nat → Bool} : ∀ k p j, p ≤ j → j < rnf tp tl Q k p → Q (tp j) = true
  | 0, p, j, h1, h2 => by
    rw [rnf] at h2
    omega
  | k + 1, p, j, h1, h2 => by
    rw [rnf] at h2
    by_cases c : p < tl ∧ Q (tp p) = true
    · rw [if_pos c] at h2
      by_cases e : j = p
      · rw [e]; exact c.2
      · exact rnf_in k (p + 1) j (by omega) h2
    · rw [if_neg c] at h2
      omega
theorem run_in {tp : Nat → Nat} {tl : Nat} {Q : Nat → Bool} {p j : Nat} (h1 : p ≤ j) (h2 : j < run tp tl Q p) : Q (tp j) = true := rnf_in _ _ _ h1 h2
theorem rnf_end {tp : Nat → Nat} {tl : Nat} {Q : Nat → Bool} : ∀ k p, p + k = tl → ¬ (rnf tp tl Q k p < tl ∧ Q (tp (rnf tp tl Q k p)) = true)
  | 0, p, h => by
    rw [rnf]
    omega
  | k + 1, p, h => by
    rw [rnf]
    by_cases c : p < tl ∧ Q (tp p) = true
    · rw [if_pos c]; exact rnf_end k (p + 1) (by omega)
    · rw [if_neg c]; exact c
theorem run_end {tp : Nat → Nat} {tl : Nat} {Q : Nat → Bool} {p : Nat} (h : p ≤ tl) : ¬ (run tp tl Q p < tl ∧ Q (tp (run tp tl Q p)) = true) := rnf_end _ _ (by omega)
/-- a number, by its figures from b on, k of them -/
def vlu (tp : Nat → Nat) (b : Nat) : Nat → Nat
  | 0 => 0
  | k + 1 => 10 * vlu tp b k + (tp (b + k) - 48)
def tlo (y : Nat → Int32) : List Value := [.int (y 0), .int (y 1), .int (y 2), .ref 10, .ref 22, .int (y 3), .int (y 4), .int (y 5), .int (y 6), .int (y 7), .ref 24, .int (y 8), .int (y 9), .int (y 10), .int (y 11)]
abbrev TO (h : ev_H) (y : Nat → Int32) : Prop := h[23]? = some (.inr (3, tlo y))
section CTOK
variable {scr : List Int32} {d : Nat} {h : ev_H} {tp : Nat → Nat} {tl p : Nat} {y : Nat → Int32}
abbrev TP (h : ev_H) (tl : Nat) (tp : Nat → Nat) : Prop := BA h 22 1 160 (fun i => i < tl) (fun i => nI (tp i))
theorem c_pass (hO : TO h y) (hB : TP h tl tp) (ht : tl ≤ 160) (hb : ∀ i, i < tl → tp i < 128) (h3 : y 3 = nI tl) (h4 : y 4 = nI p) (hp : p ≤ tl) {lo hi : Nat} (hlo : lo < 1000) (hhi : hi < 1000) : ev_X scr d cd_X3_pass 0 [.ref 23, .int (nI lo), .int (nI hi)] [] h (fun v h' => v = none ∧ TO h' (ux y 4 (nI (run tp tl (qB lo hi) p))) ∧ SB 23 h h') := by
  have e0 : ux y 4 (nI p) = y := by
    funext j
    unfold ux
    split
    · rename_i e; rw [e, h4]
    · rfl
  have L : ∀ h1, TO h1 (ux y 4 (nI p)) → SB 23 h h1 → ev_X scr d cd_X3_pass 0 [.ref 23, .int (nI lo), .int (nI hi)] [] h1 (fun v h' => v = none ∧ TO h' (ux y 4 (nI (run tp tl (qB lo hi) p))) ∧ SB 23 h h') := by
    refine ev_loopF p (tl + 1) (by omega) (fun i => i ≤ tl → run tp tl (qB lo hi) i = run tp tl (qB lo hi) p → ∀ h1, TO h1 (ux y 4 (nI i)) → SB 23 h h1 → ev_X scr d cd_X3_pass 0 [.ref 23, .int (nI lo), .int (nI hi)] [] h1 (fun v h' => v = none ∧ TO h' (ux y 4 (nI (run tp tl (qB lo hi) p))) ∧ SB 23 h h')) (fun i hi1 hi2 K hit hr h1 hO1 hB1 => ?_) (fun hit => absurd hit (by omega)) hp rfl
    · have hBt := hB.kept (hB1.2 22 (by decide))
      have e4 : ux y 4 (nI i) 4 = nI i := ux_eq
      have e3 : ux y 4 (nI i) 3 = nI tl := by rw [ux_ne (by decide)]; exact h3
      refine ex_nop rfl ?_
      refine ex_go 80 rfl ?_
      refine ex_getf rfl hO1 rfl rfl ?_
      refine ex_go 80 rfl ?_
      refine ex_getf rfl hO1 rfl rfl ?_
      rw [e4, e3]
      by_cases c : i < tl
      · have hbi := hb i c
        refine ex_igeF rfl (nI_ge c (by omega)) ?_
        refine ex_go 80 rfl ?_
        refine ex_getf rfl hO1 rfl rfl ?_
        refine ex_go 80 rfl ?_
        refine ex_getf rfl hO1 rfl rfl ?_
        refine ex_ba _ rfl hBt (by decide) rfl (by first | exact trivial | assumption | (show _ < _; omega)) (by omega) (by omega) rfl ?_
        refine ex_go 80 rfl ?_
        by_cases c1 : tp i < lo
        · refine ex_iltT rfl (nI_lt c1 (by omega)) ?_
          rw [run_f (fun z => by have := z.2; unfold qB at this; rw [decide_eq_true_eq] at this; omega)] at hr
          rw [← hr]
          exact ex_vret rfl (⟨rfl, hO1, hB1⟩)
        · refine ex_iltF rfl (nI_nlt (by omega) (by omega)) ?_
          refine ex_go 80 rfl ?_
          refine ex_getf rfl hO1 rfl rfl ?_
          refine ex_go 80 rfl ?_
          refine ex_getf rfl hO1 rfl rfl ?_
          refine ex_ba _ rfl hBt (by decide) rfl (by first | exact trivial | assumption | (show _ < _; omega)) (by omega) (by omega) rfl ?_
          refine ex_go 80 rfl ?_
          by_cases c2 : hi < tp i
          · refine ex_igtT rfl (nI_lt c2 (by omega)) ?_
            rw [run_f (fun z => by have := z.2; unfold qB at this; rw [decide_eq_true_eq] at this; omega)] at hr
            rw [← hr]
            exact ex_vret rfl (⟨rfl, hO1, hB1⟩)
          · rw [run_t c (by unfold qB; rw [decide_eq_true_eq]; omega)] at hr
            refine ex_igtF rfl (nI_nlt (by omega) (by omega)) ?_
            refine ex_go 80 rfl ?_
            refine ex_getf rfl hO1 rfl rfl ?_
            refine ex_go 80 rfl ?_
            try dsimp only
            try simp only [nI_inc, nI_1, nI_add, nI_mul2, tb_and, tb_or, tb_andn]
            rw [e4, nI_1]
            refine ex_pf rfl hO1 rfl rfl (fun h2 hO2 hB2 => ?_)
            have hO3 : TO h2 (ux y 4 (nI (i + 1))) := by
              refine Eq.trans hO2 ?_
              rfl
            refine ex_go 80 rfl ?_
            exact K (by omega) hr h2 hO3 (hB1.tr hB2)
      · refine ex_igeT rfl (nI_le (by omega) (by omega)) ?_
        rw [run_f (fun z => c z.1)] at hr
        rw [← hr]
        exact ex_vret rfl (⟨rfl, hO1, hB1⟩)
  exact L h (by rw [e0]; exact hO) SB.rf
end CTOK
