/-! A local that nobody has set may as well hold something. -/
def ev_W1 (a b : Value) : Prop := a = b ∨ (a = .float 0 ∧ ev_half b = false ∧ ev_isL b = false)
def ev_W : List Value → List Value → Prop
  | [], [] => True
  | a :: l, b :: l' => ev_W1 a b ∧ ev_W l l'
  | _, _ => False
theorem ev_W.rf : ∀ l : List Value, ev_W l l
  | [] => trivial
  | a :: l => ⟨Or.inl rfl, ev_W.rf l⟩
theorem ev_W.lg : ∀ {l l' : List Value} {k : Nat} {v : Value}, ev_W l l' → ev_lg l k = some v → v ≠ .float 0 → ev_lg l' k = some v
  | [], [], _, _, _, h, _ => by cases h
  | a :: l, b :: l', 0, v, w, h, hv => by
    have e : a = v := by simpa [ev_lg] using h
    rcases w.1 with q | q
    · rw [ev_lg, ← q, e]
    · exact absurd (e.symm.trans q.1) hv
  | a :: l, b :: l', k + 1, v, w, h, hv => ev_W.lg (l := l) (l' := l') (k := k) w.2 h hv
theorem ev_W1.half {a b : Value} (w : ev_W1 a b) (h : (!ev_half a) = true) : (!ev_half b) = true := by
  rcases w with q | q
  · rw [← q]; exact h
  · rw [q.2.1]; rfl
theorem ev_W.ok1 : ∀ {l l' : List Value} {k : Nat}, ev_W l l' → ev_ok1 l k = true → ev_ok1 l' k = true
  | [], [], _, _, h => h
  | a :: l, b :: l', 0, w, h => w.1.half h
  | a :: l, b :: l', k + 1, w, h => ev_W.ok1 (l := l) (l' := l') (k := k) w.2 h
theorem ev_W.ok2 : ∀ {l l' : List Value} {k : Nat}, ev_W l l' → ev_ok2 l k = true → ev_ok2 l' k = true
  | [], [], _, _, h => h
  | [a], [b], 0, w, h => by cases h
  | a :: a2 :: l, b :: b2 :: l', 0, w, h => w.1.half h
  | a :: l, b :: l', k + 1, w, h => ev_W.ok2 (l := l) (l' := l') (k := k) w.2 (by simpa [ev_ok2] using h) |> fun q => by simpa [ev_ok2] using q
theorem ev_W.un : ∀ {l l' : List Value}, ev_W l l' → ev_W (ev_un l) (ev_un l')
  | [], [], w => w
  | a :: l, b :: l', w => ⟨Or.inl rfl, w.2⟩
theorem ev_W.s1 : ∀ {l l' : List Value} {k : Nat} {v : Value}, ev_W l l' → ev_W (ev_s1 l k v) (ev_s1 l' k v)
  | [], [], _, _, w => w
  | a :: l, b :: l', 0, v, w => by
    rcases w.1 with q | q
    · subst q
      unfold ev_s1
      cases ev_isL a
      · exact ⟨Or.inl rfl, w.2⟩
      · exact ⟨Or.inl rfl, ev_W.un w.2⟩
    · unfold ev_s1
      rw [q.1, q.2.2]
      exact ⟨Or.inl rfl, w.2⟩
  | a :: l, b :: l', k + 1, v, w => ⟨w.1, ev_W.s1 (l := l) (l' := l') (k := k) w.2⟩
theorem ev_W.s2 : ∀ {l l' : List Value} {k : Nat} {v : Value}, ev_W l l' → ev_W (ev_s2 l k v) (ev_s2 l' k v)
  | [], [], k, _, w => by cases k <;> exact w
  | [a], [b], 0, v, w => w
  | a :: a2 :: l, b :: b2 :: l', 0, v, w => ⟨Or.inl rfl, Or.inl rfl, w.2.2⟩
  | a :: l, b :: l', k + 1, v, w => by
    have := ev_W.s2 (l := l) (l' := l') (k := k) (v := v) w.2
    have e1 : ev_s2 (a :: l) (k + 1) v = a :: ev_s2 l k v := by cases l <;> rfl
    have e2 : ev_s2 (b :: l') (k + 1) v = b :: ev_s2 l' k v := by cases l' <;> rfl
    rw [e1, e2]
    exact ⟨w.1, this⟩
theorem nx_W {pc : Nat} {ls ls' : List Value} {o : Option (List Value)} {q : Nat × List Value × List Value} (w : ev_W ls ls') (h : ev_nx pc ls o = some q) : ∃ l1', ev_nx pc ls' o = some (q.1, l1', q.2.2) ∧ ev_W q.2.1 l1' := by
  cases o with
  | none => cases h
  | some st => cases h; exact ⟨ls', rfl, w⟩
theorem xP_W (i : ev_I) {pc : Nat} {ls ls' st : List Value} (w : ev_W ls ls') {q : Nat × List Value × List Value} (h : ev_xP i pc ls st = some q) : ∃ l1', ev_xP i pc ls' st = some (q.1, l1', q.2.2) ∧ ev_W q.2.1 l1' := by
  cases i with
  | inr v => cases h; exact ⟨ls', rfl, w⟩
  | inl ins =>
    unfold ev_xP at h ⊢
    dsimp only at h ⊢
    split at h
    all_goals first
      | exact nx_W w h
      | (cases h; done)
      | (cases h; exact ⟨ls', rfl, w⟩)
      | skip
    · split at h
      · rename_i e
        cases h
        rw [w.lg e (by intro c; cases c)]
        exact ⟨ls', rfl, w⟩
      · cases h
    · split at h
      · rename_i e
        cases h
        rw [w.lg e (by intro c; cases c)]
        exact ⟨ls', rfl, w⟩
      · cases h
    · split at h
      · rename_i e
        cases h
        rw [w.lg e (by intro c; cases c)]
        exact ⟨ls', rfl, w⟩
      · rename_i e
        rw [w.lg e (by intro c; cases c)]
        dsimp only
        split at h
        · cases h
        · cases h
          exact ⟨ls', rfl, w⟩
      · cases h
    · split at h
      · split at h
        · rename_i e
          cases h
          rw [w.ok1 e]
          exact ⟨_, rfl, w.s1⟩
        · cases h
      · cases h
    · split at h
      · split at h
        · rename_i e
          cases h
          rw [w.ok1 e]
          exact ⟨_, rfl, w.s1⟩
        · cases h
      · cases h
    · split at h
      · split at h
        · rename_i e
          cases h
          rw [w.ok2 e]
          exact ⟨_, rfl, w.s2⟩
        · cases h
      · cases h
    · split at h
      · rename_i e
        split at h
        · rename_i e2
          cases h
          rw [w.lg e (by intro c; cases c)]
          dsimp only
          rw [w.ok1 e2]
          exact ⟨_, rfl, w.s1⟩
        · cases h
      · cases h
    all_goals
      split at h
      all_goals first
        | (cases h; done)
        | (cases h; exact ⟨ls', rfl, w⟩)
theorem xP_N (scr : List Int32) (i : ev_I) {pc : Nat} {ls : List Value} {st : List Value} (h : ev_H) (hn : ev_xP i pc ls st = none) : (∀ ls', ev_xP i pc ls' st = none) ∨ (ev_xB i pc st = none ∧ ev_xH scr i st h = none ∧ ev_xR i st = none ∧ ev_xC i = none) := by
  cases i with
  | inr v => cases hn
  | inl ins =>
    cases ins
    all_goals first
      | exact Or.inr ⟨rfl, rfl, rfl, rfl⟩
      | exact Or.inl (fun _ => rfl)
theorem ev_weak0 (scr : List Int32) : ∀ (n d : Nat) (cd : List ev_I) (pc : Nat) (ls ls' st : List Value) (h : ev_H) (r : Option Value × ev_H), ev_W ls ls' → ev_E scr n d cd pc ls st h = some r → ev_E scr n d cd pc ls' st h = some r := by
  intro n
  induction n with
  | zero => intro d cd pc ls ls' st h r _ hr; cases hr
  | succ n ih =>
    intro d cd pc ls ls' st h r w hr
    unfold ev_E at hr ⊢
    cases hf : ev_ft cd pc with
    | none => rw [hf] at hr; cases hr
    | some i =>
      rw [hf] at hr
      dsimp only at hr ⊢
      have key : (∃ pc' l1 l1' st' h', ev_S scr i pc ls st h = some (.inl (pc', l1, st', h')) ∧ ev_S scr i pc ls' st h = some (.inl (pc', l1', st', h')) ∧ ev_W l1 l1') ∨ (∃ q, ev_S scr i pc ls st h = some (.inr q) ∧ ev_S scr i pc ls' st h = some (.inr q)) ∨ ev_S scr i pc ls st h = none := by
        cases hp : ev_xP i pc ls st with
        | some q =>
          obtain ⟨l1', e, w'⟩ := xP_W i w hp
          refine Or.inl ⟨q.1, q.2.1, l1', q.2.2, h, ?_, ?_, w'⟩
          · unfold ev_S; rw [hp]
          · unfold ev_S; rw [e]
        | none =>
          rcases xP_N scr i h hp with c | c
          · have e := c ls'
            cases hb : ev_xB i pc st with
            | some q =>
              refine Or.inl ⟨q.1, ls, ls', q.2, h, ?_, ?_, w⟩
              · unfold ev_S; rw [hp, hb]
              · unfold ev_S; rw [e, hb]
            | none =>
              cases hh : ev_xH scr i st h with
              | some q =>
                refine Or.inl ⟨pc + 1, ls, ls', q.1, q.2, ?_, ?_, w⟩
                · unfold ev_S; rw [hp, hb, hh]
                · unfold ev_S; rw [e, hb, hh]
              | none =>
                refine Or.inr ?_
                cases hx : ev_S scr i pc ls st h with
                | none => exact Or.inr rfl
                | some q =>
                  refine Or.inl ?_
                  unfold ev_S at hx ⊢
                  rw [hp, hb, hh] at hx
                  rw [e, hb, hh]
                  dsimp only at hx ⊢
                  cases hr2 : ev_xR i st with
                  | some v => rw [hr2] at hx; cases hx; exact ⟨_, rfl, rfl⟩
                  | none =>
                    rw [hr2] at hx
                    cases hc : ev_xC i with
                    | some k => rw [hc] at hx; cases hx; exact ⟨_, rfl, rfl⟩
                    | none => rw [hc] at hx; cases hx
          · refine Or.inr (Or.inr ?_)
            unfold ev_S
            rw [hp, c.1, c.2.1, c.2.2.1, c.2.2.2]
      rcases key with ⟨pc', l1, l1', st', h', e1, e2, w'⟩ | ⟨q, e1, e2⟩ | e1
      · rw [e1] at hr
        rw [e2]
        exact ih _ _ _ _ _ _ _ _ w' hr
      · rw [e1] at hr
        rw [e2]
        match q, hr with
        | .inl v, hr => exact hr
        | .inr k, hr =>
          dsimp only at hr ⊢
          cases d with
          | zero => exact hr
          | succ d' =>
            dsimp only at hr ⊢
            cases hk : ev_pr k with
            | none =>
              rw [hk] at hr
              dsimp only at hr ⊢
              split at hr
              · exact ih _ _ _ _ _ _ _ _ w hr
              · cases hr
            | some p =>
              obtain ⟨cd', mL, np, own⟩ := p
              rw [hk] at hr
              dsimp only at hr ⊢
              split at hr
              · cases hr
              · split at hr
                · cases hr
                · exact ih _ _ _ _ _ _ _ _ w hr
      · rw [e1] at hr
        cases hr
section WK
variable {scr : List Int32} {d : Nat} {cd : List ev_I} {pc : Nat} {ls ls' st : List Value} {h : ev_H}
theorem ev_weak {r : Option Value × ev_H} (K : ev_V scr d cd pc ls st h r) (w : ev_W ls ls') : ev_V scr d cd pc ls' st h r := by
  obtain ⟨n, e⟩ := K
  exact ⟨n, ev_weak0 scr n d cd pc ls ls' st h r w e⟩
theorem ex_weak {Q : Option Value → ev_H → Prop} (K : ev_X scr d cd pc ls st h Q) (w : ev_W ls ls') : ev_X scr d cd pc ls' st h Q := by
  obtain ⟨v, h2, k, q⟩ := K
  exact ⟨v, h2, ev_weak k w, q⟩
theorem W_e {a : Value} {l l' : List Value} (w : ev_W l l') : ev_W (a :: l) (a :: l') := ⟨Or.inl rfl, w⟩
theorem W_i {x : Int32} {l l' : List Value} (w : ev_W l l') : ev_W (.float 0 :: l) (.int x :: l') := ⟨Or.inr ⟨rfl, rfl, rfl⟩, w⟩
theorem W_r {x : Nat} {l l' : List Value} (w : ev_W l l') : ev_W (.float 0 :: l) (.ref x :: l') := ⟨Or.inr ⟨rfl, rfl, rfl⟩, w⟩
theorem W_n : ev_W [] [] := trivial
end WK
