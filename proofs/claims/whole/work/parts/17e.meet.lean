/-! A turn whose two sides meet again. -/
section EVM
variable {scr : List Int32} {d : Nat} {cd : List ev_I} {pc : Nat} {ls st st1 : List Value} {h : ev_H} {r : Option Value × ev_H}
theorem ev_ieqM (n1 n2 J : Nat) {x y p q v : Int32} {t : Int} (hf : ev_ft cd pc = some (.inl (.if_icmp .eq t))) (h1 : ev_run n1 cd t.toNat ls st = (J, ls, .int p :: st1)) (h2 : ev_run n2 cd (pc + 1) ls st = (J, ls, .int q :: st1)) (hv : (if x = y then p else q) = v) (K : ev_V scr d cd J ls (.int v :: st1) h r) : ev_V scr d cd pc ls (.int y :: .int x :: st) h r := by
  refine ev_ieq hf (fun c => ev_go n1 h1 ?_) (fun c => ev_go n2 h2 ?_)
  · rw [if_pos c] at hv; rw [hv]; exact K
  · rw [if_neg c] at hv; rw [hv]; exact K
theorem ev_zeqM (n1 n2 J : Nat) {x p q v : Int32} {t : Int} (hf : ev_ft cd pc = some (.inl (.ifCond .eq t))) (h1 : ev_run n1 cd t.toNat ls st = (J, ls, .int p :: st1)) (h2 : ev_run n2 cd (pc + 1) ls st = (J, ls, .int q :: st1)) (hv : (if x = 0 then p else q) = v) (K : ev_V scr d cd J ls (.int v :: st1) h r) : ev_V scr d cd pc ls (.int x :: st) h r := by
  refine ev_zeq hf (fun c => ev_go n1 h1 ?_) (fun c => ev_go n2 h2 ?_)
  · rw [if_pos c] at hv; rw [hv]; exact K
  · rw [if_neg c] at hv; rw [hv]; exact K
theorem ev_ineM (n1 n2 J : Nat) {x y p q v : Int32} {t : Int} (hf : ev_ft cd pc = some (.inl (.if_icmp .ne t))) (h1 : ev_run n1 cd t.toNat ls st = (J, ls, .int p :: st1)) (h2 : ev_run n2 cd (pc + 1) ls st = (J, ls, .int q :: st1)) (hv : (if x = y then q else p) = v) (K : ev_V scr d cd J ls (.int v :: st1) h r) : ev_V scr d cd pc ls (.int y :: .int x :: st) h r := by
  refine ev_ine hf (fun c => ev_go n1 h1 ?_) (fun c => ev_go n2 h2 ?_)
  · rw [if_neg c] at hv; rw [hv]; exact K
  · rw [if_pos c] at hv; rw [hv]; exact K
theorem ev_zneM (n1 n2 J : Nat) {x p q v : Int32} {t : Int} (hf : ev_ft cd pc = some (.inl (.ifCond .ne t))) (h1 : ev_run n1 cd t.toNat ls st = (J, ls, .int p :: st1)) (h2 : ev_run n2 cd (pc + 1) ls st = (J, ls, .int q :: st1)) (hv : (if x = 0 then q else p) = v) (K : ev_V scr d cd J ls (.int v :: st1) h r) : ev_V scr d cd pc ls (.int x :: st) h r := by
  refine ev_zne hf (fun c => ev_go n1 h1 ?_) (fun c => ev_go n2 h2 ?_)
  · rw [if_neg c] at hv; rw [hv]; exact K
  · rw [if_pos c] at hv; rw [hv]; exact K
theorem ev_iltM (n1 n2 J : Nat) {x y p q v : Int32} {t : Int} (hf : ev_ft cd pc = some (.inl (.if_icmp .lt t))) (h1 : ev_run n1 cd t.toNat ls st = (J, ls, .int p :: st1)) (h2 : ev_run n2 cd (pc + 1) ls st = (J, ls, .int q :: st1)) (hv : (if x < y then p else q) = v) (K : ev_V scr d cd J ls (.int v :: st1) h r) : ev_V scr d cd pc ls (.int y :: .int x :: st) h r := by
  refine ev_ilt hf (fun c => ev_go n1 h1 ?_) (fun c => ev_go n2 h2 ?_)
  · rw [if_pos c] at hv; rw [hv]; exact K
  · rw [if_neg c] at hv; rw [hv]; exact K
theorem ev_zltM (n1 n2 J : Nat) {x p q v : Int32} {t : Int} (hf : ev_ft cd pc = some (.inl (.ifCond .lt t))) (h1 : ev_run n1 cd t.toNat ls st = (J, ls, .int p :: st1)) (h2 : ev_run n2 cd (pc + 1) ls st = (J, ls, .int q :: st1)) (hv : (if x < 0 then p else q) = v) (K : ev_V scr d cd J ls (.int v :: st1) h r) : ev_V scr d cd pc ls (.int x :: st) h r := by
  refine ev_zlt hf (fun c => ev_go n1 h1 ?_) (fun c => ev_go n2 h2 ?_)
  · rw [if_pos c] at hv; rw [hv]; exact K
  · rw [if_neg c] at hv; rw [hv]; exact K
theorem ev_igeM (n1 n2 J : Nat) {x y p q v : Int32} {t : Int} (hf : ev_ft cd pc = some (.inl (.if_icmp .ge t))) (h1 : ev_run n1 cd t.toNat ls st = (J, ls, .int p :: st1)) (h2 : ev_run n2 cd (pc + 1) ls st = (J, ls, .int q :: st1)) (hv : (if y ≤ x then p else q) = v) (K : ev_V scr d cd J ls (.int v :: st1) h r) : ev_V scr d cd pc ls (.int y :: .int x :: st) h r := by
  refine ev_ige hf (fun c => ev_go n1 h1 ?_) (fun c => ev_go n2 h2 ?_)
  · rw [if_pos c] at hv; rw [hv]; exact K
  · rw [if_neg c] at hv; rw [hv]; exact K
theorem ev_zgeM (n1 n2 J : Nat) {x p q v : Int32} {t : Int} (hf : ev_ft cd pc = some (.inl (.ifCond .ge t))) (h1 : ev_run n1 cd t.toNat ls st = (J, ls, .int p :: st1)) (h2 : ev_run n2 cd (pc + 1) ls st = (J, ls, .int q :: st1)) (hv : (if 0 ≤ x then p else q) = v) (K : ev_V scr d cd J ls (.int v :: st1) h r) : ev_V scr d cd pc ls (.int x :: st) h r := by
  refine ev_zge hf (fun c => ev_go n1 h1 ?_) (fun c => ev_go n2 h2 ?_)
  · rw [if_pos c] at hv; rw [hv]; exact K
  · rw [if_neg c] at hv; rw [hv]; exact K
theorem ev_igtM (n1 n2 J : Nat) {x y p q v : Int32} {t : Int} (hf : ev_ft cd pc = some (.inl (.if_icmp .gt t))) (h1 : ev_run n1 cd t.toNat ls st = (J, ls, .int p :: st1)) (h2 : ev_run n2 cd (pc + 1) ls st = (J, ls, .int q :: st1)) (hv : (if y < x then p else q) = v) (K : ev_V scr d cd J ls (.int v :: st1) h r) : ev_V scr d cd pc ls (.int y :: .int x :: st) h r := by
  refine ev_igt hf (fun c => ev_go n1 h1 ?_) (fun c => ev_go n2 h2 ?_)
  · rw [if_pos c] at hv; rw [hv]; exact K
  · rw [if_neg c] at hv; rw [hv]; exact K
theorem ev_zgtM (n1 n2 J : Nat) {x p q v : Int32} {t : Int} (hf : ev_ft cd pc = some (.inl (.ifCond .gt t))) (h1 : ev_run n1 cd t.toNat ls st = (J, ls, .int p :: st1)) (h2 : ev_run n2 cd (pc + 1) ls st = (J, ls, .int q :: st1)) (hv : (if 0 < x then p else q) = v) (K : ev_V scr d cd J ls (.int v :: st1) h r) : ev_V scr d cd pc ls (.int x :: st) h r := by
  refine ev_zgt hf (fun c => ev_go n1 h1 ?_) (fun c => ev_go n2 h2 ?_)
  · rw [if_pos c] at hv; rw [hv]; exact K
  · rw [if_neg c] at hv; rw [hv]; exact K
theorem ev_ileM (n1 n2 J : Nat) {x y p q v : Int32} {t : Int} (hf : ev_ft cd pc = some (.inl (.if_icmp .le t))) (h1 : ev_run n1 cd t.toNat ls st = (J, ls, .int p :: st1)) (h2 : ev_run n2 cd (pc + 1) ls st = (J, ls, .int q :: st1)) (hv : (if x ≤ y then p else q) = v) (K : ev_V scr d cd J ls (.int v :: st1) h r) : ev_V scr d cd pc ls (.int y :: .int x :: st) h r := by
  refine ev_ile hf (fun c => ev_go n1 h1 ?_) (fun c => ev_go n2 h2 ?_)
  · rw [if_pos c] at hv; rw [hv]; exact K
  · rw [if_neg c] at hv; rw [hv]; exact K
theorem ev_zleM (n1 n2 J : Nat) {x p q v : Int32} {t : Int} (hf : ev_ft cd pc = some (.inl (.ifCond .le t))) (h1 : ev_run n1 cd t.toNat ls st = (J, ls, .int p :: st1)) (h2 : ev_run n2 cd (pc + 1) ls st = (J, ls, .int q :: st1)) (hv : (if x ≤ 0 then p else q) = v) (K : ev_V scr d cd J ls (.int v :: st1) h r) : ev_V scr d cd pc ls (.int x :: st) h r := by
  refine ev_zle hf (fun c => ev_go n1 h1 ?_) (fun c => ev_go n2 h2 ?_)
  · rw [if_pos c] at hv; rw [hv]; exact K
  · rw [if_neg c] at hv; rw [hv]; exact K
end EVM
section EXM
variable {scr : List Int32} {d : Nat} {cd : List ev_I} {pc : Nat} {ls st st1 : List Value} {h : ev_H} {Q : Option Value → ev_H → Prop}
theorem ex_ieqM (n1 n2 J : Nat) {x y p q v : Int32} {t : Int} (hf : ev_ft cd pc = some (.inl (.if_icmp .eq t))) (h1 : ev_run n1 cd t.toNat ls st = (J, ls, .int p :: st1)) (h2 : ev_run n2 cd (pc + 1) ls st = (J, ls, .int q :: st1)) (hv : (if x = y then p else q) = v) (K : ev_X scr d cd J ls (.int v :: st1) h Q) : ev_X scr d cd pc ls (.int y :: .int x :: st) h Q := by
  refine ex_ieq hf (fun c => ex_go n1 h1 ?_) (fun c => ex_go n2 h2 ?_)
  · rw [if_pos c] at hv; rw [hv]; exact K
  · rw [if_neg c] at hv; rw [hv]; exact K
theorem ex_zeqM (n1 n2 J : Nat) {x p q v : Int32} {t : Int} (hf : ev_ft cd pc = some (.inl (.ifCond .eq t))) (h1 : ev_run n1 cd t.toNat ls st = (J, ls, .int p :: st1)) (h2 : ev_run n2 cd (pc + 1) ls st = (J, ls, .int q :: st1)) (hv : (if x = 0 then p else q) = v) (K : ev_X scr d cd J ls (.int v :: st1) h Q) : ev_X scr d cd pc ls (.int x :: st) h Q := by
  refine ex_zeq hf (fun c => ex_go n1 h1 ?_) (fun c => ex_go n2 h2 ?_)
  · rw [if_pos c] at hv; rw [hv]; exact K
  · rw [if_neg c] at hv; rw [hv]; exact K
theorem ex_ineM (n1 n2 J : Nat) {x y p q v : Int32} {t : Int} (hf : ev_ft cd pc = some (.inl (.if_icmp .ne t))) (h1 : ev_run n1 cd t.toNat ls st = (J, ls, .int p :: st1)) (h2 : ev_run n2 cd (pc + 1) ls st = (J, ls, .int q :: st1)) (hv : (if x = y then q else p) = v) (K : ev_X scr d cd J ls (.int v :: st1) h Q) : ev_X scr d cd pc ls (.int y :: .int x :: st) h Q := by
  refine ex_ine hf (fun c => ex_go n1 h1 ?_) (fun c => ex_go n2 h2 ?_)
  · rw [if_neg c] at hv; rw [hv]; exact K
  · rw [if_pos c] at hv; rw [hv]; exact K
theorem ex_zneM (n1 n2 J : Nat) {x p q v : Int32} {t : Int} (hf : ev_ft cd pc = some (.inl (.ifCond .ne t))) (h1 : ev_run n1 cd t.toNat ls st = (J, ls, .int p :: st1)) (h2 : ev_run n2 cd (pc + 1) ls st = (J, ls, .int q :: st1)) (hv : (if x = 0 then q else p) = v) (K : ev_X scr d cd J ls (.int v :: st1) h Q) : ev_X scr d cd pc ls (.int x :: st) h Q := by
  refine ex_zne hf (fun c => ex_go n1 h1 ?_) (fun c => ex_go n2 h2 ?_)
  · rw [if_neg c] at hv; rw [hv]; exact K
  · rw [if_pos c] at hv; rw [hv]; exact K
theorem ex_iltM (n1 n2 J : Nat) {x y p q v : Int32} {t : Int} (hf : ev_ft cd pc = some (.inl (.if_icmp .lt t))) (h1 : ev_run n1 cd t.toNat ls st = (J, ls, .int p :: st1)) (h2 : ev_run n2 cd (pc + 1) ls st = (J, ls, .int q :: st1)) (hv : (if x < y then p else q) = v) (K : ev_X scr d cd J ls (.int v :: st1) h Q) : ev_X scr d cd pc ls (.int y :: .int x :: st) h Q := by
  refine ex_ilt hf (fun c => ex_go n1 h1 ?_) (fun c => ex_go n2 h2 ?_)
  · rw [if_pos c] at hv; rw [hv]; exact K
  · rw [if_neg c] at hv; rw [hv]; exact K
theorem ex_zltM (n1 n2 J : Nat) {x p q v : Int32} {t : Int} (hf : ev_ft cd pc = some (.inl (.ifCond .lt t))) (h1 : ev_run n1 cd t.toNat ls st = (J, ls, .int p :: st1)) (h2 : ev_run n2 cd (pc + 1) ls st = (J, ls, .int q :: st1)) (hv : (if x < 0 then p else q) = v) (K : ev_X scr d cd J ls (.int v :: st1) h Q) : ev_X scr d cd pc ls (.int x :: st) h Q := by
  refine ex_zlt hf (fun c => ex_go n1 h1 ?_) (fun c => ex_go n2 h2 ?_)
  · rw [if_pos c] at hv; rw [hv]; exact K
  · rw [if_neg c] at hv; rw [hv]; exact K
theorem ex_igeM (n1 n2 J : Nat) {x y p q v : Int32} {t : Int} (hf : ev_ft cd pc = some (.inl (.if_icmp .ge t))) (h1 : ev_run n1 cd t.toNat ls st = (J, ls, .int p :: st1)) (h2 : ev_run n2 cd (pc + 1) ls st = (J, ls, .int q :: st1)) (hv : (if y ≤ x then p else q) = v) (K : ev_X scr d cd J ls (.int v :: st1) h Q) : ev_X scr d cd pc ls (.int y :: .int x :: st) h Q := by
  refine ex_ige hf (fun c => ex_go n1 h1 ?_) (fun c => ex_go n2 h2 ?_)
  · rw [if_pos c] at hv; rw [hv]; exact K
  · rw [if_neg c] at hv; rw [hv]; exact K
theorem ex_zgeM (n1 n2 J : Nat) {x p q v : Int32} {t : Int} (hf : ev_ft cd pc = some (.inl (.ifCond .ge t))) (h1 : ev_run n1 cd t.toNat ls st = (J, ls, .int p :: st1)) (h2 : ev_run n2 cd (pc + 1) ls st = (J, ls, .int q :: st1)) (hv : (if 0 ≤ x then p else q) = v) (K : ev_X scr d cd J ls (.int v :: st1) h Q) : ev_X scr d cd pc ls (.int x :: st) h Q := by
  refine ex_zge hf (fun c => ex_go n1 h1 ?_) (fun c => ex_go n2 h2 ?_)
  · rw [if_pos c] at hv; rw [hv]; exact K
  · rw [if_neg c] at hv; rw [hv]; exact K
theorem ex_igtM (n1 n2 J : Nat) {x y p q v : Int32} {t : Int} (hf : ev_ft cd pc = some (.inl (.if_icmp .gt t))) (h1 : ev_run n1 cd t.toNat ls st = (J, ls, .int p :: st1)) (h2 : ev_run n2 cd (pc + 1) ls st = (J, ls, .int q :: st1)) (hv : (if y < x then p else q) = v) (K : ev_X scr d cd J ls (.int v :: st1) h Q) : ev_X scr d cd pc ls (.int y :: .int x :: st) h Q := by
  refine ex_igt hf (fun c => ex_go n1 h1 ?_) (fun c => ex_go n2 h2 ?_)
  · rw [if_pos c] at hv; rw [hv]; exact K
  · rw [if_neg c] at hv; rw [hv]; exact K
theorem ex_zgtM (n1 n2 J : Nat) {x p q v : Int32} {t : Int} (hf : ev_ft cd pc = some (.inl (.ifCond .gt t))) (h1 : ev_run n1 cd t.toNat ls st = (J, ls, .int p :: st1)) (h2 : ev_run n2 cd (pc + 1) ls st = (J, ls, .int q :: st1)) (hv : (if 0 < x then p else q) = v) (K : ev_X scr d cd J ls (.int v :: st1) h Q) : ev_X scr d cd pc ls (.int x :: st) h Q := by
  refine ex_zgt hf (fun c => ex_go n1 h1 ?_) (fun c => ex_go n2 h2 ?_)
  · rw [if_pos c] at hv; rw [hv]; exact K
  · rw [if_neg c] at hv; rw [hv]; exact K
theorem ex_ileM (n1 n2 J : Nat) {x y p q v : Int32} {t : Int} (hf : ev_ft cd pc = some (.inl (.if_icmp .le t))) (h1 : ev_run n1 cd t.toNat ls st = (J, ls, .int p :: st1)) (h2 : ev_run n2 cd (pc + 1) ls st = (J, ls, .int q :: st1)) (hv : (if x ≤ y then p else q) = v) (K : ev_X scr d cd J ls (.int v :: st1) h Q) : ev_X scr d cd pc ls (.int y :: .int x :: st) h Q := by
  refine ex_ile hf (fun c => ex_go n1 h1 ?_) (fun c => ex_go n2 h2 ?_)
  · rw [if_pos c] at hv; rw [hv]; exact K
  · rw [if_neg c] at hv; rw [hv]; exact K
theorem ex_zleM (n1 n2 J : Nat) {x p q v : Int32} {t : Int} (hf : ev_ft cd pc = some (.inl (.ifCond .le t))) (h1 : ev_run n1 cd t.toNat ls st = (J, ls, .int p :: st1)) (h2 : ev_run n2 cd (pc + 1) ls st = (J, ls, .int q :: st1)) (hv : (if x ≤ 0 then p else q) = v) (K : ev_X scr d cd J ls (.int v :: st1) h Q) : ev_X scr d cd pc ls (.int x :: st) h Q := by
  refine ex_zle hf (fun c => ex_go n1 h1 ?_) (fun c => ex_go n2 h2 ?_)
  · rw [if_pos c] at hv; rw [hv]; exact K
  · rw [if_neg c] at hv; rw [hv]; exact K
end EXM
