-- ===== end of PART A; then your names; then what follows =====
/-! THE CLAIM OUT OF ONE WALK OF THE LAW'S BODY. Your part is whole_start (and what it stands on); all else here is the same for every law, but numbers. -/
def R_law : String := "TenPledgesLaw"
def lw_P (b : Addr) (xs : List Int32) (args : Array Value) (s : State) : Prop := args = #[.ref b] ∧ s.IntsAt b xs ∧ xs.length ≤ 320 ∧ (Jvm.Cond.and given_1 narrow_1).before args s = true
def lw_Q (_ : Array Value) (s : State) (o : Outcome) (t : State) : Prop := o = .returned (some (.int 1)) ∧ Framed s o t [] 600000 7302250
def lw_Z (below : List Frame) (a : Array Value) (s : State) : State → Prop := fun t => ∃ o, t.status = .running ∧ Ended t below o ∧ lw_Q a s o t
/-- the law's own end, with 1 on the stack, nothing written that was there before, its room as the claim has it -/
theorem lw_ret {p : Program} {l : Launch} {e : Env} {s : State} {m : MethodId} {below : List Frame} {meth : Method} {c : Code} {b : Nat} (hx : p.tables.exec = Jvm.exec) (hb : c.code = code) (hr : meth.sig.returnType = ret) (hlocks : meth.locks = false) {pc : Nat} {H : Heap} {ls : Array Slot} (hdg : decode code pc = .ok (.ireturn, 1)) : W p l e room_1 s m #[Value.ref b] below meth c H [] 600000 7302250 (lw_Z below #[Value.ref b] s) (F0 m pc ls [.int 1]) := by
  intro T hT X
  obtain ⟨fs, hret, hrun, hended, hW, hframe⟩ := X.leave (v := some (.int 1)) (hlocks := hlocks) (fun h => by rw [hr] at h; cases h)
  have hmeth' : T.vm.method? m = some meth := X.method'
  refine ⟨T.setFrames fs, ?_, .returned (some (.int 1)), hrun, hended, rfl, ⟨_, rfl⟩, hW, hframe⟩
  jvm_step X.here [X.here.top, hx, hb, hdg, hmeth', hr, ret, narrow_b1]
  (try refine ⟨rfl, ?_⟩); (try refine ⟨rfl, ?_⟩)
  first | (intro acts; rw [hret _ acts rfl rfl rfl]) | rw [hret _ _ rfl rfl rfl]
  exact Steps.refl _
/-- what holds at the law's entry: the machine, the code, the tables' words (any of lw_tbl by 'hts w (by decide +kernel)'), the script of L ints xs at the cell b, what the Statement gives of the start (any of its parts by flat_of_before) -/
def lw_At (p : Program) (s : State) (m : MethodId) (meth : Method) (c : Code) (b L : Nat) (xs : Nat → Int32) : Prop :=
  p.tables.exec = Jvm.exec ∧ c.code = code ∧ meth.sig.returnType = ret ∧ c.maxLocals = 4 ∧ s.vm.findClass R_law = some m.cls ∧ (∀ w ∈ lw_tbl, w.before #[Value.ref b] s = true) ∧ va_X b L xs s s.heap ∧ b < s.heap.size ∧ meth.locks = false ∧ (Jvm.Cond.and given_1 narrow_1).before #[Value.ref b] s = true

theorem ev_UW_in {w : Cond} (h : w ∈ ev_UW) : w ∈ lw_tbl := (List.mem_filter.mp h).1
def ev_spl (i : Nat) : Nat := [162, 164, 166, 168, 170, 171, 173, 175].getD i 0
def ev_sln : List Nat := [4, 7, 5, 6, 4, 5, 4, 3]
def ev_sby : List (List Int32) := [[99, 97, 108, 109], [113, 117, 97, 114, 114, 101, 108], [115, 97, 105, 110, 116], [119, 97, 110, 100, 101, 114], [102, 105, 110, 101], [119, 97, 116, 99, 104], [109, 111, 115, 116], [107, 105, 110]]
abbrev ev_tm (i : Nat) : Term := .string RX3 (ev_spl i)
abbrev ev_fl : List Cond := flatC (Jvm.Cond.and given_1 narrow_1)
theorem ev_p1 : ∀ i, i < 8 → Cond.exactly (ev_tm i) "java/lang/String" ∈ ev_fl := by decide +kernel
theorem ev_p2 : ∀ i, i < 8 → Cond.eq (.field (ev_tm i) "java/lang/String" "coder" "B") (.int 0) ∈ ev_fl := by decide +kernel
theorem ev_p3 : ∀ i, i < 8 → Cond.arrayOf (.field (ev_tm i) "java/lang/String" "value" "[B") .byte ∈ ev_fl := by decide +kernel
theorem ev_p4 : ∀ i, i < 8 → Cond.eq (.length (.field (ev_tm i) "java/lang/String" "value" "[B")) (.int (Int32.ofNat (ev_sln.getD i 0))) ∈ ev_fl := by decide +kernel
theorem ev_p5 : ∀ i, i < 8 → ∀ j, j < ev_sln.getD i 0 → Cond.eq (.elem (.field (ev_tm i) "java/lang/String" "value" "[B") (.int (Int32.ofNat j))) (.int ((ev_sby.getD i []).getD j 0)) ∈ ev_fl := by decide +kernel
theorem ev_p6 : ∀ i, i < 8 → ∀ j, j < 8 → i ≠ j → Cond.not (Cond.eq (ev_tm i) (ev_tm j)) ∈ ev_fl ∨ Cond.not (Cond.eq (ev_tm j) (ev_tm i)) ∈ ev_fl := by decide +kernel
def ev_san (k : Nat) : String := ["NUMBERS", "LOWEST", "HIGHEST"].getD k ""
def ev_sax (k : Nat) : List Int32 := [[3, 3, 2, 2, 1, 1, 2, 2], [0, 0, 0, 0, 0, 0, 0, 0, 0, 0, 0, 0, 0, 0, 0, 0, 0, 0, 0, 1, 0, 0, 0, 0], [9, 99, 3, 9, 99, 3, 99, 3, 0, 9, 99, 0, 99, 0, 0, 9, 0, 0, 3, 5, 0, 7, 7, 0]].getD k []
abbrev ev_ts (k : Nat) : Term := .static "TenPledges$Teller" (ev_san k) "[I"
theorem ev_p7 : ∀ k, k < 3 → Cond.arrayOf (ev_ts k) .int ∈ ev_fl := by decide +kernel
theorem ev_p8 : ∀ k, k < 3 → Cond.eq (.length (ev_ts k)) (.int (Int32.ofNat (ev_sax k).length)) ∈ ev_fl := by decide +kernel
theorem ev_p9 : ∀ k, k < 3 → ∀ j, j < (ev_sax k).length → Cond.eq (.elem (ev_ts k) (.int (Int32.ofNat j))) (.int ((ev_sax k).getD j 0)) ∈ ev_fl := by decide +kernel
theorem ev_p10 : ∀ k, k < 3 → Cond.laysStatic "TenPledges$Teller" (ev_san k) "[I" ∈ lw_tbl := by decide +kernel
theorem ev_p11 : Cond.laysStatic "java/lang/String" "COMPACT_STRINGS" "Z" ∈ lw_tbl ∧ Cond.laysStatic "jdk/internal/util/Preconditions" "SIOOBE_FORMATTER" "Ljava/util/function/BiFunction;" ∈ lw_tbl ∧ Cond.arrayOver (.object RX4) ∈ lw_tbl ∧ Cond.arrayOver (.object RX2) ∈ lw_tbl := by decide +kernel
theorem ev_p12 : Cond.eq (.static "java/lang/String" "COMPACT_STRINGS" "Z") (.int 1) ∈ ev_fl ∧ Cond.isRef (.static "jdk/internal/util/Preconditions" "SIOOBE_FORMATTER" "Ljava/util/function/BiFunction;") ∈ ev_fl := by decide +kernel
theorem ev_p13 : ev_mns.all (fun e => decide (Cond.methodLinkNest (ev_cn e.2.1) e.2.2.1 (ev_y e.2.2.2) "TenPledges" ∈ lw_tbl)) = true := by decide +kernel
theorem ev_p14 : ∀ i, i < 8 → Cond.stringRef RX3 (ev_spl i) (ev_txt i) ∈ lw_tbl := by decide +kernel
theorem ev_p15 : ev_strs.all (fun e => decide (10 ≤ e.2) && decide (e.2 < 18) && decide (e.1 = ev_spl (e.2 - 10))) = true := by decide +kernel
theorem ev_p16 : (List.range 8).all (fun i => decide (ev_sln.getD i 0 = (ev_sby.getD i []).length)) = true := by decide +kernel
