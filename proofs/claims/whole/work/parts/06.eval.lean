/-! A machine of our own: it runs resolved code over numbered cells. A cell: an array of numbers (kind, what it holds), or an object or an array of references (class, what it holds). '.ref k' is the cell k, '.retAddr k' a thing that was there before, '.float 0' a local that nobody has set, '.double 0' a long's second half. -/
abbrev ev_C : Type := (Nat × List Int32) ⊕ (Nat × List Value)
abbrev ev_H : Type := List ev_C
def ev_ft : List ev_I → Nat → Option ev_I
  | [], _ => none
  | a :: _, 0 => some a
  | _ :: l, n + 1 => ev_ft l n
def ev_lg : List Value → Nat → Option Value
  | [], _ => none
  | a :: _, 0 => some a
  | _ :: l, n + 1 => ev_lg l n
def ev_half : Value → Bool
  | .double _ => true
  | _ => false
def ev_isL : Value → Bool
  | .long _ => true
  | _ => false
def ev_ok1 : List Value → Nat → Bool
  | [], _ => false
  | a :: _, 0 => !ev_half a
  | _ :: l, n + 1 => ev_ok1 l n
def ev_ok2 : List Value → Nat → Bool
  | a :: _ :: _, 0 => !ev_half a
  | _ :: l, n + 1 => ev_ok2 l n
  | _, _ => false
def ev_un : List Value → List Value
  | [] => []
  | _ :: l => .float 0 :: l
def ev_s1 : List Value → Nat → Value → List Value
  | [], _, _ => []
  | a :: l, 0, v => match ev_isL a with
    | true => v :: ev_un l
    | false => v :: l
  | a :: l, n + 1, v => a :: ev_s1 l n v
def ev_s2 : List Value → Nat → Value → List Value
  | _ :: _ :: l, 0, v => v :: .double 0 :: l
  | a :: l, n + 1, v => a :: ev_s2 l n v
  | l, _, _ => l
def ev_lay : List Value → Nat → List Value
  | [], n => List.replicate n (.float 0)
  | v :: l, n => match ev_half v, ev_isL v, n with
    | false, true, n + 2 => v :: .double 0 :: ev_lay l n
    | false, false, n + 1 => v :: ev_lay l n
    | _, _, _ => []
def ev_ii (st : List Value) (f : Int32 → Int32 → Int32) : Option (List Value) := match st with
  | .int y :: .int x :: r => some (.int (f x y) :: r)
  | _ => none
def ev_ll (st : List Value) (f : Int64 → Int64 → Int64) : Option (List Value) := match st with
  | .long y :: .long x :: r => some (.long (f x y) :: r)
  | _ => none
def ev_i1 (st : List Value) (f : Int32 → Value) : Option (List Value) := match st with
  | .int x :: r => some (f x :: r)
  | _ => none
def ev_inc (n : Int) (x : Int32) : Int32 := match n with
  | .ofNat 1 => x + 1
  | n => x + Int32.ofInt n
def ev_nx (pc : Nat) (ls : List Value) (o : Option (List Value)) : Option (Nat × List Value × List Value) := match o with
  | some st => some (pc + 1, ls, st)
  | none => none
/-- what needs no cells, and does not turn off -/
def ev_xP (i : ev_I) (pc : Nat) (ls st : List Value) : Option (Nat × List Value × List Value) := match i with
  | .inr v => some (pc + 1, ls, v :: st)
  | .inl ins => match ins with
    | .iload k => match ev_lg ls k with
      | some (.int x) => some (pc + 1, ls, .int x :: st)
      | _ => none
    | .lload k => match ev_lg ls k with
      | some (.long x) => some (pc + 1, ls, .long x :: st)
      | _ => none
    | .aload k => match ev_lg ls k with
      | some (.ref x) => some (pc + 1, ls, .ref x :: st)
      | some (.retAddr x) => match x with
        | 4 => none
        | x => some (pc + 1, ls, .retAddr x :: st)
      | _ => none
    | .istore k => match st with
      | .int x :: r => match ev_ok1 ls k with
        | true => some (pc + 1, ev_s1 ls k (.int x), r)
        | false => none
      | _ => none
    | .astore k => match st with
      | .ref x :: r => match ev_ok1 ls k with
        | true => some (pc + 1, ev_s1 ls k (.ref x), r)
        | false => none
      | _ => none
    | .lstore k => match st with
      | .long x :: r => match ev_ok2 ls k with
        | true => some (pc + 1, ev_s2 ls k (.long x), r)
        | false => none
      | _ => none
    | .iinc k n => match ev_lg ls k with
      | some (.int x) => match ev_ok1 ls k with
        | true => some (pc + 1, ev_s1 ls k (.int (ev_inc n x)), st)
        | false => none
      | _ => none
    | .iadd => ev_nx pc ls (ev_ii st (fun x y => x + y))
    | .isub => ev_nx pc ls (ev_ii st (fun x y => x - y))
    | .imul => ev_nx pc ls (ev_ii st (fun x y => x * y))
    | .iand => ev_nx pc ls (ev_ii st (fun x y => x &&& y))
    | .ior => ev_nx pc ls (ev_ii st (fun x y => x ||| y))
    | .ixor => ev_nx pc ls (ev_ii st (fun x y => x ^^^ y))
    | .ishl => ev_nx pc ls (ev_ii st (fun x y => x <<< (y &&& 31)))
    | .ishr => ev_nx pc ls (ev_ii st (fun x y => x >>> (y &&& 31)))
    | .iushr => ev_nx pc ls (ev_ii st (fun x y => (x.toUInt32 >>> (y.toUInt32 &&& Int32.toUInt32 31)).toInt32))
    | .ladd => ev_nx pc ls (ev_ll st (fun x y => x + y))
    | .lmul => ev_nx pc ls (ev_ll st (fun x y => x * y))
    | .lcmp => match st with
      | .long y :: .long x :: r => some (pc + 1, ls, .int (lg_cmp x y) :: r)
      | _ => none
    | .i2l => ev_nx pc ls (ev_i1 st (fun x => .long x.toInt64))
    | .i2b => ev_nx pc ls (ev_i1 st (fun x => .int x.toInt8.toInt32))
    | .i2s => ev_nx pc ls (ev_i1 st (fun x => .int x.toInt16.toInt32))
    | .i2c => ev_nx pc ls (ev_i1 st (fun x => .int (x.toUInt32 % 65536).toInt32))
    | .dup => match st with
      | .int x :: r => some (pc + 1, ls, .int x :: .int x :: r)
      | .ref x :: r => some (pc + 1, ls, .ref x :: .ref x :: r)
      | _ => none
    | .dup2 => match st with
      | .int y :: .ref x :: r => some (pc + 1, ls, .int y :: .ref x :: .int y :: .ref x :: r)
      | _ => none
    | .pop => match st with
      | .int _ :: r => some (pc + 1, ls, r)
      | _ => none
    | .goto t => some (t.toNat, ls, st)
    | _ => none
def ev_cb (c : ClassFile.Cond) (x y : Int32) : Bool := match c with
  | .eq => decide (x = y)
  | .ne => decide (¬ x = y)
  | .lt => decide (x < y)
  | .ge => decide (y ≤ x)
  | .gt => decide (y < x)
  | .le => decide (x ≤ y)
def ev_br (b : Bool) (t f : Nat) : Nat := match b with
  | true => t
  | false => f
/-- what turns off, and what may divide by 0 -/
def ev_xB (i : ev_I) (pc : Nat) (st : List Value) : Option (Nat × List Value) := match i with
  | .inr _ => none
  | .inl ins => match ins with
    | .if_icmp c t => match st with
      | .int y :: .int x :: r => some (ev_br (ev_cb c x y) t.toNat (pc + 1), r)
      | _ => none
    | .ifCond c t => match st with
      | .int x :: r => some (ev_br (ev_cb c x 0) t.toNat (pc + 1), r)
      | _ => none
    | .tableswitch d lo hi offs => match st with
      | .int x :: r => some (if x.toInt < lo ∨ hi < x.toInt then d.toNat else (offs.toList.getD (x.toInt - lo).toNat d).toNat, r)
      | _ => none
    | .lookupswitch d ps => match st with
      | .int x :: r => some ((Op.lookupswitch.offset ps.toList d x.toInt).toNat, r)
      | _ => none
    | .idiv => match st with
      | .int y :: .int x :: r => if y = 0 then none else some (pc + 1, .int (x / y) :: r)
      | _ => none
    | .irem => match st with
      | .int y :: .int x :: r => if y = 0 then none else some (pc + 1, .int (x - x / y * y) :: r)
      | _ => none
    | .ldiv => match st with
      | .long y :: .long x :: r => if y = 0 then none else some (pc + 1, .long (x / y) :: r)
      | _ => none
    | .lrem => match st with
      | .long y :: .long x :: r => if y = 0 then none else some (pc + 1, .long (x - x / y * y) :: r)
      | _ => none
    | _ => none
def ev_ro (scr : List Int32) (k : Nat) : Option (List Int32) := match k with
  | 0 => some scr
  | 1 => some [3, 3, 2, 2, 1, 1, 2, 2]
  | 2 => some [0, 0, 0, 0, 0, 0, 0, 0, 0, 0, 0, 0, 0, 0, 0, 0, 0, 0, 0, 1, 0, 0, 0, 0]
  | 3 => some [9, 99, 3, 9, 99, 3, 99, 3, 0, 9, 99, 0, 99, 0, 0, 9, 0, 0, 3, 5, 0, 7, 7, 0]
  | 20 => some [99, 97, 108, 109]
  | 21 => some [113, 117, 97, 114, 114, 101, 108]
  | 22 => some [115, 97, 105, 110, 116]
  | 23 => some [119, 97, 110, 100, 101, 114]
  | 24 => some [102, 105, 110, 101]
  | 25 => some [119, 97, 116, 99, 104]
  | 26 => some [109, 111, 115, 116]
  | 27 => some [107, 105, 110]
  | _ => none
def ev_df (c : Nat) : List Value := match c with
  | 0 => [.int 0, .int 0, .int 0, .int 0, .int 0]
  | 1 => [.null, .int 0, .null, .null, .null, .null]
  | 2 => [.int 0, .int 0, .null]
  | 3 => [.int 0, .int 0, .int 0, .null, .null, .int 0, .int 0, .int 0, .int 0, .int 0, .null, .int 0, .int 0, .int 0, .int 0]
  | 4 => [.int 0, .int 0, .int 0, .int 0, .int 0, .int 0, .null, .null, .null, .null, .null, .null, .null, .null]
  | 5 => [.null, .null, .null, .null, .null, .null, .null, .null, .null, .int 0, .int 0, .int 0]
  | 6 => [.null, .null, .null, .int 0, .null, .null, .int 0, .null, .int 0, .int 0, .int 0, .null, .int 0, .int 0, .int 0, .int 0, .int 0, .int 0, .int 0, .null, .null, .null, .null, .null, .int 0, .null]
  | _ => []
def ev_in (j : Int32) (n : Nat) : Bool := !(decide (j < 0) || decide (n ≤ j.toNatClampNeg))
def ev_bz (x : Int32) : Bool := decide (x = 0) || decide (x = 1)
/-- what reads, writes or makes cells -/
def ev_xH (scr : List Int32) (i : ev_I) (st : List Value) (h : ev_H) : Option (List Value × ev_H) := match i with
  | .inr _ => none
  | .inl ins => match ins with
    | .nop => some (st, h)
    | .getfield i => match st with
      | .ref a :: r => match h[a]? with
        | some (.inr (c, vs)) => match Nat.beq c (i / 32), vs[i % 32]? with
          | true, some v => some (v :: r, h)
          | _, _ => none
        | _ => none
      | _ => none
    | .putfield i => match st with
      | .int x :: .ref a :: r => match h[a]? with
        | some (.inr (c, vs)) => match Nat.beq c (i / 32), Nat.blt (i % 32) vs.length with
          | true, true => some (r, h.set a (.inr (c, vs.set (i % 32) (.int x))))
          | _, _ => none
        | _ => none
      | _ => none
    | .multianewarray i _ => match st with
      | .int x :: .ref a :: r => match h[a]? with
        | some (.inr (c, vs)) => match Nat.beq c (i / 32), Nat.blt (i % 32) vs.length, ev_bz x with
          | true, true, true => some (r, h.set a (.inr (c, vs.set (i % 32) (.int x))))
          | _, _, _ => none
        | _ => none
      | _ => none
    | .putstatic i => match st with
      | .ref b :: .ref a :: r => match h[a]? with
        | some (.inr (c, vs)) => match Nat.beq c (i / 32), Nat.blt (i % 32) vs.length with
          | true, true => some (r, h.set a (.inr (c, vs.set (i % 32) (.ref b))))
          | _, _ => none
        | _ => none
      | _ => none
    | .iaload => match st with
      | .int j :: .ref a :: r => match h[a]? with
        | some (.inl (0, xs)) => match ev_in j xs.length with
          | true => some (.int (xs.getD j.toNatClampNeg 0) :: r, h)
          | false => none
        | _ => none
      | _ => none
    | .baload => match st with
      | .int j :: .ref a :: r => match h[a]? with
        | some (.inl (1, xs)) => match ev_in j xs.length with
          | true => some (.int (xs.getD j.toNatClampNeg 0) :: r, h)
          | false => none
        | some (.inl (2, xs)) => match ev_in j xs.length with
          | true => some (.int (xs.getD j.toNatClampNeg 0) :: r, h)
          | false => none
        | _ => none
      | _ => none
    | .iastore => match st with
      | .int x :: .int j :: .ref a :: r => match h[a]? with
        | some (.inl (0, xs)) => match ev_in j xs.length with
          | true => some (r, h.set a (.inl (0, xs.set j.toNatClampNeg x)))
          | false => none
        | _ => none
      | _ => none
    | .bastore => match st with
      | .int x :: .int j :: .ref a :: r => match h[a]? with
        | some (.inl (1, xs)) => match ev_in j xs.length with
          | true => some (r, h.set a (.inl (1, xs.set j.toNatClampNeg (vp_nar .byte x))))
          | false => none
        | some (.inl (2, xs)) => match ev_in j xs.length with
          | true => some (r, h.set a (.inl (2, xs.set j.toNatClampNeg (vp_nar .boolean x))))
          | false => none
        | _ => none
      | _ => none
    | .aaload => match st with
      | .int j :: .ref a :: r => match h[a]? with
        | some (.inr (c, vs)) => match (Nat.beq c 14 || Nat.beq c 12), ev_in j vs.length, vs[j.toNatClampNeg]? with
          | true, true, some (.ref b) => some (.ref b :: r, h)
          | _, _, _ => none
        | _ => none
      | _ => none
    | .aastore => match st with
      | .ref b :: .int j :: .ref a :: r => match h[a]?, h[b]? with
        | some (.inr (c, vs)), some (.inr (cb, _)) => match Nat.beq c (10 + cb), (Nat.beq cb 4 || Nat.beq cb 2), ev_in j vs.length with
          | true, true, true => some (r, h.set a (.inr (c, vs.set j.toNatClampNeg (.ref b))))
          | _, _, _ => none
        | _, _ => none
      | _ => none
    | .new c => match Nat.blt c 7 with
      | true => some (.ref h.length :: st, h ++ [.inr (c, ev_df c)])
      | false => none
    | .newarray t => match st with
      | .int n :: r => match ev_in n 201, t with
        | true, .int => some (.ref h.length :: r, h ++ [.inl (0, List.replicate n.toNatClampNeg 0)])
        | true, .byte => some (.ref h.length :: r, h ++ [.inl (1, List.replicate n.toNatClampNeg 0)])
        | true, .boolean => some (.ref h.length :: r, h ++ [.inl (2, List.replicate n.toNatClampNeg 0)])
        | _, _ => none
      | _ => none
    | .anewarray c => match st with
      | .int n :: r => match ev_in n 201, (Nat.beq c 4 || Nat.beq c 2) with
        | true, true => some (.ref h.length :: r, h ++ [.inr (10 + c, List.replicate n.toNatClampNeg .null)])
        | _, _ => none
      | _ => none
    | .faload => match st with
      | .int j :: .retAddr a :: r => match Nat.blt a 4, ev_ro scr a with
        | true, some xs => match ev_in j xs.length with
          | true => some (.int (xs.getD j.toNatClampNeg 0) :: r, h)
          | false => none
        | _, _ => none
      | _ => none
    | .caload => match st with
      | .int j :: .retAddr a :: r => match Nat.blt a 20, ev_ro scr a with
        | false, some xs => match ev_in j xs.length with
          | true => some (.int (xs.getD j.toNatClampNeg 0) :: r, h)
          | false => none
        | _, _ => none
      | _ => none
    | .arraylength => match st with
      | .retAddr a :: r => match ev_ro scr a with
        | some xs => some (.int (Int32.ofNat xs.length) :: r, h)
        | none => none
      | _ => none
    | .dload k => match st with
      | .retAddr a :: r => match Nat.blt 9 a, Nat.blt a 18, k with
        | true, true, 0 => some (.retAddr (a + 10) :: r, h)
        | true, true, 1 => some (.int 0 :: r, h)
        | _, _, _ => none
      | _ => none
    | _ => none
def ev_nrw (t : Nat) (x : Int32) : Bool := match t with
  | 0 => ev_bz x
  | 1 => decide (narrow .byte (.int x) = .int x)
  | _ => decide (narrow .char (.int x) = .int x)
/-- a method's end -/
def ev_xR (i : ev_I) (st : List Value) : Option (Option Value) := match i with
  | .inr _ => none
  | .inl ins => match ins with
    | .return_ => match st with
      | [] => some none
      | _ => none
    | .ireturn => match st with
      | [.int x] => some (some (.int x))
      | _ => none
    | .ret t => match st with
      | [.int x] => match ev_nrw t x with
        | true => some (some (.int x))
        | false => none
      | _ => none
    | .lreturn => match st with
      | [.long x] => some (some (.long x))
      | _ => none
    | .areturn => match st with
      | [.retAddr x] => match Nat.beq x 4 with
        | true => none
        | false => some (some (.retAddr x))
      | _ => none
    | _ => none
def ev_xC (i : ev_I) : Option Nat := match i with
  | .inr _ => none
  | .inl ins => match ins with
    | .invokevirtual k => some k
    | .invokestatic k => some k
    | .invokespecial k => some k
    | .monitorexit => some 999
    | _ => none
def ev_rec (own : Nat) (v : Option Value) (h : ev_H) : Bool := match v with
  | some (.ref b) => match h[b]? with
    | some (.inr (c, _)) => Nat.beq c own && Nat.blt own 7
    | _ => false
  | some (.retAddr k) => Nat.beq own 10 && Nat.blt 9 k && Nat.blt k 18
  | _ => false
def ev_cok (i : ev_I) (st : List Value) (np own : Nat) (h : ev_H) : Bool := match i with
  | .inr _ => false
  | .inl ins => Nat.ble np st.length && Nat.ble (st.drop np).length 4 && (match ins with
    | .invokevirtual _ => ev_rec own (ev_lg (st.take np).reverse 0) h
    | .invokespecial _ => match ev_lg (st.take np).reverse 0 with
      | some (.ref _) => true
      | _ => false
    | _ => true)
def ev_wd : List Value → Nat
  | [] => 0
  | v :: l => v.category + ev_wd l
abbrev ev_Q : Type := (Nat × List Value × List Value × ev_H) ⊕ (Option Value ⊕ Nat)
def ev_S (scr : List Int32) (i : ev_I) (pc : Nat) (ls st : List Value) (h : ev_H) : Option ev_Q :=
  match ev_xP i pc ls st with
  | some (pc', ls', st') => some (.inl (pc', ls', st', h))
  | none => match ev_xB i pc st with
    | some (pc', st') => some (.inl (pc', ls, st', h))
    | none => match ev_xH scr i st h with
      | some (st', h') => some (.inl (pc + 1, ls, st', h'))
      | none => match ev_xR i st with
        | some v => some (.inr (.inl v))
        | none => match ev_xC i with
          | some k => some (.inr (.inr k))
          | none => none
def ev_pr (k : Nat) : Option (List ev_I × Nat × Nat × Nat) := match ev_ml[k]? with
  | some (_, _, mL, _, np, own, cd, _) => some (cd, mL, np, own)
  | none => none
def ev_E (scr : List Int32) : Nat → Nat → List ev_I → Nat → List Value → List Value → ev_H → Option (Option Value × ev_H)
  | 0, _, _, _, _, _, _ => none
  | n + 1, d, cd, pc, ls, st, h => match ev_ft cd pc with
    | none => none
    | some i => match ev_S scr i pc ls st h with
      | none => none
      | some (.inl (pc', ls', st', h')) => ev_E scr n d cd pc' ls' st' h'
      | some (.inr (.inl v)) => some (v, h)
      | some (.inr (.inr k)) => match d with
        | 0 => none
        | d' + 1 => match ev_pr k with
          | none => match (Nat.beq k 999 && Nat.ble st.length 5), st with
            | true, .ref _ :: r => ev_E scr n (d' + 1) cd (pc + 1) ls r h
            | _, _ => none
          | some (cd', mL, np, own) => match (ev_cok i st np own h && Nat.ble (ev_wd (st.take np)) mL) with
            | false => none
            | true => match ev_E scr n d' cd' 0 (ev_lay (st.take np).reverse mL) [] h with
              | none => none
              | some (v, h') => ev_E scr n (d' + 1) cd (pc + 1) ls (v.toList ++ st.drop np) h'
/-- it comes to an end, with r -/
def ev_V (scr : List Int32) (d : Nat) (cd : List ev_I) (pc : Nat) (ls st : List Value) (h : ev_H) (r : Option Value × ev_H) : Prop := ∃ n, ev_E scr n d cd pc ls st h = some r
theorem ev_mono (scr : List Int32) : ∀ (n d : Nat) (cd : List ev_I) (pc : Nat) (ls st : List Value) (h : ev_H) (r : Option Value × ev_H), ev_E scr n d cd pc ls st h = some r → ∀ n' d', n ≤ n' → d ≤ d' → ev_E scr n' d' cd pc ls st h = some r := by
  intro n
  induction n with
  | zero => intro d cd pc ls st h r hr; cases hr
  | succ n ih =>
    intro d cd pc ls st h r hr n' d' hn hd
    obtain ⟨m, rfl⟩ : ∃ m, n' = m + 1 := ⟨n' - 1, by omega⟩
    have hm : n ≤ m := by omega
    unfold ev_E at hr ⊢
    cases hf : ev_ft cd pc with
    | none => rw [hf] at hr; cases hr
    | some i =>
      rw [hf] at hr
      dsimp only at hr ⊢
      cases hs : ev_S scr i pc ls st h with
      | none => rw [hs] at hr; cases hr
      | some q =>
        rw [hs] at hr
        match q, hr with
        | .inl (pc', ls', st', h'), hr => exact ih _ _ _ _ _ _ _ hr _ _ hm hd
        | .inr (.inl v), hr => exact hr
        | .inr (.inr k), hr =>
          dsimp only at hr ⊢
          cases d with
          | zero => cases hr
          | succ d0 =>
            obtain ⟨e, rfl⟩ : ∃ e, d' = e + 1 := ⟨d' - 1, by omega⟩
            dsimp only at hr ⊢
            cases hp : ev_pr k with
            | none =>
              rw [hp] at hr
              dsimp only at hr ⊢
              split at hr
              next => exact ih _ _ _ _ _ _ _ hr _ _ hm hd
              next => cases hr
            | some M =>
              obtain ⟨cd', mL, np, own⟩ := M
              rw [hp] at hr
              dsimp only at hr ⊢
              cases hc : (ev_cok i st np own h && Nat.ble (ev_wd (st.take np)) mL) with
              | false => rw [hc] at hr; cases hr
              | true =>
                rw [hc] at hr
                dsimp only at hr ⊢
                cases he : ev_E scr n d0 cd' 0 (ev_lay (st.take np).reverse mL) [] h with
                | none => rw [he] at hr; cases hr
                | some w =>
                  obtain ⟨v, h'⟩ := w
                  rw [he] at hr
                  rw [ih _ _ _ _ _ _ _ he m e hm (by omega)]
                  exact ih _ _ _ _ _ _ _ hr _ _ hm hd
section EV
variable {scr : List Int32} {d : Nat} {cd : List ev_I} {pc : Nat} {ls st : List Value} {h : ev_H} {r : Option Value × ev_H}
theorem ev_V.more {d' : Nat} (hd : d ≤ d') (H : ev_V scr d cd pc ls st h r) : ev_V scr d' cd pc ls st h r := by
  obtain ⟨n, e⟩ := H
  exact ⟨n, ev_mono scr _ _ _ _ _ _ _ _ e _ _ (Nat.le_refl n) hd⟩
theorem ev_step {i : ev_I} {pc' : Nat} {ls' st' : List Value} {h' : ev_H} (hf : ev_ft cd pc = some i) (hs : ev_S scr i pc ls st h = some (.inl (pc', ls', st', h'))) (K : ev_V scr d cd pc' ls' st' h' r) : ev_V scr d cd pc ls st h r := by
  obtain ⟨n, e⟩ := K
  refine ⟨n + 1, ?_⟩
  unfold ev_E
  rw [hf]
  dsimp only
  rw [hs]
  exact e
theorem ev_ret {i : ev_I} {v : Option Value} (hf : ev_ft cd pc = some i) (hs : ev_S scr i pc ls st h = some (.inr (.inl v))) : ev_V scr d cd pc ls st h (v, h) := by
  refine ⟨1, ?_⟩
  unfold ev_E
  rw [hf]
  dsimp only
  rw [hs]
theorem ev_call {i : ev_I} {k d' : Nat} {cd' : List ev_I} {mL np own : Nat} {v : Option Value} {h' : ev_H} (hf : ev_ft cd pc = some i) (hs : ev_S scr i pc ls st h = some (.inr (.inr k))) (hp : ev_pr k = some (cd', mL, np, own)) (hc : (ev_cok i st np own h && Nat.ble (ev_wd (st.take np)) mL) = true) (hd : d' < d)
    (C : ev_V scr d' cd' 0 (ev_lay (st.take np).reverse mL) [] h (v, h')) (K : ev_V scr d cd (pc + 1) ls (v.toList ++ st.drop np) h' r) : ev_V scr d cd pc ls st h r := by
  obtain ⟨d0, rfl⟩ : ∃ d0, d = d0 + 1 := ⟨d - 1, by omega⟩
  obtain ⟨n1, e1⟩ := C
  obtain ⟨n2, e2⟩ := K
  refine ⟨max n1 n2 + 1, ?_⟩
  unfold ev_E
  rw [hf]
  dsimp only
  rw [hs]
  dsimp only
  rw [hp]
  dsimp only
  rw [hc]
  dsimp only
  rw [ev_mono scr _ _ _ _ _ _ _ _ e1 (max n1 n2) d0 (by omega) (by omega)]
  exact ev_mono scr _ _ _ _ _ _ _ _ e2 _ _ (by omega) (Nat.le_refl _)
/-- as far as it goes without cells and without turning off -/
def ev_run : Nat → List ev_I → Nat → List Value → List Value → Nat × List Value × List Value
  | 0, _, pc, ls, st => (pc, ls, st)
  | n + 1, cd, pc, ls, st => match ev_ft cd pc with
    | none => (pc, ls, st)
    | some i => match ev_xP i pc ls st with
      | none => (pc, ls, st)
      | some (pc', ls', st') => ev_run n cd pc' ls' st'
theorem ev_go (n : Nat) {pc' : Nat} {ls' st' : List Value} (hr : ev_run n cd pc ls st = (pc', ls', st')) (K : ev_V scr d cd pc' ls' st' h r) : ev_V scr d cd pc ls st h r := by
  induction n generalizing pc ls st with
  | zero => cases hr; exact K
  | succ n ih =>
    unfold ev_run at hr
    cases hf : ev_ft cd pc with
    | none => rw [hf] at hr; cases hr; exact K
    | some i =>
      rw [hf] at hr
      dsimp only at hr
      cases hx : ev_xP i pc ls st with
      | none => rw [hx] at hr; cases hr; exact K
      | some q =>
        obtain ⟨p1, l1, s1⟩ := q
        rw [hx] at hr
        refine ev_step (pc' := p1) (ls' := l1) (st' := s1) (h' := h) hf ?_ (ih hr)
        unfold ev_S
        rw [hx]
end EV
