/-! What a resolved instruction owes to the bytes. -/
def ev_rt (t : Nat) : FieldType := match t with
  | 0 => .boolean
  | 1 => .byte
  | _ => .char
def ev_fin (i : Nat) : Bool := (ev_T (i / 32) (i % 32)).2.2.2
def ev_pok (oi : Nat) (ini : Bool) (i : Nat) : Bool := decide (i / 32 < 7) && decide (i % 32 < ev_N (i / 32)) && (!ev_fin i || (ini && decide ((ev_T (i / 32) (i % 32)).1 = ev_cn oi)))
def ev_isR (t : FieldType) : Bool := match t with
  | .object _ => true
  | .array _ => true
  | _ => false
def ev_tg (pb : List Nat) (t : Int) : Int := (pb.getD t.toNat 0 : Int)
def ev_okR (oi : Nat) (ini : Bool) (ret : Option FieldType) (pb : List Nat) (pc nx len : Nat) (res : ev_I) (raw : Instr) : Bool := match res with
  | .inr v => decide (nx = pc + len) && (match raw with
    | .iconst n => decide (v = .int (Int32.ofInt n)) && decide (len = 1)
    | .bipush n => decide (v = .int (Int8.ofInt n).toInt32) && decide (len = 2)
    | .sipush n => decide (v = .int (Int16.ofInt n).toInt32) && decide (len = 3)
    | .lconst n => decide (v = .long (Int64.ofNat n.val)) && decide (len = 1)
    | .ldc ix => decide (len = 2) && (match v with
      | .int x => decide ((oi, ix, x) ∈ ev_cons)
      | .retAddr k => decide (oi = 3) && decide ((ix, k) ∈ ev_strs)
      | _ => false)
    | .ldc_w ix => decide (len = 3) && (match v with
      | .int x => decide ((oi, ix, x) ∈ ev_cons)
      | _ => false)
    | .ldc2_w ix => decide (len = 3) && (match v with
      | .long x => decide ((oi, ix, x) ∈ ev_lcons)
      | _ => false)
    | .getstatic ix => decide (len = 3) && ev_stats.any (fun e => decide (e.1 = oi) && decide (e.2.1 = ix) && decide (ev_sv e.2.2 = v))
    | _ => false)
  | .inl ins => match ins with
    | .iload k => decide (nx = pc + len) && (match raw with
      | .iload_n n => decide (n.val = k) && decide (len = 1)
      | .iload n => decide (n = k) && decide (len = 2)
      | _ => false)
    | .lload k => decide (nx = pc + len) && (match raw with
      | .lload_n n => decide (n.val = k) && decide (len = 1)
      | .lload n => decide (n = k) && decide (len = 2)
      | _ => false)
    | .aload k => decide (nx = pc + len) && (match raw with
      | .aload_n n => decide (n.val = k) && decide (len = 1)
      | .aload n => decide (n = k) && decide (len = 2)
      | _ => false)
    | .istore k => decide (nx = pc + len) && (match raw with
      | .istore_n n => decide (n.val = k) && decide (len = 1)
      | .istore n => decide (n = k) && decide (len = 2)
      | _ => false)
    | .lstore k => decide (nx = pc + len) && (match raw with
      | .lstore_n n => decide (n.val = k) && decide (len = 1)
      | .lstore n => decide (n = k) && decide (len = 2)
      | _ => false)
    | .astore k => decide (nx = pc + len) && (match raw with
      | .astore_n n => decide (n.val = k) && decide (len = 1)
      | .astore n => decide (n = k) && decide (len = 2)
      | _ => false)
    | .iinc k n => decide (raw = .iinc k n) && decide (len = 3) && decide (nx = pc + 3)
    | .goto t => match raw with
      | .goto off => decide ((pc : Int) + off = ev_tg pb t) && decide (len = 3)
      | _ => false
    | .if_icmp c t => match raw with
      | .if_icmp c' off => decide (c' = c) && decide ((pc : Int) + off = ev_tg pb t) && decide (len = 3) && decide (nx = pc + 3)
      | _ => false
    | .ifCond c t => match raw with
      | .ifCond c' off => decide (c' = c) && decide ((pc : Int) + off = ev_tg pb t) && decide (len = 3) && decide (nx = pc + 3)
      | _ => false
    | .tableswitch d lo hi offs => match raw with
      | .tableswitch d' lo' hi' offs' => decide (lo' = lo) && decide (hi' = hi) && decide ((pc : Int) + d' = ev_tg pb d) && decide (offs'.toList.map (fun o => (pc : Int) + o) = offs.toList.map (ev_tg pb)) && decide (hi < lo + offs.size)
      | _ => false
    | .lookupswitch d ps => match raw with
      | .lookupswitch d' ps' => decide ((pc : Int) + d' = ev_tg pb d) && decide (ps'.toList.map (fun o => (o.1, (pc : Int) + o.2)) = ps.toList.map (fun t => (t.1, ev_tg pb t.2))) && (ps'.toList.zip (ps'.toList.drop 1)).all (fun (a, next) => decide (a.1 < next.1))
      | _ => false
    | .getfield i => match raw with
      | .getfield ix => decide (len = 3) && decide (nx = pc + 3) && decide ((oi, ix, i) ∈ ev_fls) && decide (i / 32 < 7) && decide (i % 32 < ev_N (i / 32))
      | _ => false
    | .putfield i => match raw with
      | .putfield ix => decide (len = 3) && decide (nx = pc + 3) && decide ((oi, ix, i) ∈ ev_fls) && ev_pok oi ini i && decide (ev_ty (i / 32) (i % 32) = .int)
      | _ => false
    | .multianewarray i _ => match raw with
      | .putfield ix => decide (len = 3) && decide (nx = pc + 3) && decide ((oi, ix, i) ∈ ev_fls) && ev_pok oi ini i && decide (ev_ty (i / 32) (i % 32) = .boolean)
      | _ => false
    | .putstatic i => match raw with
      | .putfield ix => decide (len = 3) && decide (nx = pc + 3) && decide ((oi, ix, i) ∈ ev_fls) && ev_pok oi ini i && ev_isR (ev_ty (i / 32) (i % 32))
      | _ => false
    | .dload k => match raw with
      | .getfield ix => decide (len = 3) && decide (nx = pc + 3) && decide ((oi, ix, k) ∈ ev_sfs)
      | _ => false
    | .faload => decide (raw = .iaload) && decide (len = 1) && decide (nx = pc + 1)
    | .caload => decide (raw = .baload) && decide (len = 1) && decide (nx = pc + 1)
    | .new c => match raw with
      | .new ix => decide (len = 3) && decide (nx = pc + 3) && decide ((oi, ix, c) ∈ ev_cls) && decide (c < 7)
      | _ => false
    | .newarray t => decide (raw = .newarray t) && decide (len = 2) && decide (nx = pc + 2)
    | .anewarray c => match raw with
      | .anewarray ix => decide (len = 3) && decide (nx = pc + 3) && decide ((oi, ix, c) ∈ ev_cls) && (decide (c = 4) || decide (c = 2))
      | _ => false
    | .invokevirtual k => match raw with
      | .invokevirtual ix => decide (len = 3) && decide (nx = pc + 3) && decide ((0, oi, ix, k) ∈ ev_mls)
      | _ => false
    | .invokestatic k => match raw with
      | .invokestatic ix => decide (len = 3) && decide (nx = pc + 3) && (decide ((1, oi, ix, k) ∈ ev_mls) || decide ((2, oi, ix, k) ∈ ev_mns))
      | _ => false
    | .invokespecial k => match raw with
      | .invokespecial ix => decide (len = 3) && decide (nx = pc + 3) && (decide ((3, oi, ix, k) ∈ ev_mls) || decide ((4, oi, ix, k) ∈ ev_mns))
      | _ => false
    | .monitorexit => match raw with
      | .invokespecial ix => decide (len = 3) && decide (nx = pc + 3) && decide ((oi, ix) ∈ ev_mos)
      | _ => false
    | .ireturn => decide (raw = .ireturn) && decide (len = 1) && decide (ret = some .int)
    | .ret t => decide (raw = .ireturn) && decide (len = 1) && decide (ret = some (ev_rt t))
    | .lreturn => decide (raw = .lreturn) && decide (len = 1) && decide (ret = some .long)
    | .areturn => decide (raw = .areturn) && decide (len = 1) && decide (ret = some (.object "java/lang/String"))
    | .return_ => decide (raw = .return_) && decide (len = 1) && decide (ret = none)
    | ins => decide (raw = ins) && decide (len = 1) && decide (nx = pc + 1)
def ev_okI (oi : Nat) (ini : Bool) (ret : Option FieldType) (b : ByteArray) (pb : List Nat) (pc nx : Nat) (res : ev_I) : Bool := match res with
  | .inl .nop => decide (nx = pc)
  | .inl .athrow => true
  | res => match decode b pc with
    | .ok (raw, len) => ev_okR oi ini ret pb pc nx len res raw
    | _ => false
def ev_okL (oi : Nat) (ini : Bool) (ret : Option FieldType) (b : ByteArray) (pb : List Nat) : List ev_I → List Nat → Bool
  | [], _ => true
  | i :: cd, p :: ps => ev_okI oi ini ret b pb p (ps.getD 0 0) i && ev_okL oi ini ret b pb cd ps
  | _ :: _, [] => false
def ev_ini (mi : Nat) : Bool := decide ((ev_y mi).name = "<init>")
abbrev ev_okM (mi : Nat) : Prop := ev_okL (ev_o mi) (ev_ini mi) (ev_r mi) (ev_b mi) (ev_pb mi) (ev_cd mi) (ev_pb mi) = true
theorem ev_okL_cut (oi : Nat) (ini : Bool) (ret : Option FieldType) (b : ByteArray) (pb : List Nat) : ∀ (n : Nat) (cd : List ev_I) (ps : List Nat), ev_okL oi ini ret b pb (cd.take n) ps = true → ev_okL oi ini ret b pb (cd.drop n) (ps.drop n) = true → ev_okL oi ini ret b pb cd ps = true
  | 0, cd, ps, _, h2 => h2
  | n + 1, [], ps, _, _ => rfl
  | n + 1, i :: cd, [], h1, _ => by cases h1
  | n + 1, i :: cd, p :: ps, h1, h2 => by
    simp only [List.take_succ_cons, ev_okL, Bool.and_eq_true] at h1 ⊢
    exact ⟨h1.1, ev_okL_cut oi ini ret b pb n cd ps h1.2 h2⟩
theorem ev_k0 : ev_okM 0 := by decide +kernel
theorem ev_k1 : ev_okM 1 := by decide +kernel
theorem ev_k2 : ev_okM 2 := by decide +kernel
theorem ev_k3 : ev_okM 3 := by decide +kernel
theorem ev_k4 : ev_okM 4 := by decide +kernel
theorem ev_k5 : ev_okM 5 := by decide +kernel
theorem ev_k6 : ev_okM 6 := by decide +kernel
theorem ev_k7 : ev_okM 7 := by decide +kernel
theorem ev_k8 : ev_okM 8 := by decide +kernel
theorem ev_k9 : ev_okM 9 := by decide +kernel
theorem ev_k10 : ev_okM 10 := by decide +kernel
theorem ev_k11 : ev_okM 11 := by decide +kernel
theorem ev_k12 : ev_okM 12 := by decide +kernel
theorem ev_k13 : ev_okM 13 := by decide +kernel
theorem ev_k14 : ev_okM 14 := by decide +kernel
theorem ev_k15 : ev_okM 15 := by decide +kernel
theorem ev_k16 : ev_okM 16 := by decide +kernel
theorem ev_k17 : ev_okM 17 := by decide +kernel
theorem ev_k18 : ev_okM 18 := by decide +kernel
theorem ev_k19 : ev_okM 19 := by decide +kernel
theorem ev_k20 : ev_okM 20 := by decide +kernel
theorem ev_k21 : ev_okM 21 := by decide +kernel
theorem ev_k22 : ev_okM 22 := by decide +kernel
theorem ev_k23 : ev_okM 23 := by decide +kernel
theorem ev_k24 : ev_okM 24 := by decide +kernel
theorem ev_k25 : ev_okM 25 := by decide +kernel
theorem ev_k26 : ev_okM 26 := by decide +kernel
theorem ev_k27 : ev_okM 27 := by decide +kernel
theorem ev_k28 : ev_okM 28 := by decide +kernel
theorem ev_k29 : ev_okM 29 := by decide +kernel
theorem ev_k30 : ev_okM 30 := by decide +kernel
theorem ev_k31 : ev_okM 31 := by decide +kernel
theorem ev_k32 : ev_okM 32 := by decide +kernel
theorem ev_k33 : ev_okM 33 := by decide +kernel
theorem ev_k34 : ev_okM 34 := by decide +kernel
theorem ev_k35 : ev_okM 35 := by decide +kernel
theorem ev_k36 : ev_okM 36 := by decide +kernel
theorem ev_k37 : ev_okM 37 := by decide +kernel
theorem ev_k38 : ev_okM 38 := by decide +kernel
theorem ev_k39 : ev_okM 39 := by decide +kernel
theorem ev_k40 : ev_okM 40 := by decide +kernel
theorem ev_k41 : ev_okM 41 := by decide +kernel
theorem ev_k42 : ev_okM 42 := by decide +kernel
theorem ev_k43 : ev_okM 43 := by decide +kernel
theorem ev_k44 : ev_okM 44 := by decide +kernel
theorem ev_k45 : ev_okM 45 := by decide +kernel
theorem ev_k46 : ev_okM 46 := by decide +kernel
theorem ev_k47 : ev_okM 47 := by decide +kernel
theorem ev_k48 : ev_okM 48 := by decide +kernel
theorem ev_k49 : ev_okM 49 := by decide +kernel
theorem ev_k50 : ev_okM 50 := by decide +kernel
theorem ev_k51 : ev_okM 51 := by decide +kernel
theorem ev_k52 : ev_okM 52 := by decide +kernel
theorem ev_k53 : ev_okM 53 := by decide +kernel
theorem ev_k54 : ev_okM 54 := by decide +kernel
theorem ev_k55 : ev_okM 55 := by decide +kernel
theorem ev_k56 : ev_okM 56 := by decide +kernel
theorem ev_k57 : ev_okM 57 := by decide +kernel
theorem ev_k58 : ev_okM 58 := by decide +kernel
theorem ev_k59 : ev_okM 59 := by decide +kernel
theorem ev_k60 : ev_okM 60 := by decide +kernel
theorem ev_k61 : ev_okM 61 := by decide +kernel
theorem ev_k62 : ev_okM 62 := by decide +kernel
theorem ev_k63 : ev_okM 63 := by decide +kernel
theorem ev_k64 : ev_okM 64 := by decide +kernel
theorem ev_k65 : ev_okM 65 := by decide +kernel
theorem ev_k66 : ev_okM 66 := by decide +kernel
theorem ev_k67 : ev_okM 67 := by decide +kernel
theorem ev_k68 : ev_okM 68 := by decide +kernel
theorem ev_k69 : ev_okM 69 := by decide +kernel
theorem ev_k70 : ev_okM 70 := by decide +kernel
theorem ev_k71 : ev_okM 71 := by decide +kernel
theorem ev_k72 : ev_okM 72 := by decide +kernel
theorem ev_k73 : ev_okM 73 := by decide +kernel
theorem ev_k74 : ev_okM 74 := by decide +kernel
theorem ev_k75 : ev_okM 75 := by decide +kernel
theorem ev_k76 : ev_okM 76 := by decide +kernel
theorem ev_k77 : ev_okM 77 := by decide +kernel
theorem ev_k78 : ev_okM 78 := by decide +kernel
theorem ev_k79 : ev_okM 79 := by decide +kernel
theorem ev_k80 : ev_okM 80 := by decide +kernel
theorem ev_k81 : ev_okM 81 := by decide +kernel
theorem ev_k82 : ev_okM 82 := by decide +kernel
theorem ev_k83 : ev_okM 83 := by decide +kernel
theorem ev_k84 : ev_okM 84 := by decide +kernel
theorem ev_k85 : ev_okM 85 := by decide +kernel
theorem ev_k86 : ev_okM 86 := by decide +kernel
theorem ev_k87 : ev_okM 87 := by decide +kernel
theorem ev_k88 : ev_okM 88 := by decide +kernel
theorem ev_k89 : ev_okM 89 := by decide +kernel
theorem ev_k90 : ev_okM 90 := by decide +kernel
theorem ev_k91 : ev_okM 91 := by decide +kernel
theorem ev_k92 : ev_okM 92 := by decide +kernel
theorem ev_k93 : ev_okM 93 := by decide +kernel
theorem ev_k94 : ev_okM 94 := by decide +kernel
theorem ev_k95 : ev_okM 95 := by decide +kernel
theorem ev_k96 : ev_okM 96 := by decide +kernel
theorem ev_k97 : ev_okM 97 := by decide +kernel
theorem ev_k98 : ev_okM 98 := by decide +kernel
theorem ev_k99 : ev_okM 99 := by decide +kernel
theorem ev_k100 : ev_okM 100 := by decide +kernel
theorem ev_k101 : ev_okM 101 := by decide +kernel
theorem ev_k102 : ev_okM 102 := by decide +kernel
theorem ev_k103 : ev_okM 103 := by decide +kernel
theorem ev_k104 : ev_okM 104 := by decide +kernel
theorem ev_k105 : ev_okM 105 := by decide +kernel
theorem ev_k106 : ev_okM 106 := by decide +kernel
theorem ev_k107 : ev_okM 107 := by decide +kernel
theorem ev_k108 : ev_okM 108 := by decide +kernel
theorem ev_k109 : ev_okM 109 := by decide +kernel
theorem ev_k110 : ev_okM 110 := by decide +kernel
theorem ev_k111 : ev_okM 111 := by decide +kernel
theorem ev_k112 : ev_okM 112 := by decide +kernel
theorem ev_k113 : ev_okM 113 := by decide +kernel
theorem ev_k114 : ev_okM 114 := by decide +kernel
theorem ev_k115 : ev_okM 115 := by decide +kernel
theorem ev_k116 : ev_okM 116 := by decide +kernel
theorem ev_k117 : ev_okM 117 := by decide +kernel
theorem ev_k118 : ev_okM 118 := by decide +kernel
theorem ev_k119 : ev_okM 119 := by decide +kernel
theorem ev_k120 : ev_okM 120 := by decide +kernel
theorem ev_k121 : ev_okM 121 := by decide +kernel
theorem ev_k122 : ev_okM 122 := by decide +kernel
theorem ev_k123 : ev_okM 123 := by decide +kernel
theorem ev_k124 : ev_okM 124 := by decide +kernel
theorem ev_k125 : ev_okM 125 := by decide +kernel
theorem ev_k126 : ev_okM 126 := by decide +kernel
theorem ev_k127 : ev_okM 127 := by decide +kernel
theorem ev_k128 : ev_okM 128 := by decide +kernel
theorem ev_k129 : ev_okM 129 := by decide +kernel
theorem ev_k130 : ev_okM 130 := by decide +kernel
theorem ev_k131 : ev_okM 131 := by decide +kernel
theorem ev_k132 : ev_okM 132 := by decide +kernel
theorem ev_k133 : ev_okM 133 := by decide +kernel
theorem ev_k134 : ev_okM 134 := by decide +kernel
theorem ev_k135 : ev_okM 135 := by decide +kernel
theorem ev_k136 : ev_okM 136 := by decide +kernel
theorem ev_k137 : ev_okM 137 := by decide +kernel
theorem ev_k138 : ev_okM 138 := by decide +kernel
theorem ev_k139 : ev_okM 139 := by decide +kernel
theorem ev_k140 : ev_okM 140 := by decide +kernel
theorem ev_k141 : ev_okM 141 := by decide +kernel
theorem ev_k142 : ev_okM 142 := by decide +kernel
theorem ev_k143 : ev_okM 143 := by decide +kernel
theorem ev_k144 : ev_okM 144 := by decide +kernel
theorem ev_k145 : ev_okM 145 := by decide +kernel
theorem ev_k146 : ev_okM 146 := by decide +kernel
theorem ev_k147 : ev_okM 147 := by decide +kernel
theorem ev_k148 : ev_okM 148 := by decide +kernel
theorem ev_k149 : ev_okM 149 := by decide +kernel
theorem ev_k150 : ev_okM 150 := by decide +kernel
theorem ev_k151 : ev_okM 151 := by decide +kernel
theorem ev_k152 : ev_okM 152 := by decide +kernel
theorem ev_k153 : ev_okM 153 := by decide +kernel
theorem ev_k154 : ev_okM 154 := by decide +kernel
theorem ev_k155 : ev_okM 155 := by decide +kernel
theorem ev_k156 : ev_okM 156 := by decide +kernel
theorem ev_k157 : ev_okM 157 := by decide +kernel
theorem ev_k158 : ev_okM 158 := by decide +kernel
theorem ev_k159 : ev_okM 159 := by decide +kernel
theorem ev_k160 : ev_okM 160 := by decide +kernel
theorem ev_k161 : ev_okM 161 := by decide +kernel
theorem ev_k162 : ev_okM 162 := by decide +kernel
theorem ev_k163 : ev_okM 163 := by decide +kernel
theorem ev_k164 : ev_okM 164 := by decide +kernel
theorem ev_k165 : ev_okM 165 := by decide +kernel
theorem ev_k166 : ev_okM 166 := by decide +kernel
theorem ev_k167 : ev_okM 167 := by decide +kernel
theorem ev_k168 : ev_okM 168 := by decide +kernel
theorem ev_k169 : ev_okM 169 := by decide +kernel
theorem ev_k170 : ev_okM 170 := by decide +kernel
theorem ev_k171 : ev_okM 171 := by decide +kernel
theorem ev_k172 : ev_okM 172 := by decide +kernel
theorem ev_k173 : ev_okM 173 := by decide +kernel
theorem ev_k174 : ev_okM 174 := by decide +kernel
theorem ev_k175 : ev_okM 175 := by decide +kernel
theorem ev_k176 : ev_okM 176 := by decide +kernel
theorem ev_k177 : ev_okM 177 := by decide +kernel
theorem ev_k178 : ev_okM 178 := by decide +kernel
theorem ev_k179 : ev_okM 179 := by decide +kernel
theorem ev_k180 : ev_okM 180 := by decide +kernel
theorem ev_k181 : ev_okM 181 := by decide +kernel
theorem ev_k182 : ev_okM 182 := by decide +kernel
theorem ev_k183 : ev_okM 183 := by decide +kernel
theorem ev_k184 : ev_okM 184 := by decide +kernel
theorem ev_k185 : ev_okM 185 := by decide +kernel
theorem ev_k186 : ev_okM 186 := by decide +kernel
theorem ev_k187 : ev_okM 187 := by decide +kernel
theorem ev_k188 : ev_okM 188 := by decide +kernel
theorem ev_k189 : ev_okM 189 := by decide +kernel
theorem ev_k190 : ev_okM 190 := by decide +kernel
theorem ev_k191 : ev_okM 191 := by decide +kernel
theorem ev_k192 : ev_okM 192 := by decide +kernel
theorem ev_k193 : ev_okM 193 := by decide +kernel
theorem ev_k194 : ev_okM 194 := by decide +kernel
theorem ev_k195 : ev_okM 195 := by decide +kernel
theorem ev_k196 : ev_okM 196 := by decide +kernel
theorem ev_k197 : ev_okM 197 := by decide +kernel
theorem ev_k198 : ev_okM 198 := by decide +kernel
theorem ev_k199 : ev_okM 199 := by decide +kernel
theorem ev_k200 : ev_okM 200 := by decide +kernel
theorem ev_k201 : ev_okM 201 := by decide +kernel
theorem ev_k202 : ev_okM 202 := by decide +kernel
theorem ev_k203 : ev_okM 203 := by decide +kernel
theorem ev_k204 : ev_okM 204 := by decide +kernel
theorem ev_k205 : ev_okM 205 := by decide +kernel
theorem ev_k206 : ev_okM 206 := by decide +kernel
theorem ev_k207 : ev_okM 207 := by decide +kernel
theorem ev_k208 : ev_okM 208 := by decide +kernel
theorem ev_k209 : ev_okM 209 := by decide +kernel
theorem ev_k210 : ev_okM 210 := by decide +kernel
theorem ev_k211 : ev_okM 211 := by decide +kernel
theorem ev_k212 : ev_okM 212 := by decide +kernel
theorem ev_kl0 : ev_okL (ev_o 213) (ev_ini 213) (ev_r 213) (ev_b 213) (ev_pb 213) ((cd_L_law.drop 0).take 40) (pb_L_law.drop 0) = true := by decide +kernel
theorem ev_kl40 : ev_okL (ev_o 213) (ev_ini 213) (ev_r 213) (ev_b 213) (ev_pb 213) ((cd_L_law.drop 40).take 40) (pb_L_law.drop 40) = true := by decide +kernel
theorem ev_kl80 : ev_okL (ev_o 213) (ev_ini 213) (ev_r 213) (ev_b 213) (ev_pb 213) ((cd_L_law.drop 80).take 40) (pb_L_law.drop 80) = true := by decide +kernel
theorem ev_kl120 : ev_okL (ev_o 213) (ev_ini 213) (ev_r 213) (ev_b 213) (ev_pb 213) ((cd_L_law.drop 120).take 40) (pb_L_law.drop 120) = true := by decide +kernel
theorem ev_kl160 : ev_okL (ev_o 213) (ev_ini 213) (ev_r 213) (ev_b 213) (ev_pb 213) ((cd_L_law.drop 160).take 40) (pb_L_law.drop 160) = true := by decide +kernel
theorem ev_kl200 : ev_okL (ev_o 213) (ev_ini 213) (ev_r 213) (ev_b 213) (ev_pb 213) ((cd_L_law.drop 200).take 40) (pb_L_law.drop 200) = true := by decide +kernel
theorem ev_kl240 : ev_okL (ev_o 213) (ev_ini 213) (ev_r 213) (ev_b 213) (ev_pb 213) ((cd_L_law.drop 240).take 40) (pb_L_law.drop 240) = true := by decide +kernel
theorem ev_kl280 : ev_okL (ev_o 213) (ev_ini 213) (ev_r 213) (ev_b 213) (ev_pb 213) ((cd_L_law.drop 280).take 40) (pb_L_law.drop 280) = true := by decide +kernel
theorem ev_kl320 : ev_okL (ev_o 213) (ev_ini 213) (ev_r 213) (ev_b 213) (ev_pb 213) ((cd_L_law.drop 320).take 40) (pb_L_law.drop 320) = true := by decide +kernel
theorem ev_kl360 : ev_okL (ev_o 213) (ev_ini 213) (ev_r 213) (ev_b 213) (ev_pb 213) ((cd_L_law.drop 360).take 40) (pb_L_law.drop 360) = true := by decide +kernel
theorem ev_kl400 : ev_okL (ev_o 213) (ev_ini 213) (ev_r 213) (ev_b 213) (ev_pb 213) ((cd_L_law.drop 400).take 40) (pb_L_law.drop 400) = true := by decide +kernel
theorem ev_kl440 : ev_okL (ev_o 213) (ev_ini 213) (ev_r 213) (ev_b 213) (ev_pb 213) ((cd_L_law.drop 440).take 40) (pb_L_law.drop 440) = true := by decide +kernel
theorem ev_kl480 : ev_okL (ev_o 213) (ev_ini 213) (ev_r 213) (ev_b 213) (ev_pb 213) ((cd_L_law.drop 480).take 40) (pb_L_law.drop 480) = true := by decide +kernel
theorem ev_kl520 : ev_okL (ev_o 213) (ev_ini 213) (ev_r 213) (ev_b 213) (ev_pb 213) ((cd_L_law.drop 520).take 40) (pb_L_law.drop 520) = true := by decide +kernel
theorem ev_kl560 : ev_okL (ev_o 213) (ev_ini 213) (ev_r 213) (ev_b 213) (ev_pb 213) ((cd_L_law.drop 560).take 40) (pb_L_law.drop 560) = true := by decide +kernel
theorem ev_kl600 : ev_okL (ev_o 213) (ev_ini 213) (ev_r 213) (ev_b 213) (ev_pb 213) ((cd_L_law.drop 600).take 40) (pb_L_law.drop 600) = true := by decide +kernel
theorem ev_kl640 : ev_okL (ev_o 213) (ev_ini 213) (ev_r 213) (ev_b 213) (ev_pb 213) ((cd_L_law.drop 640).take 40) (pb_L_law.drop 640) = true := by decide +kernel
theorem ev_kl680 : ev_okL (ev_o 213) (ev_ini 213) (ev_r 213) (ev_b 213) (ev_pb 213) ((cd_L_law.drop 680).take 40) (pb_L_law.drop 680) = true := by decide +kernel
theorem ev_kl720 : ev_okL (ev_o 213) (ev_ini 213) (ev_r 213) (ev_b 213) (ev_pb 213) ((cd_L_law.drop 720).take 40) (pb_L_law.drop 720) = true := by decide +kernel
theorem ev_kl760 : ev_okL (ev_o 213) (ev_ini 213) (ev_r 213) (ev_b 213) (ev_pb 213) ((cd_L_law.drop 760).take 40) (pb_L_law.drop 760) = true := by decide +kernel
theorem ev_kl800 : ev_okL (ev_o 213) (ev_ini 213) (ev_r 213) (ev_b 213) (ev_pb 213) ((cd_L_law.drop 800).take 40) (pb_L_law.drop 800) = true := by decide +kernel
theorem ev_kl840 : ev_okL (ev_o 213) (ev_ini 213) (ev_r 213) (ev_b 213) (ev_pb 213) ((cd_L_law.drop 840).take 40) (pb_L_law.drop 840) = true := by decide +kernel
theorem ev_kl880 : ev_okL (ev_o 213) (ev_ini 213) (ev_r 213) (ev_b 213) (ev_pb 213) ((cd_L_law.drop 880).take 40) (pb_L_law.drop 880) = true := by decide +kernel
theorem ev_kd920 : ev_okL (ev_o 213) (ev_ini 213) (ev_r 213) (ev_b 213) (ev_pb 213) (cd_L_law.drop 920) (pb_L_law.drop 920) = true := by decide +kernel
theorem ev_kd880 : ev_okL (ev_o 213) (ev_ini 213) (ev_r 213) (ev_b 213) (ev_pb 213) (cd_L_law.drop 880) (pb_L_law.drop 880) = true := ev_okL_cut _ _ _ _ _ 40 _ _ ev_kl880 (by rw [List.drop_drop, List.drop_drop]; exact ev_kd920)
theorem ev_kd840 : ev_okL (ev_o 213) (ev_ini 213) (ev_r 213) (ev_b 213) (ev_pb 213) (cd_L_law.drop 840) (pb_L_law.drop 840) = true := ev_okL_cut _ _ _ _ _ 40 _ _ ev_kl840 (by rw [List.drop_drop, List.drop_drop]; exact ev_kd880)
theorem ev_kd800 : ev_okL (ev_o 213) (ev_ini 213) (ev_r 213) (ev_b 213) (ev_pb 213) (cd_L_law.drop 800) (pb_L_law.drop 800) = true := ev_okL_cut _ _ _ _ _ 40 _ _ ev_kl800 (by rw [List.drop_drop, List.drop_drop]; exact ev_kd840)
theorem ev_kd760 : ev_okL (ev_o 213) (ev_ini 213) (ev_r 213) (ev_b 213) (ev_pb 213) (cd_L_law.drop 760) (pb_L_law.drop 760) = true := ev_okL_cut _ _ _ _ _ 40 _ _ ev_kl760 (by rw [List.drop_drop, List.drop_drop]; exact ev_kd800)
theorem ev_kd720 : ev_okL (ev_o 213) (ev_ini 213) (ev_r 213) (ev_b 213) (ev_pb 213) (cd_L_law.drop 720) (pb_L_law.drop 720) = true := ev_okL_cut _ _ _ _ _ 40 _ _ ev_kl720 (by rw [List.drop_drop, List.drop_drop]; exact ev_kd760)
theorem ev_kd680 : ev_okL (ev_o 213) (ev_ini 213) (ev_r 213) (ev_b 213) (ev_pb 213) (cd_L_law.drop 680) (pb_L_law.drop 680) = true := ev_okL_cut _ _ _ _ _ 40 _ _ ev_kl680 (by rw [List.drop_drop, List.drop_drop]; exact ev_kd720)
theorem ev_kd640 : ev_okL (ev_o 213) (ev_ini 213) (ev_r 213) (ev_b 213) (ev_pb 213) (cd_L_law.drop 640) (pb_L_law.drop 640) = true := ev_okL_cut _ _ _ _ _ 40 _ _ ev_kl640 (by rw [List.drop_drop, List.drop_drop]; exact ev_kd680)
theorem ev_kd600 : ev_okL (ev_o 213) (ev_ini 213) (ev_r 213) (ev_b 213) (ev_pb 213) (cd_L_law.drop 600) (pb_L_law.drop 600) = true := ev_okL_cut _ _ _ _ _ 40 _ _ ev_kl600 (by rw [List.drop_drop, List.drop_drop]; exact ev_kd640)
theorem ev_kd560 : ev_okL (ev_o 213) (ev_ini 213) (ev_r 213) (ev_b 213) (ev_pb 213) (cd_L_law.drop 560) (pb_L_law.drop 560) = true := ev_okL_cut _ _ _ _ _ 40 _ _ ev_kl560 (by rw [List.drop_drop, List.drop_drop]; exact ev_kd600)
theorem ev_kd520 : ev_okL (ev_o 213) (ev_ini 213) (ev_r 213) (ev_b 213) (ev_pb 213) (cd_L_law.drop 520) (pb_L_law.drop 520) = true := ev_okL_cut _ _ _ _ _ 40 _ _ ev_kl520 (by rw [List.drop_drop, List.drop_drop]; exact ev_kd560)
theorem ev_kd480 : ev_okL (ev_o 213) (ev_ini 213) (ev_r 213) (ev_b 213) (ev_pb 213) (cd_L_law.drop 480) (pb_L_law.drop 480) = true := ev_okL_cut _ _ _ _ _ 40 _ _ ev_kl480 (by rw [List.drop_drop, List.drop_drop]; exact ev_kd520)
theorem ev_kd440 : ev_okL (ev_o 213) (ev_ini 213) (ev_r 213) (ev_b 213) (ev_pb 213) (cd_L_law.drop 440) (pb_L_law.drop 440) = true := ev_okL_cut _ _ _ _ _ 40 _ _ ev_kl440 (by rw [List.drop_drop, List.drop_drop]; exact ev_kd480)
theorem ev_kd400 : ev_okL (ev_o 213) (ev_ini 213) (ev_r 213) (ev_b 213) (ev_pb 213) (cd_L_law.drop 400) (pb_L_law.drop 400) = true := ev_okL_cut _ _ _ _ _ 40 _ _ ev_kl400 (by rw [List.drop_drop, List.drop_drop]; exact ev_kd440)
theorem ev_kd360 : ev_okL (ev_o 213) (ev_ini 213) (ev_r 213) (ev_b 213) (ev_pb 213) (cd_L_law.drop 360) (pb_L_law.drop 360) = true := ev_okL_cut _ _ _ _ _ 40 _ _ ev_kl360 (by rw [List.drop_drop, List.drop_drop]; exact ev_kd400)
theorem ev_kd320 : ev_okL (ev_o 213) (ev_ini 213) (ev_r 213) (ev_b 213) (ev_pb 213) (cd_L_law.drop 320) (pb_L_law.drop 320) = true := ev_okL_cut _ _ _ _ _ 40 _ _ ev_kl320 (by rw [List.drop_drop, List.drop_drop]; exact ev_kd360)
theorem ev_kd280 : ev_okL (ev_o 213) (ev_ini 213) (ev_r 213) (ev_b 213) (ev_pb 213) (cd_L_law.drop 280) (pb_L_law.drop 280) = true := ev_okL_cut _ _ _ _ _ 40 _ _ ev_kl280 (by rw [List.drop_drop, List.drop_drop]; exact ev_kd320)
theorem ev_kd240 : ev_okL (ev_o 213) (ev_ini 213) (ev_r 213) (ev_b 213) (ev_pb 213) (cd_L_law.drop 240) (pb_L_law.drop 240) = true := ev_okL_cut _ _ _ _ _ 40 _ _ ev_kl240 (by rw [List.drop_drop, List.drop_drop]; exact ev_kd280)
theorem ev_kd200 : ev_okL (ev_o 213) (ev_ini 213) (ev_r 213) (ev_b 213) (ev_pb 213) (cd_L_law.drop 200) (pb_L_law.drop 200) = true := ev_okL_cut _ _ _ _ _ 40 _ _ ev_kl200 (by rw [List.drop_drop, List.drop_drop]; exact ev_kd240)
theorem ev_kd160 : ev_okL (ev_o 213) (ev_ini 213) (ev_r 213) (ev_b 213) (ev_pb 213) (cd_L_law.drop 160) (pb_L_law.drop 160) = true := ev_okL_cut _ _ _ _ _ 40 _ _ ev_kl160 (by rw [List.drop_drop, List.drop_drop]; exact ev_kd200)
theorem ev_kd120 : ev_okL (ev_o 213) (ev_ini 213) (ev_r 213) (ev_b 213) (ev_pb 213) (cd_L_law.drop 120) (pb_L_law.drop 120) = true := ev_okL_cut _ _ _ _ _ 40 _ _ ev_kl120 (by rw [List.drop_drop, List.drop_drop]; exact ev_kd160)
theorem ev_kd80 : ev_okL (ev_o 213) (ev_ini 213) (ev_r 213) (ev_b 213) (ev_pb 213) (cd_L_law.drop 80) (pb_L_law.drop 80) = true := ev_okL_cut _ _ _ _ _ 40 _ _ ev_kl80 (by rw [List.drop_drop, List.drop_drop]; exact ev_kd120)
theorem ev_kd40 : ev_okL (ev_o 213) (ev_ini 213) (ev_r 213) (ev_b 213) (ev_pb 213) (cd_L_law.drop 40) (pb_L_law.drop 40) = true := ev_okL_cut _ _ _ _ _ 40 _ _ ev_kl40 (by rw [List.drop_drop, List.drop_drop]; exact ev_kd80)
theorem ev_kd0 : ev_okL (ev_o 213) (ev_ini 213) (ev_r 213) (ev_b 213) (ev_pb 213) (cd_L_law.drop 0) (pb_L_law.drop 0) = true := ev_okL_cut _ _ _ _ _ 40 _ _ ev_kl0 (by rw [List.drop_drop, List.drop_drop]; exact ev_kd40)
theorem ev_k213 : ev_okM 213 := ev_kd0
theorem ev_ok (mi : Nat) (h : mi < 214) : ev_okM mi := by
  match mi, h with
  | 0, _ => exact ev_k0
  | 1, _ => exact ev_k1
  | 2, _ => exact ev_k2
  | 3, _ => exact ev_k3
  | 4, _ => exact ev_k4
  | 5, _ => exact ev_k5
  | 6, _ => exact ev_k6
  | 7, _ => exact ev_k7
  | 8, _ => exact ev_k8
  | 9, _ => exact ev_k9
  | 10, _ => exact ev_k10
  | 11, _ => exact ev_k11
  | 12, _ => exact ev_k12
  | 13, _ => exact ev_k13
  | 14, _ => exact ev_k14
  | 15, _ => exact ev_k15
  | 16, _ => exact ev_k16
  | 17, _ => exact ev_k17
  | 18, _ => exact ev_k18
  | 19, _ => exact ev_k19
  | 20, _ => exact ev_k20
  | 21, _ => exact ev_k21
  | 22, _ => exact ev_k22
  | 23, _ => exact ev_k23
  | 24, _ => exact ev_k24
  | 25, _ => exact ev_k25
  | 26, _ => exact ev_k26
  | 27, _ => exact ev_k27
  | 28, _ => exact ev_k28
  | 29, _ => exact ev_k29
  | 30, _ => exact ev_k30
  | 31, _ => exact ev_k31
  | 32, _ => exact ev_k32
  | 33, _ => exact ev_k33
  | 34, _ => exact ev_k34
  | 35, _ => exact ev_k35
  | 36, _ => exact ev_k36
  | 37, _ => exact ev_k37
  | 38, _ => exact ev_k38
  | 39, _ => exact ev_k39
  | 40, _ => exact ev_k40
  | 41, _ => exact ev_k41
  | 42, _ => exact ev_k42
  | 43, _ => exact ev_k43
  | 44, _ => exact ev_k44
  | 45, _ => exact ev_k45
  | 46, _ => exact ev_k46
  | 47, _ => exact ev_k47
  | 48, _ => exact ev_k48
  | 49, _ => exact ev_k49
  | 50, _ => exact ev_k50
  | 51, _ => exact ev_k51
  | 52, _ => exact ev_k52
  | 53, _ => exact ev_k53
  | 54, _ => exact ev_k54
  | 55, _ => exact ev_k55
  | 56, _ => exact ev_k56
  | 57, _ => exact ev_k57
  | 58, _ => exact ev_k58
  | 59, _ => exact ev_k59
  | 60, _ => exact ev_k60
  | 61, _ => exact ev_k61
  | 62, _ => exact ev_k62
  | 63, _ => exact ev_k63
  | 64, _ => exact ev_k64
  | 65, _ => exact ev_k65
  | 66, _ => exact ev_k66
  | 67, _ => exact ev_k67
  | 68, _ => exact ev_k68
  | 69, _ => exact ev_k69
  | 70, _ => exact ev_k70
  | 71, _ => exact ev_k71
  | 72, _ => exact ev_k72
  | 73, _ => exact ev_k73
  | 74, _ => exact ev_k74
  | 75, _ => exact ev_k75
  | 76, _ => exact ev_k76
  | 77, _ => exact ev_k77
  | 78, _ => exact ev_k78
  | 79, _ => exact ev_k79
  | 80, _ => exact ev_k80
  | 81, _ => exact ev_k81
  | 82, _ => exact ev_k82
  | 83, _ => exact ev_k83
  | 84, _ => exact ev_k84
  | 85, _ => exact ev_k85
  | 86, _ => exact ev_k86
  | 87, _ => exact ev_k87
  | 88, _ => exact ev_k88
  | 89, _ => exact ev_k89
  | 90, _ => exact ev_k90
  | 91, _ => exact ev_k91
  | 92, _ => exact ev_k92
  | 93, _ => exact ev_k93
  | 94, _ => exact ev_k94
  | 95, _ => exact ev_k95
  | 96, _ => exact ev_k96
  | 97, _ => exact ev_k97
  | 98, _ => exact ev_k98
  | 99, _ => exact ev_k99
  | 100, _ => exact ev_k100
  | 101, _ => exact ev_k101
  | 102, _ => exact ev_k102
  | 103, _ => exact ev_k103
  | 104, _ => exact ev_k104
  | 105, _ => exact ev_k105
  | 106, _ => exact ev_k106
  | 107, _ => exact ev_k107
  | 108, _ => exact ev_k108
  | 109, _ => exact ev_k109
  | 110, _ => exact ev_k110
  | 111, _ => exact ev_k111
  | 112, _ => exact ev_k112
  | 113, _ => exact ev_k113
  | 114, _ => exact ev_k114
  | 115, _ => exact ev_k115
  | 116, _ => exact ev_k116
  | 117, _ => exact ev_k117
  | 118, _ => exact ev_k118
  | 119, _ => exact ev_k119
  | 120, _ => exact ev_k120
  | 121, _ => exact ev_k121
  | 122, _ => exact ev_k122
  | 123, _ => exact ev_k123
  | 124, _ => exact ev_k124
  | 125, _ => exact ev_k125
  | 126, _ => exact ev_k126
  | 127, _ => exact ev_k127
  | 128, _ => exact ev_k128
  | 129, _ => exact ev_k129
  | 130, _ => exact ev_k130
  | 131, _ => exact ev_k131
  | 132, _ => exact ev_k132
  | 133, _ => exact ev_k133
  | 134, _ => exact ev_k134
  | 135, _ => exact ev_k135
  | 136, _ => exact ev_k136
  | 137, _ => exact ev_k137
  | 138, _ => exact ev_k138
  | 139, _ => exact ev_k139
  | 140, _ => exact ev_k140
  | 141, _ => exact ev_k141
  | 142, _ => exact ev_k142
  | 143, _ => exact ev_k143
  | 144, _ => exact ev_k144
  | 145, _ => exact ev_k145
  | 146, _ => exact ev_k146
  | 147, _ => exact ev_k147
  | 148, _ => exact ev_k148
  | 149, _ => exact ev_k149
  | 150, _ => exact ev_k150
  | 151, _ => exact ev_k151
  | 152, _ => exact ev_k152
  | 153, _ => exact ev_k153
  | 154, _ => exact ev_k154
  | 155, _ => exact ev_k155
  | 156, _ => exact ev_k156
  | 157, _ => exact ev_k157
  | 158, _ => exact ev_k158
  | 159, _ => exact ev_k159
  | 160, _ => exact ev_k160
  | 161, _ => exact ev_k161
  | 162, _ => exact ev_k162
  | 163, _ => exact ev_k163
  | 164, _ => exact ev_k164
  | 165, _ => exact ev_k165
  | 166, _ => exact ev_k166
  | 167, _ => exact ev_k167
  | 168, _ => exact ev_k168
  | 169, _ => exact ev_k169
  | 170, _ => exact ev_k170
  | 171, _ => exact ev_k171
  | 172, _ => exact ev_k172
  | 173, _ => exact ev_k173
  | 174, _ => exact ev_k174
  | 175, _ => exact ev_k175
  | 176, _ => exact ev_k176
  | 177, _ => exact ev_k177
  | 178, _ => exact ev_k178
  | 179, _ => exact ev_k179
  | 180, _ => exact ev_k180
  | 181, _ => exact ev_k181
  | 182, _ => exact ev_k182
  | 183, _ => exact ev_k183
  | 184, _ => exact ev_k184
  | 185, _ => exact ev_k185
  | 186, _ => exact ev_k186
  | 187, _ => exact ev_k187
  | 188, _ => exact ev_k188
  | 189, _ => exact ev_k189
  | 190, _ => exact ev_k190
  | 191, _ => exact ev_k191
  | 192, _ => exact ev_k192
  | 193, _ => exact ev_k193
  | 194, _ => exact ev_k194
  | 195, _ => exact ev_k195
  | 196, _ => exact ev_k196
  | 197, _ => exact ev_k197
  | 198, _ => exact ev_k198
  | 199, _ => exact ev_k199
  | 200, _ => exact ev_k200
  | 201, _ => exact ev_k201
  | 202, _ => exact ev_k202
  | 203, _ => exact ev_k203
  | 204, _ => exact ev_k204
  | 205, _ => exact ev_k205
  | 206, _ => exact ev_k206
  | 207, _ => exact ev_k207
  | 208, _ => exact ev_k208
  | 209, _ => exact ev_k209
  | 210, _ => exact ev_k210
  | 211, _ => exact ev_k211
  | 212, _ => exact ev_k212
  | 213, _ => exact ev_k213
  | n + 214, hi => exact absurd hi (by omega)
