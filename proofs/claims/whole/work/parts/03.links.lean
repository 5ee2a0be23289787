/-! The words of the tables, by their places; what each resolved instruction owes to the bytes. -/
def ev_UW : List Cond := lw_tbl.filter goodWord
theorem ev_mem (i : Nat) {w : Cond} (h : tables_1[i]? = some w) (hg : goodWord w = true) : w ∈ ev_UW := List.mem_filter.mpr ⟨List.mem_append_right _ (List.mem_of_getElem? h), hg⟩
theorem ev_memp (i n : Nat) {y : MethodName} (h : lw_privs[i]? = some (y, n)) (hg : goodWord (Cond.selects y.cls y y) = true) : Cond.selects y.cls y y ∈ ev_UW :=
  List.mem_filter.mpr ⟨List.mem_append_left _ (List.mem_map.mpr ⟨(y, n), List.mem_of_getElem? h, rfl⟩), hg⟩
def ev_M (mi : Nat) : ev_MT := ev_ml.getD mi (yL_law, cL_law, 0, none, 0, 0, [], [])
abbrev ev_y (mi : Nat) : MethodName := (ev_M mi).1
abbrev ev_b (mi : Nat) : ByteArray := (ev_M mi).2.1
abbrev ev_L (mi : Nat) : Nat := (ev_M mi).2.2.1
abbrev ev_r (mi : Nat) : Option FieldType := (ev_M mi).2.2.2.1
abbrev ev_np (mi : Nat) : Nat := (ev_M mi).2.2.2.2.1
abbrev ev_o (mi : Nat) : Nat := (ev_M mi).2.2.2.2.2.1
abbrev ev_cd (mi : Nat) : List ev_I := (ev_M mi).2.2.2.2.2.2.1
abbrev ev_pb (mi : Nat) : List Nat := (ev_M mi).2.2.2.2.2.2.2
def ev_T (c : Nat) : u_T := match c with
  | 0 => TX0
  | 1 => TX1
  | 2 => TX2
  | 3 => TX3
  | 4 => TX4
  | 5 => TX5
  | _ => TX6
def ev_ty (c : Nat) : Nat → FieldType := match c with
  | 0 => tyX0
  | 1 => tyX1
  | 2 => tyX2
  | 3 => tyX3
  | 4 => tyX4
  | 5 => tyX5
  | _ => tyX6
def ev_N (c : Nat) : Nat := match c with
  | 0 => 5
  | 1 => 6
  | 2 => 3
  | 3 => 15
  | 4 => 14
  | 5 => 12
  | _ => 26
def ev_lays : List (Nat × Nat × Nat) := [(0, 0, 203), (0, 1, 205), (0, 2, 207), (0, 3, 209), (0, 4, 211), (1, 0, 174), (1, 1, 176), (1, 2, 178), (1, 3, 180), (1, 4, 182), (1, 5, 184), (2, 0, 225), (2, 1, 227), (2, 2, 229), (3, 0, 127), (3, 1, 129), (3, 2, 131), (3, 3, 133), (3, 4, 135), (3, 5, 137), (3, 6, 139), (3, 7, 141), (3, 8, 143), (3, 9, 145), (3, 10, 147), (3, 11, 149), (3, 12, 151), (3, 13, 153), (3, 14, 155), (4, 0, 70), (4, 1, 72), (4, 2, 74), (4, 3, 76), (4, 4, 78), (4, 5, 80), (4, 6, 82), (4, 7, 84), (4, 8, 86), (4, 9, 88), (4, 10, 90), (4, 11, 92), (4, 12, 94), (4, 13, 96), (5, 0, 244), (5, 1, 246), (5, 2, 248), (5, 3, 250), (5, 4, 252), (5, 5, 254), (5, 6, 256), (5, 7, 258), (5, 8, 260), (5, 9, 262), (5, 10, 264), (5, 11, 266), (6, 0, 829), (6, 1, 831), (6, 2, 833), (6, 3, 835), (6, 4, 837), (6, 5, 839), (6, 6, 841), (6, 7, 843), (6, 8, 845), (6, 9, 847), (6, 10, 849), (6, 11, 851), (6, 12, 853), (6, 13, 855), (6, 14, 857), (6, 15, 859), (6, 16, 861), (6, 17, 863), (6, 18, 865), (6, 19, 867), (6, 20, 869), (6, 21, 871), (6, 22, 873), (6, 23, 875), (6, 24, 877), (6, 25, 879)]
theorem ev_lays_ok : ev_lays.all (fun e => decide (tables_1[e.2.2]? = some (u_lay (ev_cn e.1) (ev_T e.1) e.2.1)) && goodWord (u_lay (ev_cn e.1) (ev_T e.1) e.2.1)) = true := by decide +kernel
/-- (own class, pool place, field) -/
def ev_fls : List (Nat × Nat × Nat) := [(0, 9, 0), (0, 15, 1), (0, 24, 2), (0, 27, 3), (0, 30, 4), (0, 58, 133), (0, 61, 140), (0, 65, 136), (0, 68, 141), (1, 9, 32), (1, 15, 35), (1, 18, 36), (1, 21, 37), (1, 24, 34), (1, 29, 33), (1, 37, 128), (1, 49, 134), (1, 52, 139), (1, 63, 132), (1, 74, 129), (1, 77, 130), (2, 9, 65), (2, 15, 66), (2, 19, 64), (3, 11, 106), (3, 23, 103), (3, 33, 96), (3, 36, 100), (3, 40, 101), (3, 43, 99), (3, 52, 97), (3, 55, 98), (3, 58, 102), (3, 61, 107), (3, 65, 108), (3, 68, 109), (3, 71, 110), (3, 86, 139), (3, 89, 104), (3, 103, 105), (3, 109, 128), (3, 132, 129), (3, 135, 130), (4, 9, 129), (4, 15, 130), (4, 18, 134), (4, 22, 135), (4, 25, 136), (4, 28, 137), (4, 31, 138), (4, 34, 139), (4, 37, 140), (4, 40, 141), (4, 43, 128), (4, 46, 131), (4, 49, 132), (4, 52, 133), (5, 10, 160), (5, 16, 161), (5, 19, 162), (5, 23, 163), (5, 29, 164), (5, 33, 165), (5, 40, 166), (5, 47, 167), (5, 54, 168), (5, 59, 169), (5, 67, 97), (5, 70, 170), (5, 73, 98), (5, 80, 96), (5, 83, 128), (5, 86, 129), (5, 89, 130), (5, 92, 131), (5, 95, 132), (5, 106, 134), (5, 110, 135), (5, 113, 136), (5, 116, 137), (5, 119, 138), (5, 131, 139), (5, 209, 33), (5, 212, 32), (5, 221, 133), (5, 224, 140), (5, 227, 141), (5, 233, 0), (5, 236, 1), (5, 239, 2), (5, 245, 3), (5, 248, 4), (5, 255, 64), (5, 267, 66), (5, 270, 171), (5, 281, 65), (6, 7, 192), (6, 13, 193), (6, 16, 194), (6, 20, 196), (6, 23, 197), (6, 26, 199), (6, 29, 203), (6, 32, 211), (6, 35, 212), (6, 38, 213), (6, 41, 214), (6, 44, 215), (6, 47, 217), (6, 56, 198), (6, 60, 200), (6, 63, 201), (6, 66, 202), (6, 69, 195), (6, 78, 204), (6, 81, 209), (6, 84, 206), (6, 87, 210), (6, 90, 205), (6, 105, 207), (6, 116, 208), (6, 301, 216)]
def ev_flp : List Nat := [193, 195, 197, 199, 201, 46, 65, 54, 68, 166, 171, 172, 173, 170, 168, 29, 49, 61, 43, 34, 38, 221, 223, 219, 122, 119, 109, 116, 117, 115, 111, 113, 118, 123, 124, 125, 126, 62, 120, 121, 31, 35, 39, 32, 36, 48, 51, 53, 56, 58, 60, 64, 67, 28, 40, 42, 45, 232, 233, 234, 235, 236, 237, 238, 239, 240, 241, 112, 242, 114, 110, 30, 33, 37, 41, 44, 50, 52, 55, 57, 59, 63, 169, 167, 47, 66, 69, 194, 196, 198, 200, 202, 220, 224, 243, 222, 803, 804, 805, 807, 808, 810, 814, 822, 823, 824, 825, 826, 828, 809, 811, 812, 813, 806, 815, 820, 817, 821, 816, 818, 819, 827]
abbrev ev_flw (e : Nat × Nat × Nat) : Cond := .fieldLink (ev_cn e.1) e.2.1 (ev_T (e.2.2 / 32) (e.2.2 % 32)).1 (ev_T (e.2.2 / 32) (e.2.2 % 32)).2.1 (ev_T (e.2.2 / 32) (e.2.2 % 32)).2.2.1
theorem ev_fls_ok : (ev_fls.zip ev_flp).all (fun e => decide (tables_1[e.2]? = some (ev_flw e.1)) && goodWord (ev_flw e.1)) = true := by decide +kernel
def ev_cons : List (Nat × Nat × Int32) := [(1, 28, 1000000), (5, 251, 1103515245), (5, 290, 1000000), (6, 261, 1000000000), (6, 285, 1103515245), (8, 265, 1431655765), (8, 266, 858993459), (8, 267, 252645135)]
def ev_conp : List Nat := [644, 739, 677, 1143, 1207, 331, 332, 333]
theorem ev_cons_ok : (ev_cons.zip ev_conp).all (fun e => decide (tables_1[e.2]? = some (Cond.constant (ev_cn e.1.1) e.1.2.1 e.1.2.2)) && goodWord (Cond.constant (ev_cn e.1.1) e.1.2.1 e.1.2.2)) = true := by decide +kernel
def ev_lcons : List (Nat × Nat × Int64) := [(5, 192, -1), (5, 291, 10), (6, 72, 127), (6, 108, 97), (6, 110, 122), (6, 112, 48), (6, 114, 57), (6, 147, 4), (6, 149, 5), (6, 165, 3), (6, 211, 9), (6, 216, 99), (6, 250, -1), (6, 252, 10), (6, 283, 60), (6, 290, 2), (6, 296, 20)]
def ev_lconp : List Nat := [616, 625, 886, 906, 907, 908, 909, 930, 931, 1002, 1058, 1066, 1123, 1124, 1206, 1227, 1236]
theorem ev_lcons_ok : (ev_lcons.zip ev_lconp).all (fun e => decide (tables_1[e.2]? = some (Cond.constantLong (ev_cn e.1.1) e.1.2.1 e.1.2.2)) && goodWord (Cond.constantLong (ev_cn e.1.1) e.1.2.1 e.1.2.2)) = true := by decide +kernel
/-- (pool place in the Teller, text) -/
def ev_strs : List (Nat × Nat) := [(162, 10), (164, 11), (166, 12), (168, 13), (170, 14), (171, 15), (173, 16), (175, 17)]
def ev_txt (k : Nat) : String := ["calm", "quarrel", "saint", "wander", "fine", "watch", "most", "kin"].getD k ""
/-- static fields: class, name, descriptor -/
def ev_sf (j : Nat) : String × String × String := [("java/lang/String", "COMPACT_STRINGS", "Z"), ("TenPledges$Teller", "NUMBERS", "[I"), ("TenPledges$Teller", "LOWEST", "[I"), ("TenPledges$Teller", "HIGHEST", "[I"), ("jdk/internal/util/Preconditions", "SIOOBE_FORMATTER", "Ljava/util/function/BiFunction;")].getD j ("", "", "")
def ev_sv (j : Nat) : Value := match j with
  | 0 => .int 1
  | j => .retAddr j
/-- (own class, pool place, static field) -/
def ev_stats : List (Nat × Nat × Nat) := [(3, 112, 1), (3, 122, 2), (3, 125, 3), (10, 38, 0), (10, 1053, 4)]
def ev_statp : List Nat := [405, 411, 413, 365, 381]
abbrev ev_stw (e : Nat × Nat × Nat) : Cond := .fieldLink (ev_cn e.1) e.2.1 (ev_sf e.2.2).1 (ev_sf e.2.2).2.1 (ev_sf e.2.2).2.2
theorem ev_stats_ok : (ev_stats.zip ev_statp).all (fun e => decide (tables_1[e.2]? = some (ev_stw e.1)) && goodWord (ev_stw e.1)) = true := by decide +kernel
/-- fields of a String: 0 value, 1 coder -/
def ev_sfs : List (Nat × Nat × Nat) := [(10, 9, 0), (10, 15, 1)]
def ev_sfp : List Nat := [1246, 1247]
def ev_sfn (j : Nat) : String × String := match j with
  | 0 => ("value", "[B")
  | _ => ("coder", "B")
abbrev ev_sfw (e : Nat × Nat × Nat) : Cond := .fieldLink (ev_cn e.1) e.2.1 "java/lang/String" (ev_sfn e.2.2).1 (ev_sfn e.2.2).2
theorem ev_sfs_ok : (ev_sfs.zip ev_sfp).all (fun e => decide (tables_1[e.2]? = some (ev_sfw e.1)) && goodWord (ev_sfw e.1)) = true := by decide +kernel
def ev_cls : List (Nat × Nat × Nat) := [(5, 7, 4), (5, 27, 2), (5, 37, 3), (5, 44, 1), (5, 51, 0), (7, 7, 5), (7, 10, 6)]
def ev_clp : List Nat := [22, 101, 103, 160, 187, 14, 789]
theorem ev_cls_ok : (ev_cls.zip ev_clp).all (fun e => decide (tables_1[e.2]? = some (Cond.classLink (ev_cn e.1.1) e.1.2.1 (ev_cn e.1.2.2))) && goodWord (Cond.classLink (ev_cn e.1.1) e.1.2.1 (ev_cn e.1.2.2))) = true := by decide +kernel
theorem ev_inst_ok : ([188, 161, 214, 104, 23, 15, 790].zip [0, 1, 2, 3, 4, 5, 6]).all (fun e => decide (tables_1[e.1]? = some (Cond.instantiable (ev_cn e.2) (ev_N e.2))) && goodWord (Cond.instantiable (ev_cn e.2) (ev_N e.2))) = true := by decide +kernel
theorem ev_init_ok : ([5, 4, 6, 3, 2, 1, 7, 0, 8, 13, 9, 10, 11].zip [0, 1, 2, 3, 4, 5, 6, 7, 8, 9, 10, 11, 12]).all (fun e => decide (tables_1[e.1]? = some (Cond.initialized (ev_cn e.2))) && goodWord (Cond.initialized (ev_cn e.2))) = true := by decide +kernel
