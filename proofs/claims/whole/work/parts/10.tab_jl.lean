/-! the tables of java/lang/Long -/
def fl_jl : List (Nat × Nat × Nat) := []
theorem fv_jl : ∀ q ∈ fl_jl, ∃ r0 : vw_C, classes[q.2.1]? = some r0 ∧ q.2.2 < r0.2.2 ∧ Jvm.Cond.fieldLink "java/lang/Long" q.1 (r0.2.1 q.2.2).1 (r0.2.1 q.2.2).2.1 (r0.2.1 q.2.2).2.2.1 ∈ hp_Ts := (fun _ h => absurd h List.not_mem_nil)
def cl_jl : List (Nat × Nat × hp_Y) := []
theorem cv_jl : ∀ q ∈ cl_jl, hp_vcall "java/lang/Long" q.1 q.2.1 q.2.2 := (fun _ h => absurd h List.not_mem_nil)
def it_jl : List (Nat × Int32) := []
theorem iv_jl : ∀ q ∈ it_jl, Jvm.Cond.constant "java/lang/Long" q.1 q.2 ∈ hp_Ts := (fun _ h => absurd h List.not_mem_nil)
def lo_jl : List (Nat × Int64) := [(314, 6148914691236517205), (316, 3689348814741910323), (318, 1085102592571150095)]
theorem lv_jl : ∀ q ∈ lo_jl, Jvm.Cond.constantLong "java/lang/Long" q.1 q.2 ∈ hp_Ts := List.forall_mem_cons.mpr ⟨tm_in (List.mem_of_getElem? (i := 346) (by decide +kernel)), List.forall_mem_cons.mpr ⟨tm_in (List.mem_of_getElem? (i := 347) (by decide +kernel)), List.forall_mem_cons.mpr ⟨tm_in (List.mem_of_getElem? (i := 348) (by decide +kernel)), (fun _ h => absurd h List.not_mem_nil)⟩⟩⟩
def ne_jl : List (Nat × Nat) := []
theorem nv_jl : ∀ q ∈ ne_jl, ∃ r0 : vw_C, classes[q.2]? = some r0 ∧ Jvm.Cond.classLink "java/lang/Long" q.1 r0.1 ∈ hp_Ts := (fun _ h => absurd h List.not_mem_nil)
def ex_jl : List (Nat × Nat) := []
def K_jl_bitCount : List (Nat × Instr) := [(0, .lload_n 0), (1, .lload_n 0), (2, .iconst 1), (3, .lushr), (4, .ldc2_w 314), (7, .land), (8, .lsub), (9, .lstore_n 0), (10, .lload_n 0), (11, .ldc2_w 316), (14, .land), (15, .lload_n 0), (16, .iconst 2), (17, .lushr), (18, .ldc2_w 316), (21, .land), (22, .ladd), (23, .lstore_n 0), (24, .lload_n 0), (25, .lload_n 0), (26, .iconst 4), (27, .lushr), (28, .ladd), (29, .ldc2_w 318), (32, .land), (33, .lstore_n 0), (34, .lload_n 0), (35, .lload_n 0), (36, .bipush (8)), (38, .lushr), (39, .ladd), (40, .lstore_n 0), (41, .lload_n 0), (42, .lload_n 0), (43, .bipush (16)), (45, .lushr), (46, .ladd), (47, .lstore_n 0), (48, .lload_n 0), (49, .lload_n 0), (50, .bipush (32)), (52, .lushr), (53, .ladd), (54, .lstore_n 0), (55, .lload_n 0), (56, .l2i), (57, .bipush (127)), (59, .iand), (60, .ireturn)]
def T_jl_bitCount : hp_T := ("java/lang/Long", K_jl_bitCount, fl_jl, cl_jl, ne_jl, ex_jl, it_jl, lo_jl)
theorem V_jl_bitCount : hp_val T_jl_bitCount Y_jl_bitCount := ⟨hp_okc_of (by decide +kernel), fv_jl, cv_jl, iv_jl, lv_jl, nv_jl⟩
