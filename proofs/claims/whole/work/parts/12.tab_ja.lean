/-! the tables of java/util/Arrays -/
def fl_ja : List (Nat × Nat × Nat) := []
theorem fv_ja : ∀ q ∈ fl_ja, ∃ r0 : vw_C, classes[q.2.1]? = some r0 ∧ q.2.2 < r0.2.2 ∧ Jvm.Cond.fieldLink "java/util/Arrays" q.1 (r0.2.1 q.2.2).1 (r0.2.1 q.2.2).2.1 (r0.2.1 q.2.2).2.2.1 ∈ hp_Ts := (fun _ h => absurd h List.not_mem_nil)
def cl_ja : List (Nat × Nat × hp_Y) := []
theorem cv_ja : ∀ q ∈ cl_ja, hp_vcall "java/util/Arrays" q.1 q.2.1 q.2.2 := (fun _ h => absurd h List.not_mem_nil)
def it_ja : List (Nat × Int32) := []
theorem iv_ja : ∀ q ∈ it_ja, Jvm.Cond.constant "java/util/Arrays" q.1 q.2 ∈ hp_Ts := (fun _ h => absurd h List.not_mem_nil)
def lo_ja : List (Nat × Int64) := []
theorem lv_ja : ∀ q ∈ lo_ja, Jvm.Cond.constantLong "java/util/Arrays" q.1 q.2 ∈ hp_Ts := (fun _ h => absurd h List.not_mem_nil)
def ne_ja : List (Nat × Nat) := []
theorem nv_ja : ∀ q ∈ ne_ja, ∃ r0 : vw_C, classes[q.2]? = some r0 ∧ Jvm.Cond.classLink "java/util/Arrays" q.1 r0.1 ∈ hp_Ts := (fun _ h => absurd h List.not_mem_nil)
def ex_ja : List (Nat × Nat) := []
def K_ja_fill : List (Nat × Instr) := [(0, .iconst 0), (1, .istore_n 3), (2, .aload_n 0), (3, .arraylength), (4, .istore 4), (6, .iload_n 3), (7, .iload 4), (9, .if_icmp .ge (13)), (12, .aload_n 0), (13, .iload_n 3), (14, .lload_n 1), (15, .lastore), (16, .iinc 3 (1)), (19, .goto (-13)), (22, .return_)]
def T_ja_fill : hp_T := ("java/util/Arrays", K_ja_fill, fl_ja, cl_ja, ne_ja, ex_ja, it_ja, lo_ja)
theorem V_ja_fill : hp_val T_ja_fill Y_ja_fill := ⟨hp_okc_of (by decide +kernel), fv_ja, cv_ja, iv_ja, lv_ja, nv_ja⟩
