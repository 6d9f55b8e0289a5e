/-! the tables of java/lang/Math -/
def fl_jm : List (Nat × Nat × Nat) := []
theorem fv_jm : ∀ q ∈ fl_jm, ∃ r0 : vw_C, classes[q.2.1]? = some r0 ∧ q.2.2 < r0.2.2 ∧ Jvm.Cond.fieldLink "java/lang/Math" q.1 (r0.2.1 q.2.2).1 (r0.2.1 q.2.2).2.1 (r0.2.1 q.2.2).2.2.1 ∈ hp_Ts := (fun _ h => absurd h List.not_mem_nil)
def cl_jm : List (Nat × Nat × hp_Y) := []
theorem cv_jm : ∀ q ∈ cl_jm, hp_vcall "java/lang/Math" q.1 q.2.1 q.2.2 := (fun _ h => absurd h List.not_mem_nil)
def it_jm : List (Nat × Int32) := []
theorem iv_jm : ∀ q ∈ it_jm, Jvm.Cond.constant "java/lang/Math" q.1 q.2 ∈ hp_Ts := (fun _ h => absurd h List.not_mem_nil)
def lo_jm : List (Nat × Int64) := []
theorem lv_jm : ∀ q ∈ lo_jm, Jvm.Cond.constantLong "java/lang/Math" q.1 q.2 ∈ hp_Ts := (fun _ h => absurd h List.not_mem_nil)
def ne_jm : List (Nat × Nat) := []
theorem nv_jm : ∀ q ∈ ne_jm, ∃ r0 : vw_C, classes[q.2]? = some r0 ∧ Jvm.Cond.classLink "java/lang/Math" q.1 r0.1 ∈ hp_Ts := (fun _ h => absurd h List.not_mem_nil)
def ex_jm : List (Nat × Nat) := []
def K_jm_max : List (Nat × Instr) := [(0, .iload_n 0), (1, .iload_n 1), (2, .if_icmp .lt (7)), (5, .iload_n 0), (6, .goto (4)), (9, .iload_n 1), (10, .ireturn)]
def T_jm_max : hp_T := ("java/lang/Math", K_jm_max, fl_jm, cl_jm, ne_jm, ex_jm, it_jm, lo_jm)
theorem V_jm_max : hp_val T_jm_max Y_jm_max := ⟨hp_okc_of (by decide +kernel), fv_jm, cv_jm, iv_jm, lv_jm, nv_jm⟩
def K_jm_min : List (Nat × Instr) := [(0, .iload_n 0), (1, .iload_n 1), (2, .if_icmp .gt (7)), (5, .iload_n 0), (6, .goto (4)), (9, .iload_n 1), (10, .ireturn)]
def T_jm_min : hp_T := ("java/lang/Math", K_jm_min, fl_jm, cl_jm, ne_jm, ex_jm, it_jm, lo_jm)
theorem V_jm_min : hp_val T_jm_min Y_jm_min := ⟨hp_okc_of (by decide +kernel), fv_jm, cv_jm, iv_jm, lv_jm, nv_jm⟩
