section
-- ===== PART A: goes FIRST, ahead of the names: the tables' words, and 'selects' of the private methods out of them =====
/-- a private method of a class that the tables say can be made, by its rows of tables_1 -/
def lw_okq (q : MethodName × Nat) : Prop := (q.1.cls ≠ "java/lang/invoke/MethodHandle" ∧ q.1.cls ≠ "java/lang/invoke/VarHandle") ∧ Cond.instantiable q.1.cls q.2 ∈ tables_1 ∧ Cond.privateMethod q.1 ∈ tables_1 ∧ Cond.instanceMethod q.1 ∈ tables_1
theorem lw_p0 : lw_okq (⟨"EdgeSweeps", "isBase", "(I)Z"⟩, 9) := ⟨⟨by decide +kernel, by decide +kernel⟩, List.mem_of_getElem? (i := 18) (by decide +kernel), List.mem_of_getElem? (i := 144) (by decide +kernel), List.mem_of_getElem? (i := 145) (by decide +kernel)⟩
theorem lw_p1 : lw_okq (⟨"java/lang/Throwable", "fillInStackTrace", "(I)Ljava/lang/Throwable;"⟩, 6) := ⟨⟨by decide +kernel, by decide +kernel⟩, List.mem_of_getElem? (i := 186) (by decide +kernel), List.mem_of_getElem? (i := 184) (by decide +kernel), List.mem_of_getElem? (i := 185) (by decide +kernel)⟩
theorem lw_p2 : lw_okq (⟨"EdgeSweeps$Polygons", "differInOne", "(IIII)Z"⟩, 6) := ⟨⟨by decide +kernel, by decide +kernel⟩, List.mem_of_getElem? (i := 26) (by decide +kernel), List.mem_of_getElem? (i := 279) (by decide +kernel), List.mem_of_getElem? (i := 280) (by decide +kernel)⟩
theorem lw_p3 : lw_okq (⟨"EdgeSweeps", "needLayer", "(I)V"⟩, 9) := ⟨⟨by decide +kernel, by decide +kernel⟩, List.mem_of_getElem? (i := 18) (by decide +kernel), List.mem_of_getElem? (i := 290) (by decide +kernel), List.mem_of_getElem? (i := 291) (by decide +kernel)⟩
theorem lw_p4 : lw_okq (⟨"EdgeSweeps", "needRoomForLayer", "()V"⟩, 9) := ⟨⟨by decide +kernel, by decide +kernel⟩, List.mem_of_getElem? (i := 18) (by decide +kernel), List.mem_of_getElem? (i := 298) (by decide +kernel), List.mem_of_getElem? (i := 299) (by decide +kernel)⟩
theorem lw_p5 : lw_okq (⟨"EdgeSweeps", "areaOf", "(I[J)[J"⟩, 9) := ⟨⟨by decide +kernel, by decide +kernel⟩, List.mem_of_getElem? (i := 18) (by decide +kernel), List.mem_of_getElem? (i := 304) (by decide +kernel), List.mem_of_getElem? (i := 305) (by decide +kernel)⟩
theorem lw_p6 : lw_okq (⟨"EdgeSweeps$Polygons", "isOpen", "(I)Z"⟩, 6) := ⟨⟨by decide +kernel, by decide +kernel⟩, List.mem_of_getElem? (i := 26) (by decide +kernel), List.mem_of_getElem? (i := 315) (by decide +kernel), List.mem_of_getElem? (i := 316) (by decide +kernel)⟩
theorem lw_p7 : lw_okq (⟨"EdgeSweeps$Polygons", "paintOne", "(I[J)V"⟩, 6) := ⟨⟨by decide +kernel, by decide +kernel⟩, List.mem_of_getElem? (i := 26) (by decide +kernel), List.mem_of_getElem? (i := 319) (by decide +kernel), List.mem_of_getElem? (i := 320) (by decide +kernel)⟩
theorem lw_p8 : lw_okq (⟨"EdgeSweeps$Parts", "cutRuns", "([J)V"⟩, 8) := ⟨⟨by decide +kernel, by decide +kernel⟩, List.mem_of_getElem? (i := 57) (by decide +kernel), List.mem_of_getElem? (i := 334) (by decide +kernel), List.mem_of_getElem? (i := 335) (by decide +kernel)⟩
theorem lw_p9 : lw_okq (⟨"EdgeSweeps$Parts", "joinRuns", "([J[II)V"⟩, 8) := ⟨⟨by decide +kernel, by decide +kernel⟩, List.mem_of_getElem? (i := 57) (by decide +kernel), List.mem_of_getElem? (i := 354) (by decide +kernel), List.mem_of_getElem? (i := 355) (by decide +kernel)⟩
theorem lw_p10 : lw_okq (⟨"EdgeSweeps", "markTouching", "([J[J)V"⟩, 9) := ⟨⟨by decide +kernel, by decide +kernel⟩, List.mem_of_getElem? (i := 18) (by decide +kernel), List.mem_of_getElem? (i := 382) (by decide +kernel), List.mem_of_getElem? (i := 383) (by decide +kernel)⟩
theorem lw_p11 : lw_okq (⟨"EdgeSweeps", "addMade", "()I"⟩, 9) := ⟨⟨by decide +kernel, by decide +kernel⟩, List.mem_of_getElem? (i := 18) (by decide +kernel), List.mem_of_getElem? (i := 413) (by decide +kernel), List.mem_of_getElem? (i := 414) (by decide +kernel)⟩
theorem lw_p12 : lw_okq (⟨"EdgeSweepsModel", "isLayer", "(I)Z"⟩, 23) := ⟨⟨by decide +kernel, by decide +kernel⟩, List.mem_of_getElem? (i := 589) (by decide +kernel), List.mem_of_getElem? (i := 691) (by decide +kernel), List.mem_of_getElem? (i := 692) (by decide +kernel)⟩
theorem lw_p13 : lw_okq (⟨"EdgeSweepsModel", "load", "(IZ)V"⟩, 23) := ⟨⟨by decide +kernel, by decide +kernel⟩, List.mem_of_getElem? (i := 589) (by decide +kernel), List.mem_of_getElem? (i := 695) (by decide +kernel), List.mem_of_getElem? (i := 696) (by decide +kernel)⟩
theorem lw_p14 : lw_okq (⟨"EdgeSweepsModel", "isClosed", "(I)Z"⟩, 23) := ⟨⟨by decide +kernel, by decide +kernel⟩, List.mem_of_getElem? (i := 589) (by decide +kernel), List.mem_of_getElem? (i := 699) (by decide +kernel), List.mem_of_getElem? (i := 700) (by decide +kernel)⟩
theorem lw_p15 : lw_okq (⟨"EdgeSweepsModel", "isIn", "(III)Z"⟩, 23) := ⟨⟨by decide +kernel, by decide +kernel⟩, List.mem_of_getElem? (i := 589) (by decide +kernel), List.mem_of_getElem? (i := 703) (by decide +kernel), List.mem_of_getElem? (i := 704) (by decide +kernel)⟩
def lw_privs_1 : List (MethodName × Nat) := [(⟨"EdgeSweeps", "isBase", "(I)Z"⟩, 9), (⟨"java/lang/Throwable", "fillInStackTrace", "(I)Ljava/lang/Throwable;"⟩, 6), (⟨"EdgeSweeps$Polygons", "differInOne", "(IIII)Z"⟩, 6), (⟨"EdgeSweeps", "needLayer", "(I)V"⟩, 9), (⟨"EdgeSweeps", "needRoomForLayer", "()V"⟩, 9), (⟨"EdgeSweeps", "areaOf", "(I[J)[J"⟩, 9), (⟨"EdgeSweeps$Polygons", "isOpen", "(I)Z"⟩, 6), (⟨"EdgeSweeps$Polygons", "paintOne", "(I[J)V"⟩, 6), (⟨"EdgeSweeps$Parts", "cutRuns", "([J)V"⟩, 8), (⟨"EdgeSweeps$Parts", "joinRuns", "([J[II)V"⟩, 8), (⟨"EdgeSweeps", "markTouching", "([J[J)V"⟩, 9), (⟨"EdgeSweeps", "addMade", "()I"⟩, 9), (⟨"EdgeSweepsModel", "isLayer", "(I)Z"⟩, 23), (⟨"EdgeSweepsModel", "load", "(IZ)V"⟩, 23), (⟨"EdgeSweepsModel", "isClosed", "(I)Z"⟩, 23), (⟨"EdgeSweepsModel", "isIn", "(III)Z"⟩, 23)]
theorem lw_r1 : ∀ q ∈ lw_privs_1, lw_okq q := List.forall_mem_cons.mpr ⟨lw_p0, List.forall_mem_cons.mpr ⟨lw_p1, List.forall_mem_cons.mpr ⟨lw_p2, List.forall_mem_cons.mpr ⟨lw_p3, List.forall_mem_cons.mpr ⟨lw_p4, List.forall_mem_cons.mpr ⟨lw_p5, List.forall_mem_cons.mpr ⟨lw_p6, List.forall_mem_cons.mpr ⟨lw_p7, List.forall_mem_cons.mpr ⟨lw_p8, List.forall_mem_cons.mpr ⟨lw_p9, List.forall_mem_cons.mpr ⟨lw_p10, List.forall_mem_cons.mpr ⟨lw_p11, List.forall_mem_cons.mpr ⟨lw_p12, List.forall_mem_cons.mpr ⟨lw_p13, List.forall_mem_cons.mpr ⟨lw_p14, List.forall_mem_cons.mpr ⟨lw_p15, fun _ h => absurd h List.not_mem_nil⟩⟩⟩⟩⟩⟩⟩⟩⟩⟩⟩⟩⟩⟩⟩⟩
theorem lw_p16 : lw_okq (⟨"EdgeSweepsModel", "relate", "()V"⟩, 23) := ⟨⟨by decide +kernel, by decide +kernel⟩, List.mem_of_getElem? (i := 589) (by decide +kernel), List.mem_of_getElem? (i := 707) (by decide +kernel), List.mem_of_getElem? (i := 708) (by decide +kernel)⟩
theorem lw_p17 : lw_okq (⟨"EdgeSweepsModel", "label", "()V"⟩, 23) := ⟨⟨by decide +kernel, by decide +kernel⟩, List.mem_of_getElem? (i := 589) (by decide +kernel), List.mem_of_getElem? (i := 711) (by decide +kernel), List.mem_of_getElem? (i := 712) (by decide +kernel)⟩
theorem lw_p18 : lw_okq (⟨"EdgeSweepsModel", "isOne", "(II)Z"⟩, 23) := ⟨⟨by decide +kernel, by decide +kernel⟩, List.mem_of_getElem? (i := 589) (by decide +kernel), List.mem_of_getElem? (i := 715) (by decide +kernel), List.mem_of_getElem? (i := 716) (by decide +kernel)⟩
theorem lw_p19 : lw_okq (⟨"EdgeSweepsModel", "isTwo", "(II)Z"⟩, 23) := ⟨⟨by decide +kernel, by decide +kernel⟩, List.mem_of_getElem? (i := 589) (by decide +kernel), List.mem_of_getElem? (i := 722) (by decide +kernel), List.mem_of_getElem? (i := 723) (by decide +kernel)⟩
theorem lw_p20 : lw_okq (⟨"EdgeSweepsModel", "isTouched", "(II)Z"⟩, 23) := ⟨⟨by decide +kernel, by decide +kernel⟩, List.mem_of_getElem? (i := 589) (by decide +kernel), List.mem_of_getElem? (i := 726) (by decide +kernel), List.mem_of_getElem? (i := 727) (by decide +kernel)⟩
theorem lw_p21 : lw_okq (⟨"EdgeSweepsModel", "keep", "()I"⟩, 23) := ⟨⟨by decide +kernel, by decide +kernel⟩, List.mem_of_getElem? (i := 589) (by decide +kernel), List.mem_of_getElem? (i := 731) (by decide +kernel), List.mem_of_getElem? (i := 732) (by decide +kernel)⟩
theorem lw_p22 : lw_okq (⟨"EdgeSweepsModel", "isRound", "(IIIIZ)Z"⟩, 23) := ⟨⟨by decide +kernel, by decide +kernel⟩, List.mem_of_getElem? (i := 589) (by decide +kernel), List.mem_of_getElem? (i := 740) (by decide +kernel), List.mem_of_getElem? (i := 741) (by decide +kernel)⟩
theorem lw_p23 : lw_okq (⟨"EdgeSweepsModel", "isReady", "(I)Z"⟩, 23) := ⟨⟨by decide +kernel, by decide +kernel⟩, List.mem_of_getElem? (i := 589) (by decide +kernel), List.mem_of_getElem? (i := 748) (by decide +kernel), List.mem_of_getElem? (i := 749) (by decide +kernel)⟩
theorem lw_p24 : lw_okq (⟨"EdgeSweepsModel", "isCorner", "(III)Z"⟩, 23) := ⟨⟨by decide +kernel, by decide +kernel⟩, List.mem_of_getElem? (i := 589) (by decide +kernel), List.mem_of_getElem? (i := 756) (by decide +kernel), List.mem_of_getElem? (i := 757) (by decide +kernel)⟩
theorem lw_p25 : lw_okq (⟨"EdgeSweepsModel", "isOf", "(III)Z"⟩, 23) := ⟨⟨by decide +kernel, by decide +kernel⟩, List.mem_of_getElem? (i := 589) (by decide +kernel), List.mem_of_getElem? (i := 760) (by decide +kernel), List.mem_of_getElem? (i := 761) (by decide +kernel)⟩
theorem lw_p26 : lw_okq (⟨"EdgeSweepsModel", "join", "()V"⟩, 23) := ⟨⟨by decide +kernel, by decide +kernel⟩, List.mem_of_getElem? (i := 589) (by decide +kernel), List.mem_of_getElem? (i := 776) (by decide +kernel), List.mem_of_getElem? (i := 777) (by decide +kernel)⟩
theorem lw_p27 : lw_okq (⟨"EdgeSweepsModel", "findEdge", "(IZ)I"⟩, 23) := ⟨⟨by decide +kernel, by decide +kernel⟩, List.mem_of_getElem? (i := 589) (by decide +kernel), List.mem_of_getElem? (i := 788) (by decide +kernel), List.mem_of_getElem? (i := 789) (by decide +kernel)⟩
theorem lw_p28 : lw_okq (⟨"EdgeSweepsModel", "lying", "(II)I"⟩, 23) := ⟨⟨by decide +kernel, by decide +kernel⟩, List.mem_of_getElem? (i := 589) (by decide +kernel), List.mem_of_getElem? (i := 792) (by decide +kernel), List.mem_of_getElem? (i := 793) (by decide +kernel)⟩
theorem lw_p29 : lw_okq (⟨"EdgeSweepsModel", "standing", "(II)I"⟩, 23) := ⟨⟨by decide +kernel, by decide +kernel⟩, List.mem_of_getElem? (i := 589) (by decide +kernel), List.mem_of_getElem? (i := 796) (by decide +kernel), List.mem_of_getElem? (i := 797) (by decide +kernel)⟩
theorem lw_p30 : lw_okq (⟨"EdgeSweepsModel", "isLine", "(I)Z"⟩, 23) := ⟨⟨by decide +kernel, by decide +kernel⟩, List.mem_of_getElem? (i := 589) (by decide +kernel), List.mem_of_getElem? (i := 809) (by decide +kernel), List.mem_of_getElem? (i := 810) (by decide +kernel)⟩
def lw_privs_2 : List (MethodName × Nat) := [(⟨"EdgeSweepsModel", "relate", "()V"⟩, 23), (⟨"EdgeSweepsModel", "label", "()V"⟩, 23), (⟨"EdgeSweepsModel", "isOne", "(II)Z"⟩, 23), (⟨"EdgeSweepsModel", "isTwo", "(II)Z"⟩, 23), (⟨"EdgeSweepsModel", "isTouched", "(II)Z"⟩, 23), (⟨"EdgeSweepsModel", "keep", "()I"⟩, 23), (⟨"EdgeSweepsModel", "isRound", "(IIIIZ)Z"⟩, 23), (⟨"EdgeSweepsModel", "isReady", "(I)Z"⟩, 23), (⟨"EdgeSweepsModel", "isCorner", "(III)Z"⟩, 23), (⟨"EdgeSweepsModel", "isOf", "(III)Z"⟩, 23), (⟨"EdgeSweepsModel", "join", "()V"⟩, 23), (⟨"EdgeSweepsModel", "findEdge", "(IZ)I"⟩, 23), (⟨"EdgeSweepsModel", "lying", "(II)I"⟩, 23), (⟨"EdgeSweepsModel", "standing", "(II)I"⟩, 23), (⟨"EdgeSweepsModel", "isLine", "(I)Z"⟩, 23)]
theorem lw_r2 : ∀ q ∈ lw_privs_2, lw_okq q := List.forall_mem_cons.mpr ⟨lw_p16, List.forall_mem_cons.mpr ⟨lw_p17, List.forall_mem_cons.mpr ⟨lw_p18, List.forall_mem_cons.mpr ⟨lw_p19, List.forall_mem_cons.mpr ⟨lw_p20, List.forall_mem_cons.mpr ⟨lw_p21, List.forall_mem_cons.mpr ⟨lw_p22, List.forall_mem_cons.mpr ⟨lw_p23, List.forall_mem_cons.mpr ⟨lw_p24, List.forall_mem_cons.mpr ⟨lw_p25, List.forall_mem_cons.mpr ⟨lw_p26, List.forall_mem_cons.mpr ⟨lw_p27, List.forall_mem_cons.mpr ⟨lw_p28, List.forall_mem_cons.mpr ⟨lw_p29, List.forall_mem_cons.mpr ⟨lw_p30, fun _ h => absurd h List.not_mem_nil⟩⟩⟩⟩⟩⟩⟩⟩⟩⟩⟩⟩⟩⟩⟩
def lw_privs : List (MethodName × Nat) := lw_privs_1 ++ (lw_privs_2)
def lw_tbl : List Cond := k2_sels lw_privs ++ tables_1
theorem lw_privs_ok : ∀ q ∈ lw_privs, lw_okq q := by
  show ∀ q ∈ lw_privs_1 ++ (lw_privs_2), lw_okq q
  exact List.forall_mem_append.mpr ⟨lw_r1, lw_r2⟩
end
section
/-! NAMES, printed by wip/whole/gen/gen.py: classes that are made, their fields; exceptions; the words -/
def hp_xs : List Jvm.Cond := [.isRef (.static "java/lang/Throwable" "UNASSIGNED_STACK" "[Ljava/lang/StackTraceElement;"), .isRef (.static "java/lang/Throwable" "SUPPRESSED_SENTINEL" "Ljava/util/List;")]
def hp_Ts : List Jvm.Cond := lw_tbl ++ hp_xs
theorem tm_in {w : Jvm.Cond} (h : w ∈ tables_1) : w ∈ hp_Ts := List.mem_append_left _ (List.mem_append_right _ h)
theorem ts_in {w : Jvm.Cond} (h : w ∈ k2_sels lw_privs) : w ∈ hp_Ts := List.mem_append_left _ (List.mem_append_left _ h)
def hp_strs : List (String × Nat × String) := [("EdgeSweeps", 64, "no such base layer"), ("EdgeSweeps", 75, "there are 16 polygons"), ("EdgeSweeps", 85, "no such polygon"), ("EdgeSweeps", 90, "the polygon has 16 corners"), ("EdgeSweeps", 96, "x or y is not 0 .. 64"), ("EdgeSweeps", 219, "no such thing"), ("EdgeSweeps", 221, "there are 24 made layers"), ("EdgeSweeps", 110, "no such operation"), ("EdgeSweeps", 146, "by is 0 or beyond 64"), ("EdgeSweeps$Lines", 72, "no such corner"), ("EdgeSweeps", 182, "k is below 0"), ("EdgeSweeps", 196, "n is not 1 .. 64"), ("EdgeSweeps$Lines", 51, "no such edge"), ("EdgeSweeps$Lines", 62, "no such box")]
def hp_ncs : List (String × String) := [("java/lang/IndexOutOfBoundsException", "java/lang/IllegalStateException"), ("java/lang/IndexOutOfBoundsException", "java/lang/IllegalArgumentException"), ("java/lang/IllegalStateException", "java/lang/IndexOutOfBoundsException"), ("java/lang/IllegalStateException", "java/lang/IllegalArgumentException"), ("java/lang/IllegalArgumentException", "java/lang/IndexOutOfBoundsException"), ("java/lang/IllegalArgumentException", "java/lang/IllegalStateException")]
def hp_exn (ci : Nat) : String := match ci with
  | 0 => "java/lang/IndexOutOfBoundsException"
  | 1 => "java/lang/IllegalStateException"
  | _ => "java/lang/IllegalArgumentException"
def R_es : String := "EdgeSweeps"
def F_es : u_T := fun k => match k with
  | 0 => ("EdgeSweeps", "baseLayers", "I", true)
  | 1 => ("EdgeSweeps", "polygons", "LEdgeSweeps$Polygons;", true)
  | 2 => ("EdgeSweeps", "made", "[[J", true)
  | 3 => ("EdgeSweeps", "madeCount", "I", false)
  | 4 => ("EdgeSweeps", "stripCount", "I", false)
  | 5 => ("EdgeSweeps", "parts", "LEdgeSweeps$Parts;", true)
  | 6 => ("EdgeSweeps", "first", "[J", true)
  | 7 => ("EdgeSweeps", "second", "[J", true)
  | _ => ("EdgeSweeps", "spare", "[J", true)
def t_es : Nat → FieldType := fun k => match k with
  | 0 => .int
  | 1 => .object "EdgeSweeps$Polygons"
  | 2 => .array (.array .long)
  | 3 => .int
  | 4 => .int
  | 5 => .object "EdgeSweeps$Parts"
  | 6 => .array .long
  | 7 => .array .long
  | _ => .array .long
def R_po : String := "EdgeSweeps$Polygons"
def F_po : u_T := fun k => match k with
  | 0 => ("EdgeSweeps$Polygons", "count", "I", false)
  | 1 => ("EdgeSweeps$Polygons", "layerOf", "[I", true)
  | 2 => ("EdgeSweeps$Polygons", "corners", "[I", true)
  | 3 => ("EdgeSweeps$Polygons", "xs", "[[I", true)
  | 4 => ("EdgeSweeps$Polygons", "ys", "[[I", true)
  | _ => ("EdgeSweeps$Polygons", "flips", "[J", true)
def t_po : Nat → FieldType := fun k => match k with
  | 0 => .int
  | 1 => .array .int
  | 2 => .array .int
  | 3 => .array (.array .int)
  | 4 => .array (.array .int)
  | _ => .array .long
def R_pa : String := "EdgeSweeps$Parts"
def F_pa : u_T := fun k => match k with
  | 0 => ("EdgeSweeps$Parts", "squares", "[J", true)
  | 1 => ("EdgeSweeps$Parts", "shapeHead", "[I", true)
  | 2 => ("EdgeSweeps$Parts", "netHead", "[I", true)
  | 3 => ("EdgeSweeps$Parts", "shapeOf", "[I", true)
  | 4 => ("EdgeSweeps$Parts", "marked", "[Z", true)
  | 5 => ("EdgeSweeps$Parts", "rowStart", "[I", true)
  | 6 => ("EdgeSweeps$Parts", "runCount", "I", false)
  | _ => ("EdgeSweeps$Parts", "shapeCount", "I", false)
def t_pa : Nat → FieldType := fun k => match k with
  | 0 => .array .long
  | 1 => .array .int
  | 2 => .array .int
  | 3 => .array .int
  | 4 => .array .boolean
  | 5 => .array .int
  | 6 => .int
  | _ => .int
def R_mo : String := "EdgeSweepsModel"
def F_mo : u_T := fun k => match k with
  | 0 => ("EdgeSweepsModel", "code", "I", false)
  | 1 => ("EdgeSweepsModel", "layers", "I", true)
  | 2 => ("EdgeSweepsModel", "polygonLayers", "[I", true)
  | 3 => ("EdgeSweepsModel", "counts", "[I", true)
  | 4 => ("EdgeSweepsModel", "cornerX", "[I", true)
  | 5 => ("EdgeSweepsModel", "cornerY", "[I", true)
  | 6 => ("EdgeSweepsModel", "polygons", "I", false)
  | 7 => ("EdgeSweepsModel", "mades", "[J", true)
  | 8 => ("EdgeSweepsModel", "made", "I", false)
  | 9 => ("EdgeSweepsModel", "strips", "I", false)
  | 10 => ("EdgeSweepsModel", "one", "[J", true)
  | 11 => ("EdgeSweepsModel", "two", "[J", true)
  | 12 => ("EdgeSweepsModel", "out", "[J", true)
  | 13 => ("EdgeSweepsModel", "labels", "[I", true)
  | 14 => ("EdgeSweepsModel", "stack", "[I", true)
  | 15 => ("EdgeSweepsModel", "shapeCount", "I", false)
  | 16 => ("EdgeSweepsModel", "netIds", "[I", true)
  | 17 => ("EdgeSweepsModel", "inside", "[Z", true)
  | 18 => ("EdgeSweepsModel", "touches", "[Z", true)
  | 19 => ("EdgeSweepsModel", "line", "I", false)
  | 20 => ("EdgeSweepsModel", "from", "I", false)
  | 21 => ("EdgeSweepsModel", "to", "I", false)
  | _ => ("EdgeSweepsModel", "side", "I", false)
def t_mo : Nat → FieldType := fun k => match k with
  | 0 => .int
  | 1 => .int
  | 2 => .array .int
  | 3 => .array .int
  | 4 => .array .int
  | 5 => .array .int
  | 6 => .int
  | 7 => .array .long
  | 8 => .int
  | 9 => .int
  | 10 => .array .long
  | 11 => .array .long
  | 12 => .array .long
  | 13 => .array .int
  | 14 => .array .int
  | 15 => .int
  | 16 => .array .int
  | 17 => .array .boolean
  | 18 => .array .boolean
  | 19 => .int
  | 20 => .int
  | 21 => .int
  | _ => .int
abbrev classes : List vw_C := [(R_es, F_es, 9), (R_po, F_po, 6), (R_pa, F_pa, 8), (R_mo, F_mo, 23)]
def hp_fty (ci : Nat) : Nat → FieldType := match ci with
  | 0 => t_es
  | 1 => t_po
  | 2 => t_pa
  | _ => t_mo
def hp_new (ci : Nat) : List Value := match ci with
  | 0 => [.int 0, .null, .null, .int 0, .int 0, .null, .null, .null, .null]
  | 1 => [.int 0, .null, .null, .null, .null, .null]
  | 2 => [.null, .null, .null, .null, .null, .null, .int 0, .int 0]
  | _ => [.int 0, .int 0, .null, .null, .null, .null, .int 0, .null, .int 0, .int 0, .null, .null, .null, .null, .null, .int 0, .null, .null, .null, .int 0, .int 0, .int 0, .int 0]
theorem nm_es : ∀ a, a < 9 → ∀ b, b < 9 → a ≠ b → (F_es a).2.1 ≠ (F_es b).2.1 := by decide +kernel
theorem ty_es : ∀ k, k < 9 → parseFieldDescriptor (F_es k).2.2.1 = some (t_es k) := by decide +kernel
theorem df_es : ∀ k, k < 9 → defaultValue (t_es k) = vp_V (hp_new 0) k := by decide +kernel
theorem la_es : ∀ w ∈ u_ws R_es F_es 9, w ∈ hp_Ts := fun w hw => tm_in (by
  have e : u_ws R_es F_es 9 = ([104, 106, 108, 110, 112, 114, 116, 118, 120] : List Nat).filterMap (fun i => tables_1[i]?) := by decide +kernel
  rw [e] at hw
  obtain ⟨i, -, hi⟩ := List.mem_filterMap.mp hw
  exact List.mem_of_getElem? hi)
theorem nm_po : ∀ a, a < 6 → ∀ b, b < 6 → a ≠ b → (F_po a).2.1 ≠ (F_po b).2.1 := by decide +kernel
theorem ty_po : ∀ k, k < 6 → parseFieldDescriptor (F_po k).2.2.1 = some (t_po k) := by decide +kernel
theorem df_po : ∀ k, k < 6 → defaultValue (t_po k) = vp_V (hp_new 1) k := by decide +kernel
theorem la_po : ∀ w ∈ u_ws R_po F_po 6, w ∈ hp_Ts := fun w hw => tm_in (by
  have e : u_ws R_po F_po 6 = ([39, 41, 43, 45, 47, 49] : List Nat).filterMap (fun i => tables_1[i]?) := by decide +kernel
  rw [e] at hw
  obtain ⟨i, -, hi⟩ := List.mem_filterMap.mp hw
  exact List.mem_of_getElem? hi)
theorem nm_pa : ∀ a, a < 8 → ∀ b, b < 8 → a ≠ b → (F_pa a).2.1 ≠ (F_pa b).2.1 := by decide +kernel
theorem ty_pa : ∀ k, k < 8 → parseFieldDescriptor (F_pa k).2.2.1 = some (t_pa k) := by decide +kernel
theorem df_pa : ∀ k, k < 8 → defaultValue (t_pa k) = vp_V (hp_new 2) k := by decide +kernel
theorem la_pa : ∀ w ∈ u_ws R_pa F_pa 8, w ∈ hp_Ts := fun w hw => tm_in (by
  have e : u_ws R_pa F_pa 8 = ([70, 72, 74, 76, 78, 80, 82, 84] : List Nat).filterMap (fun i => tables_1[i]?) := by decide +kernel
  rw [e] at hw
  obtain ⟨i, -, hi⟩ := List.mem_filterMap.mp hw
  exact List.mem_of_getElem? hi)
theorem nm_mo : ∀ a, a < 23 → ∀ b, b < 23 → a ≠ b → (F_mo a).2.1 ≠ (F_mo b).2.1 := by decide +kernel
theorem ty_mo : ∀ k, k < 23 → parseFieldDescriptor (F_mo k).2.2.1 = some (t_mo k) := by decide +kernel
theorem df_mo : ∀ k, k < 23 → defaultValue (t_mo k) = vp_V (hp_new 3) k := by decide +kernel
theorem la_mo : ∀ w ∈ u_ws R_mo F_mo 23, w ∈ hp_Ts := fun w hw => tm_in (by
  have e : u_ws R_mo F_mo 23 = ([618, 620, 622, 624, 626, 628, 630, 632, 634, 636, 638, 640, 642, 644, 646, 648, 650, 652, 654, 656, 658, 660, 662] : List Nat).filterMap (fun i => tables_1[i]?) := by decide +kernel
  rw [e] at hw
  obtain ⟨i, -, hi⟩ := List.mem_filterMap.mp hw
  exact List.mem_of_getElem? hi)
end
section
/-! HEAPS BY PLACE. A pure heap is a list of cells; a reference is a place in it. σ says at which address each place lies. -/
abbrev hp_X : Type := (Nat → Int32) ⊕ (Nat → Int64) ⊕ (Nat → UInt32) ⊕ (Nat → UInt64) ⊕ (Nat → Option Nat)
abbrev hp_C : Type := (FieldType × Nat × hp_X) ⊕ (Nat × List Value)
abbrev hp_H : Type := List hp_C
/-- how a method ends: it returns, or throws an exception of the class with this number -/
abbrev hp_R : Type := Option Value ⊕ Nat
abbrev hp_L : Type := List (Nat × Value)
def hp_cv (σ : List Nat) (v : Value) : Value := match v with
  | .ref k => .ref (σ.getD k 0)
  | .int x => .int x
  | .long x => .long x
  | .float x => .float x
  | .double x => .double x
  | .null => .null
  | .retAddr x => .retAddr x
def hp_ok (σ : List Nat) (v : Value) : Prop := match v with
  | .ref k => k < σ.length
  | _ => True
def hp_le (σ τ : List Nat) : Prop := σ.length ≤ τ.length ∧ ∀ k, k < σ.length → τ.getD k 0 = σ.getD k 0
theorem hp_le_rf {σ : List Nat} : hp_le σ σ := ⟨Nat.le_refl _, fun _ _ => rfl⟩
theorem hp_le_tr {σ τ υ : List Nat} (h1 : hp_le σ τ) (h2 : hp_le τ υ) : hp_le σ υ :=
  ⟨Nat.le_trans h1.1 h2.1, fun k hk => (h2.2 k (Nat.lt_of_lt_of_le hk h1.1)).trans (h1.2 k hk)⟩
theorem hp_le_push {σ : List Nat} (q : Nat) : hp_le σ (σ ++ [q]) :=
  ⟨by simp, fun k hk => by rw [List.getD_eq_getElem?_getD, List.getD_eq_getElem?_getD, List.getElem?_append_left hk]⟩
theorem hp_cv_mono {σ τ : List Nat} (h : hp_le σ τ) {v : Value} (hv : hp_ok σ v) : hp_cv τ v = hp_cv σ v := by
  cases v <;> try rfl
  exact congrArg Value.ref (h.2 _ hv)
theorem hp_ok_mono {σ τ : List Nat} (h : hp_le σ τ) {v : Value} (hv : hp_ok σ v) : hp_ok τ v := by
  cases v <;> try trivial
  exact Nat.lt_of_lt_of_le hv h.1
theorem hp_cv_cat (σ : List Nat) (v : Value) : (hp_cv σ v).category = v.category := by cases v <;> rfl
/-- an element of an array, as a value -/
def hp_el (x : hp_X) (j : Nat) : Value := match x with
  | .inl f => .int (f j)
  | .inr (.inl f) => .long (f j)
  | .inr (.inr (.inl f)) => .float (f j)
  | .inr (.inr (.inr (.inl f))) => .double (f j)
  | .inr (.inr (.inr (.inr f))) => va_rf (f j)
/-- the mark of an array that is only read (the script): its type is int -/
def hp_ty (t : FieldType) : FieldType := match t with
  | .float => .int
  | t => t
def hp_wr (c : hp_C) : Bool := match c with
  | .inl (.float, _) => false
  | _ => true
def hp_at (D : va_G) (U : State) (σ : List Nat) (c : hp_C) (a : Nat) (H : Heap) : Prop := match c with
  | .inl (ty, n, x) => ∃ cell : Cell, H[a]? = some cell ∧ U.isArrayOf cell (hp_ty ty) ∧ cell.vm ≠ .unknown ∧ cell.slots.size = n ∧ ∀ j, j < n → cell.slots[j]? = some (hp_cv σ (hp_el x j)) ∧ hp_ok σ (hp_el x j)
  | .inr (ci, fs) => ∃ (r : vw_C) (cell : Cell), classes[ci]? = some r ∧ H[a]? = some cell ∧ cell.cls = D.1 ci ∧ cell.vm = .none ∧ ∀ k, k < r.2.2 → cell.slots[D.2 ci k]? = some (hp_cv σ (vp_V fs k)) ∧ hp_ok σ (vp_V fs k)
def hp_rep (D : va_G) (z : Nat) (U : State) (σ : List Nat) (h : hp_H) (H : Heap) : Prop :=
  σ.length = h.length ∧ (∀ (k : Nat) (c : hp_C), h[k]? = some c → hp_at D U σ c (σ.getD k 0) H) ∧ (∀ i j : Nat, i < σ.length → j < σ.length → σ.getD i 0 = σ.getD j 0 → i = j) ∧
    (∀ (k : Nat) (c : hp_C), h[k]? = some c → hp_wr c = true → z ≤ σ.getD k 0) ∧ ∀ (a : Nat) (cell : Cell), z ≤ a → H[a]? = some cell → cell.vm.isStatics = false
def hp_fr (z : Nat) (H0 H : Heap) : Prop := H0.size ≤ H.size ∧ ∀ q : Nat, q < z → H[q]? = H0[q]?
theorem hp_fr_rf {z : Nat} {H : Heap} : hp_fr z H H := ⟨Nat.le_refl _, fun _ _ => rfl⟩
theorem hp_fr_tr {z : Nat} {H0 H1 H2 : Heap} (h1 : hp_fr z H0 H1) (h2 : hp_fr z H1 H2) : hp_fr z H0 H2 :=
  ⟨Nat.le_trans h1.1 h2.1, fun q hq => (h2.2 q hq).trans (h1.2 q hq)⟩
theorem hp_arr_moved {u U : State} (hvm : u.vm.Alike U.vm) {cell : Cell} {ty : FieldType} (h : u.isArrayOf cell ty) : U.isArrayOf cell ty := by
  obtain ⟨h1, k, h2, comp, h3⟩ := h
  obtain ⟨k', hk', he⟩ := hvm.2.2 _ _ h2
  exact ⟨h1, k', hk', comp, by rw [he]; exact h3⟩
theorem hp_at_moved {D : va_G} {u U : State} (hvm : u.vm.Alike U.vm) {σ : List Nat} {c : hp_C} {a : Nat} {H : Heap} (h : hp_at D u σ c a H) : hp_at D U σ c a H := by
  match c, h with
  | .inl (ty, n, x), h =>
    obtain ⟨cell, h1, h2, h3⟩ := h
    exact ⟨cell, h1, hp_arr_moved hvm h2, h3⟩
  | .inr (ci, fs), h => exact h
theorem hp_rep_moved {D : va_G} {z : Nat} {u U : State} (hvm : u.vm.Alike U.vm) {σ : List Nat} {h : hp_H} {H : Heap} (r : hp_rep D z u σ h H) : hp_rep D z U σ h H :=
  ⟨r.1, fun k c hk => hp_at_moved hvm (r.2.1 k c hk), r.2.2⟩
theorem hp_at_lt {D : va_G} {U : State} {σ : List Nat} {c : hp_C} {a : Nat} {H : Heap} (h : hp_at D U σ c a H) : a < H.size := by
  match c, h with
  | .inl (ty, n, x), h =>
    obtain ⟨cell, h1, -⟩ := h
    exact (Array.getElem?_eq_some_iff.mp h1).1
  | .inr (ci, fs), h =>
    obtain ⟨r, cell, -, h1, -⟩ := h
    exact (Array.getElem?_eq_some_iff.mp h1).1
/-- the same cell, elsewhere the same, more places known -/
theorem hp_at_to {D : va_G} {U : State} {σ τ : List Nat} (hl : hp_le σ τ) {c : hp_C} {a : Nat} {H H1 : Heap} (he : H1[a]? = H[a]?) (h : hp_at D U σ c a H) : hp_at D U τ c a H1 := by
  match c, h with
  | .inl (ty, n, x), h =>
    obtain ⟨cell, h1, h2, h3, h4, h5⟩ := h
    exact ⟨cell, he.trans h1, h2, h3, h4, fun j hj => ⟨by rw [hp_cv_mono hl (h5 j hj).2]; exact (h5 j hj).1, hp_ok_mono hl (h5 j hj).2⟩⟩
  | .inr (ci, fs), h =>
    obtain ⟨r, cell, h0, h1, h2, h3, h4⟩ := h
    exact ⟨r, cell, h0, he.trans h1, h2, h3, fun j hj => ⟨by rw [hp_cv_mono hl (h4 j hj).2]; exact (h4 j hj).1, hp_ok_mono hl (h4 j hj).2⟩⟩
theorem hp_rep_lt {D : va_G} {z : Nat} {U : State} {σ : List Nat} {h : hp_H} {H : Heap} (r : hp_rep D z U σ h H) {k : Nat} (hk : k < σ.length) : σ.getD k 0 < H.size := by
  have hk' : k < h.length := by rw [← r.1]; exact hk
  exact hp_at_lt (r.2.1 k _ (List.getElem?_eq_getElem hk'))
/-- a cell of the heap is written -/
theorem hp_rep_put {D : va_G} {z : Nat} {U : State} {σ : List Nat} {h : hp_H} {H H1 : Heap} (r : hp_rep D z U σ h H) {a : Nat} {c c' : hp_C} (ha : h[a]? = some c) (hw : hp_wr c = true)
    (hn : hp_at D U σ c' (σ.getD a 0) H1) (ho : ∀ q, q ≠ σ.getD a 0 → H1[q]? = H[q]?) (hs : ∀ cell, H1[σ.getD a 0]? = some cell → cell.vm.isStatics = false) : hp_rep D z U σ (h.set a c') H1 := by
  obtain ⟨r1, r2, r3, r4, r5⟩ := r
  have hal : a < h.length := (List.getElem?_eq_some_iff.mp ha).1
  refine ⟨by simpa using r1, fun k c2 hk => ?_, r3, fun k c2 hk hw2 => ?_, fun q cell hq hc => ?_⟩
  · by_cases e : k = a
    · subst e
      rw [List.getElem?_set_self hal] at hk
      cases hk
      exact hn
    · rw [List.getElem?_set_ne (Ne.symm e)] at hk
      have hkl : k < h.length := (List.getElem?_eq_some_iff.mp hk).1
      exact hp_at_to hp_le_rf (ho _ (fun q => e (r3 k a (by omega) (by omega) q))) (r2 k c2 hk)
  · by_cases e : k = a
    · subst e
      exact r4 k c ha hw
    · rw [List.getElem?_set_ne (Ne.symm e)] at hk
      exact r4 k c2 hk hw2
  · by_cases e : q = σ.getD a 0
    · subst e
      exact hs cell hc
    · rw [ho q e] at hc
      exact r5 q cell hq hc
/-- a cell is added -/
theorem hp_rep_push {D : va_G} {z : Nat} {U : State} {σ : List Nat} {h : hp_H} {H H1 : Heap} (r : hp_rep D z U σ h H) {c : hp_C} (hz : z ≤ H.size)
    (hn : hp_at D U (σ ++ [H.size]) c H.size H1) (ho : ∀ q, q < H.size → H1[q]? = H[q]?) (hsz : H1.size = H.size + 1) (hs : ∀ cell, H1[H.size]? = some cell → cell.vm.isStatics = false) : hp_rep D z U (σ ++ [H.size]) (h ++ [c]) H1 := by
  have hlt := fun k hk => hp_rep_lt r (k := k) hk
  obtain ⟨r1, r2, r3, r4, r5⟩ := r
  have hg : ∀ k, k < σ.length → (σ ++ [H.size]).getD k 0 = σ.getD k 0 := fun k hk => (hp_le_push H.size).2 k hk
  have hgl : (σ ++ [H.size]).getD h.length 0 = H.size := by rw [← r1]; simp
  refine ⟨by simp [r1], fun k c2 hk => ?_, fun i j hi hj e => ?_, fun k c2 hk hw2 => ?_, fun q cell hq hc => ?_⟩
  · rcases Nat.lt_or_ge k h.length with hk' | hk'
    · rw [List.getElem?_append_left hk'] at hk
      rw [hg k (by omega)]
      exact hp_at_to (hp_le_push _) (ho _ (hlt k (by omega))) (r2 k c2 hk)
    · rw [List.getElem?_append_right hk'] at hk
      have hkl := (List.getElem?_eq_some_iff.mp hk).1
      have e : k = h.length := by simp at hkl; omega
      subst e
      simp at hk
      rw [hgl, ← hk]
      exact hn
  · simp only [List.length_append, List.length_singleton] at hi hj
    rcases Nat.lt_or_ge i σ.length with hi' | hi' <;> rcases Nat.lt_or_ge j σ.length with hj' | hj'
    · rw [hg i hi', hg j hj'] at e
      exact r3 i j hi' hj' e
    · have ej : j = h.length := by omega
      subst ej
      rw [hg i hi', hgl] at e
      have := hlt i hi'
      omega
    · have ei : i = h.length := by omega
      subst ei
      rw [hg j hj', hgl] at e
      have := hlt j hj'
      omega
    · omega
  · rcases Nat.lt_or_ge k h.length with hk' | hk'
    · rw [List.getElem?_append_left hk'] at hk
      rw [hg k (by omega)]
      exact r4 k c2 hk hw2
    · have hkl := (List.getElem?_eq_some_iff.mp hk).1
      have e : k = h.length := by simp at hkl; omega
      subst e
      rw [hgl]
      exact hz
  · rcases Nat.lt_or_ge q H.size with hq' | hq'
    · rw [ho q hq'] at hc
      exact r5 q cell hq hc
    · have hql := (Array.getElem?_eq_some_iff.mp hc).1
      have e : q = H.size := by omega
      subst e
      exact hs cell hc
/-! locals: which are known -/
def hp_lv (σ : List Nat) (nL : Nat) (lv : hp_L) (ls : Array Slot) : Prop := ls.size = nL ∧ lv_wf ls ∧ ∀ q ∈ lv, hp_ok σ q.2 ∧ ls[q.1]? = some (.val (hp_cv σ q.2))
def hp_get (lv : hp_L) (i : Nat) : Option Value := match lv with
  | [] => none
  | q :: l => cond (Nat.beq q.1 i) (some q.2) (hp_get l i)
theorem hp_get_mem : ∀ (lv : hp_L) (i : Nat) (v : Value), hp_get lv i = some v → (i, v) ∈ lv
  | [], _, _, h => by cases h
  | q :: l, i, v, h => by
    unfold hp_get at h
    cases hb : Nat.beq q.1 i with
    | true =>
      rw [hb] at h
      have e : q.1 = i := Nat.eq_of_beq_eq_true hb
      have e2 : q.2 = v := Option.some.inj h
      subst e; subst e2
      exact List.mem_cons_self
    | false =>
      rw [hb] at h
      exact List.mem_cons_of_mem _ (hp_get_mem l i v h)
def hp_ins (i : Nat) (v : Value) (l : hp_L) : hp_L := match l with
  | [] => [(i, v)]
  | q :: r => cond (Nat.ble i q.1) ((i, v) :: q :: r) (q :: hp_ins i v r)
theorem hp_ins_mem (i : Nat) (v : Value) : ∀ (l : hp_L) (q : Nat × Value), q ∈ hp_ins i v l → q = (i, v) ∨ q ∈ l
  | [], q, h => Or.inl (by simpa [hp_ins] using h)
  | p :: r, q, h => by
    unfold hp_ins at h
    cases hb : Nat.ble i p.1 with
    | true =>
      rw [hb] at h
      rcases List.mem_cons.mp h with h | h
      · exact Or.inl h
      · exact Or.inr h
    | false =>
      rw [hb] at h
      rcases List.mem_cons.mp h with h | h
      · exact Or.inr (by rw [h]; exact List.mem_cons_self)
      · rcases hp_ins_mem i v r q h with h | h
        · exact Or.inl h
        · exact Or.inr (List.mem_cons_of_mem _ h)
/-- which listed locals a store at i leaves: b: the stored value has two slots -/
def hp_cut (i : Nat) (b : Bool) (l : hp_L) : hp_L := match l with
  | [] => []
  | q :: r => cond (Nat.beq q.1 i || (Nat.beq (q.1 + 1) i && Nat.beq q.2.category 2) || (b && Nat.beq q.1 (i + 1))) (hp_cut i b r) (q :: hp_cut i b r)
theorem hp_cut_mem (i : Nat) (b : Bool) : ∀ (l : hp_L) (q : Nat × Value), q ∈ hp_cut i b l → q ∈ l ∧ ¬ q.1 = i ∧ ¬ (q.1 + 1 = i ∧ q.2.category = 2) ∧ ¬ (b = true ∧ q.1 = i + 1)
  | [], q, h => by cases h
  | p :: r, q, h => by
    unfold hp_cut at h
    cases hb : (Nat.beq p.1 i || (Nat.beq (p.1 + 1) i && Nat.beq p.2.category 2) || (b && Nat.beq p.1 (i + 1))) with
    | true =>
      rw [hb] at h
      obtain ⟨h1, h2⟩ := hp_cut_mem i b r q h
      exact ⟨List.mem_cons_of_mem _ h1, h2⟩
    | false =>
      rw [hb] at h
      rcases List.mem_cons.mp h with h | h
      · subst h
        simp only [Bool.or_eq_false_iff, Bool.and_eq_false_iff] at hb
        obtain ⟨⟨h1, h2⟩, h3⟩ := hb
        refine ⟨List.mem_cons_self, fun e => ?_, fun e => ?_, fun e => ?_⟩
        · rw [e] at h1
          simp at h1
        · rw [e.1, e.2] at h2
          simp at h2
        · rw [e.1, e.2] at h3
          simp at h3
      · obtain ⟨h1, h2⟩ := hp_cut_mem i b r q h
        exact ⟨List.mem_cons_of_mem _ h1, h2⟩
def hp_set (lv : hp_L) (i : Nat) (v : Value) : hp_L := hp_ins i v (hp_cut i (Nat.beq v.category 2) lv)
/-- the listed locals of these numbers alone -/
def hp_pick (ks : List Nat) (lv : hp_L) : hp_L := match ks with
  | [] => []
  | k :: r => match hp_get lv k with
    | some v => (k, v) :: hp_pick r lv
    | none => hp_pick r lv
theorem hp_pick_mem (lv : hp_L) : ∀ (ks : List Nat) (q : Nat × Value), q ∈ hp_pick ks lv → q ∈ lv
  | [], q, h => by cases h
  | k :: r, q, h => by
    unfold hp_pick at h
    cases hg : hp_get lv k with
    | some v =>
      rw [hg] at h
      rcases List.mem_cons.mp h with h | h
      · rw [h]; exact hp_get_mem lv k v hg
      · exact hp_pick_mem lv r q h
    | none =>
      rw [hg] at h
      exact hp_pick_mem lv r q h
theorem hp_lv_real {σ : List Nat} {nL : Nat} {lv : hp_L} {ls : Array Slot} (h : hp_lv σ nL lv ls) : lv_has ls nL (lv.map fun q => (q.1, hp_cv σ q.2)) :=
  ⟨h.1, h.2.1, fun q hq => by
    obtain ⟨p, hp, rfl⟩ := List.mem_map.mp hq
    exact (h.2.2 p hp).2⟩
theorem hp_lv_get {σ : List Nat} {nL : Nat} {lv : hp_L} {ls : Array Slot} (h : hp_lv σ nL lv ls) {i : Nat} {v : Value} (hg : hp_get lv i = some v) : hp_ok σ v ∧ ls[i]? = some (.val (hp_cv σ v)) :=
  h.2.2 (i, v) (hp_get_mem lv i v hg)
theorem hp_lv_mono {σ τ : List Nat} (hl : hp_le σ τ) {nL : Nat} {lv : hp_L} {ls : Array Slot} (h : hp_lv σ nL lv ls) : hp_lv τ nL lv ls :=
  ⟨h.1, h.2.1, fun q hq => ⟨hp_ok_mono hl (h.2.2 q hq).1, by rw [hp_cv_mono hl (h.2.2 q hq).1]; exact (h.2.2 q hq).2⟩⟩
theorem hp_lv_sub {σ : List Nat} {nL : Nat} {lv lv' : hp_L} {ls : Array Slot} (h : hp_lv σ nL lv ls) (hs : ∀ q ∈ lv', q ∈ lv) : hp_lv σ nL lv' ls := ⟨h.1, h.2.1, fun q hq => h.2.2 q (hs q hq)⟩
theorem hp_lv_set {σ : List Nat} {nL : Nat} {lv : hp_L} {ls ls' : Array Slot} {i : Nat} {v : Value} (h : hp_lv σ nL lv ls) (hv : hp_ok σ v)
    (h' : lv_has ls' nL ((i, hp_cv σ v) :: (lv.map fun q => (q.1, hp_cv σ q.2)).filter (fun q => !(q.1 == i) && ((v.category == 1 || !(q.1 == i + 1)) && !(q.1 + 1 == i && q.2.category == 2))))) : hp_lv σ nL (hp_set lv i v) ls' := by
  refine ⟨h'.1, h'.2.1, fun q hq => ?_⟩
  rcases hp_ins_mem _ _ _ _ hq with e | hq
  · subst e
    exact ⟨hv, h'.2.2 _ List.mem_cons_self⟩
  · obtain ⟨h1, h2, h3, h4⟩ := hp_cut_mem _ _ _ _ hq
    refine ⟨(h.2.2 q h1).1, h'.2.2 (q.1, hp_cv σ q.2) (List.mem_cons_of_mem _ (List.mem_filter.mpr ⟨List.mem_map.mpr ⟨q, h1, rfl⟩, ?_⟩))⟩
    simp only [hp_cv_cat, Bool.and_eq_true, Bool.or_eq_true, Bool.not_eq_true', beq_iff_eq, beq_eq_false_iff_ne, Bool.and_eq_false_iff, ne_eq]
    refine ⟨h2, ?_, ?_⟩
    · rcases lv_cat v with hc | hc
      · exact Or.inl hc
      · exact Or.inr fun e => h4 ⟨by rw [hc]; rfl, e⟩
    · by_cases e : q.1 + 1 = i
      · exact Or.inr fun e2 => h3 ⟨e, e2⟩
      · exact Or.inl e
end
section
/-! THE JUDGEMENT. G: all that stays the same while one method's body runs. -/
abbrev hp_G : Type := Program × Launch × Env × Room × State × MethodId × Array Value × List Frame × Method × Code × va_G × Nat × List Nat × Nat × Bool × (hp_R → hp_H → Prop)
abbrev g_p (G : hp_G) : Program := G.1
abbrev g_l (G : hp_G) : Launch := G.2.1
abbrev g_e (G : hp_G) : Env := G.2.2.1
abbrev g_R (G : hp_G) : Room := G.2.2.2.1
abbrev g_s (G : hp_G) : State := G.2.2.2.2.1
abbrev g_m (G : hp_G) : MethodId := G.2.2.2.2.2.1
abbrev g_a (G : hp_G) : Array Value := G.2.2.2.2.2.2.1
abbrev g_b (G : hp_G) : List Frame := G.2.2.2.2.2.2.2.1
abbrev g_me (G : hp_G) : Method := G.2.2.2.2.2.2.2.2.1
abbrev g_c (G : hp_G) : Code := G.2.2.2.2.2.2.2.2.2.1
abbrev g_D (G : hp_G) : va_G := G.2.2.2.2.2.2.2.2.2.2.1
abbrev g_z (G : hp_G) : Nat := G.2.2.2.2.2.2.2.2.2.2.2.1
abbrev g_σ (G : hp_G) : List Nat := G.2.2.2.2.2.2.2.2.2.2.2.2.1
abbrev g_n (G : hp_G) : Nat := G.2.2.2.2.2.2.2.2.2.2.2.2.2.1
abbrev g_w (G : hp_G) : Bool := G.2.2.2.2.2.2.2.2.2.2.2.2.2.2.1
abbrev g_Q (G : hp_G) : hp_R → hp_H → Prop := G.2.2.2.2.2.2.2.2.2.2.2.2.2.2.2
/-- how the outcome of the machine shows the pure one -/
def hp_out (σ : List Nat) (r : hp_R) (o : Outcome) (t : State) : Prop := match r with
  | .inl none => o = .returned none
  | .inl (some v) => hp_ok σ v ∧ o = .returned (some (hp_cv σ v))
  | .inr ci => ∃ (a : Addr) (cell : Cell), o = .threw a ∧ t.heap[a]? = some cell ∧ cell.vm = .none ∧ t.vm.findClass (hp_exn ci) = some cell.cls
/-- the end of a method, in the state t: seen from its first state s -/
def hp_E (D : va_G) (z : Nat) (σ : List Nat) (w : Bool) (Q : hp_R → hp_H → Prop) (dk dn : Nat) (s : State) (o : Outcome) (t : State) : Prop :=
  ∃ (r : hp_R) (h' : hp_H) (σ' : List Nat), hp_le σ σ' ∧ hp_out σ' r o t ∧ hp_rep D z t σ' h' t.heap ∧ hp_fr z s.heap t.heap ∧ Q r h' ∧ s.WarmedH t.vm ∧
    ∃ L : List Loc, s.sameButNew ({ t with vm := s.vm } : State) L dk dn ∧ (∀ q ∈ L, z ≤ q.base) ∧ (w = true → L = [])
def hp_Z (G : hp_G) : State → Prop := fun t => ∃ o : Outcome, t.status = .running ∧ Ended t (g_b G) o ∧ hp_E (g_D G) (g_z G) (g_σ G) (g_w G) (g_Q G) (g_R G).cells (g_R G).slots (g_s G) o t
/-- from here the method comes to its end -/
def hp_W (G : hp_G) (pc : Nat) (lv : hp_L) (st : List Value) (h : hp_H) (w : Bool) (k n : Nat) : Prop :=
  ∀ (σ : List Nat) (H : Heap) (locs : List Loc) (ls : Array Slot), hp_rep (g_D G) (g_z G) (g_s G) σ h H → hp_le (g_σ G) σ → hp_fr (g_z G) (g_s G).heap H → (∀ q ∈ locs, g_z G ≤ q.base) → (w = true → locs = []) →
    hp_lv σ (g_n G) lv ls → (∀ v ∈ st, hp_ok σ v) → k ≤ (g_R G).cells → n ≤ (g_R G).slots →
    W (g_p G) (g_l G) (g_e G) (g_R G) (g_s G) (g_m G) (g_a G) (g_b G) (g_me G) (g_c G) H locs k n (hp_Z G) (F0 (g_m G) pc ls (st.map (hp_cv σ)))
abbrev hp_K : Type := Nat → hp_L → List Value → hp_H → Bool → Nat → Nat → Prop
/-- fewer locals are known -/
theorem hp_W_pick {G : hp_G} {pc : Nat} {lv : hp_L} {st : List Value} {h : hp_H} {w : Bool} {k n : Nat} (ks : List Nat) (hW : hp_W G pc (hp_pick ks lv) st h w k n) : hp_W G pc lv st h w k n :=
  fun σ H locs ls h1 h2 h3 h4 h5 h6 h7 h8 h9 => hW σ H locs ls h1 h2 h3 h4 h5 (hp_lv_sub h6 (hp_pick_mem lv ks)) h7 h8 h9
theorem hp_W_dirty {G : hp_G} {pc : Nat} {lv : hp_L} {st : List Value} {h : hp_H} {w : Bool} {k n : Nat} (hW : hp_W G pc lv st h false k n) : hp_W G pc lv st h w k n :=
  fun σ H locs ls h1 h2 h3 h4 h5 h6 h7 h8 h9 => hW σ H locs ls h1 h2 h3 h4 (fun q => by cases q) h6 h7 h8 h9
theorem hp_W_widen {G : hp_G} {pc : Nat} {lv : hp_L} {st : List Value} {h : hp_H} {w : Bool} {k n : Nat} (k' n' : Nat) (hk : k ≤ k') (hn : n ≤ n') (hk2 : k' ≤ (g_R G).cells) (hn2 : n' ≤ (g_R G).slots) (hW : hp_W G pc lv st h w k' n') : hp_W G pc lv st h w k n :=
  fun σ H locs ls h1 h2 h3 h4 h5 h6 h7 _ _ => W.widen hk hn (hW σ H locs ls h1 h2 h3 h4 h5 h6 h7 hk2 hn2)
/-- the machine's part of what stays the same: code and tables -/
def hp_B (cc : ByteArray) (G : hp_G) : Prop := (g_p G).tables.exec = Jvm.exec ∧ (g_c G).code = cc ∧ (g_c G).maxLocals = g_n G
/-! patterns of the operand stack -/
def st_i (st : List Value) (f : Int32 → List Value → Prop) : Prop := match st with
  | .int x :: r => f x r
  | _ => False
def st_l (st : List Value) (f : Int64 → List Value → Prop) : Prop := match st with
  | .long x :: r => f x r
  | _ => False
def st_a (st : List Value) (f : Nat → List Value → Prop) : Prop := match st with
  | .ref x :: r => f x r
  | _ => False
def st_v (st : List Value) (f : Value → List Value → Prop) : Prop := match st with
  | v :: r => f v r
  | _ => False
theorem st_i_of {st : List Value} {f : Int32 → List Value → Prop} (h : st_i st f) : ∃ x r, st = .int x :: r ∧ f x r := by
  match st, h with
  | .int x :: r, h => exact ⟨x, r, rfl, h⟩
theorem st_l_of {st : List Value} {f : Int64 → List Value → Prop} (h : st_l st f) : ∃ x r, st = .long x :: r ∧ f x r := by
  match st, h with
  | .long x :: r, h => exact ⟨x, r, rfl, h⟩
theorem st_a_of {st : List Value} {f : Nat → List Value → Prop} (h : st_a st f) : ∃ x r, st = .ref x :: r ∧ f x r := by
  match st, h with
  | .ref x :: r, h => exact ⟨x, r, rfl, h⟩
theorem st_v_of {st : List Value} {f : Value → List Value → Prop} (h : st_v st f) : ∃ x r, st = x :: r ∧ f x r := by
  match st, h with
  | x :: r, h => exact ⟨x, r, rfl, h⟩
/-- a small constant, as Lean writes it -/
def hp_c (i : Int) : Int32 := match i with
  | .ofNat n => Int32.ofNat n
  | .negSucc n => -(Int32.ofNat (n + 1))
def hp_off (pc : Nat) (off : Int) : Nat := ((pc : Int) + off).toNat
/-- a jump: the place that it goes to -/
def hp_go (pc : Nat) (off : Int) (f : Nat → Prop) : Prop := cond (decide (0 ≤ (pc : Int) + off)) (f (hp_off pc off)) False
theorem hp_go_of {pc : Nat} {off : Int} {f : Nat → Prop} (h : hp_go pc off f) : (pc : Int) + off = ((hp_off pc off : Nat) : Int) ∧ f (hp_off pc off) := by
  unfold hp_go at h
  cases hd : decide (0 ≤ (pc : Int) + off) with
  | true =>
    rw [hd] at h
    exact ⟨(Int.toNat_of_nonneg (of_decide_eq_true hd)).symm, h⟩
  | false =>
    rw [hd] at h
    exact h.elim
def hp_if {a b : Int32} (_ : a = b → Prop) : Prop := True
section HpI
variable {G : hp_G} {cc : ByteArray} {pc : Nat} {lv : hp_L} {st : List Value} {h : hp_H} {w : Bool} {k n : Nat} {K : hp_K}

theorem hs_iconst (C : hp_B cc G) (hK : ∀ pc lv st h w k n, K pc lv st h w k n → hp_W G pc lv st h w k n) {i : Int} (hd : decode cc pc = .ok (.iconst i, 1)) (hi : cond (decide (Int32.ofInt i = hp_c i)) (K (pc + 1) lv (.int (hp_c i) :: st) h w k n) False) : hp_W G pc lv st h w k n := by
  cases he : decide (Int32.ofInt i = hp_c i) with
  | false => rw [he] at hi; exact hi.elim
  | true =>
    rw [he] at hi
    intro σ H locs ls a1 a2 a3 a4 a5 a6 a7 a8 a9
    exact lv_iconst C.1 C.2.1 hd (of_decide_eq_true he) (hK _ _ _ _ _ _ _ hi σ H locs ls a1 a2 a3 a4 a5 a6 (fun v hv => by rcases List.mem_cons.mp hv with e | e; (rw [e]; trivial); exact a7 v e) a8 a9)
theorem hs_bipush (C : hp_B cc G) (hK : ∀ pc lv st h w k n, K pc lv st h w k n → hp_W G pc lv st h w k n) {i : Int} (hd : decode cc pc = .ok (.bipush i, 2)) (hi : cond (decide ((Int8.ofInt i).toInt32 = hp_c i)) (K (pc + 2) lv (.int (hp_c i) :: st) h w k n) False) : hp_W G pc lv st h w k n := by
  cases he : decide ((Int8.ofInt i).toInt32 = hp_c i) with
  | false => rw [he] at hi; exact hi.elim
  | true =>
    rw [he] at hi
    intro σ H locs ls a1 a2 a3 a4 a5 a6 a7 a8 a9
    exact lv_bipush C.1 C.2.1 hd (of_decide_eq_true he) (hK _ _ _ _ _ _ _ hi σ H locs ls a1 a2 a3 a4 a5 a6 (fun v hv => by rcases List.mem_cons.mp hv with e | e; (rw [e]; trivial); exact a7 v e) a8 a9)
theorem hs_sipush (C : hp_B cc G) (hK : ∀ pc lv st h w k n, K pc lv st h w k n → hp_W G pc lv st h w k n) {i : Int} (hd : decode cc pc = .ok (.sipush i, 3)) (hi : cond (decide ((Int16.ofInt i).toInt32 = hp_c i)) (K (pc + 3) lv (.int (hp_c i) :: st) h w k n) False) : hp_W G pc lv st h w k n := by
  cases he : decide ((Int16.ofInt i).toInt32 = hp_c i) with
  | false => rw [he] at hi; exact hi.elim
  | true =>
    rw [he] at hi
    intro σ H locs ls a1 a2 a3 a4 a5 a6 a7 a8 a9
    exact lv_sipush C.1 C.2.1 hd (of_decide_eq_true he) (hK _ _ _ _ _ _ _ hi σ H locs ls a1 a2 a3 a4 a5 a6 (fun v hv => by rcases List.mem_cons.mp hv with e | e; (rw [e]; trivial); exact a7 v e) a8 a9)
theorem hs_lconst (C : hp_B cc G) (hK : ∀ pc lv st h w k n, K pc lv st h w k n → hp_W G pc lv st h w k n) {i : Fin 2} (hd : decode cc pc = .ok (.lconst i, 1)) (hi : K (pc + 1) lv (.long (Int64.ofNat i.val) :: st) h w k n) : hp_W G pc lv st h w k n := by
  intro σ H locs ls a1 a2 a3 a4 a5 a6 a7 a8 a9
  exact lv_lconst C.1 C.2.1 hd rfl (hK _ _ _ _ _ _ _ hi σ H locs ls a1 a2 a3 a4 a5 a6 (fun v hv => by rcases List.mem_cons.mp hv with e | e; (rw [e]; trivial); exact a7 v e) a8 a9)
theorem hs_aconst_null (C : hp_B cc G) (hK : ∀ pc lv st h w k n, K pc lv st h w k n → hp_W G pc lv st h w k n)  (hd : decode cc pc = .ok (.aconst_null, 1)) (hi : K (pc + 1) lv (.null :: st) h w k n) : hp_W G pc lv st h w k n := by
  intro σ H locs ls a1 a2 a3 a4 a5 a6 a7 a8 a9
  exact lv_null C.1 C.2.1 hd (hK _ _ _ _ _ _ _ hi σ H locs ls a1 a2 a3 a4 a5 a6 (fun v hv => by rcases List.mem_cons.mp hv with e | e; (rw [e]; trivial); exact a7 v e) a8 a9)
def hl_iload (lv : hp_L) (i : Nat) (f : Value → Prop) : Prop := match hp_get lv i with
  | some (.int x) => f (.int x)
  | _ => False
theorem hs_iload (C : hp_B cc G) (hK : ∀ pc lv st h w k n, K pc lv st h w k n → hp_W G pc lv st h w k n) {i : Nat} (hd : decode cc pc = .ok (.iload i, 2)) (hi : hl_iload lv i fun v => K (pc + 2) lv (v :: st) h w k n) : hp_W G pc lv st h w k n := by
  unfold hl_iload at hi
  split at hi
  next x hg =>
    intro σ H locs ls a1 a2 a3 a4 a5 a6 a7 a8 a9
    exact lv_iload C.1 C.2.1 hd (hp_lv_get a6 hg).2 (hK _ _ _ _ _ _ _ hi σ H locs ls a1 a2 a3 a4 a5 a6 (fun v hv => by rcases List.mem_cons.mp hv with e | e; (rw [e]; exact (hp_lv_get a6 hg).1); exact a7 v e) a8 a9)
  next => exact hi.elim
def hl_iload_n (lv : hp_L) (i : Nat) (f : Value → Prop) : Prop := match hp_get lv i with
  | some (.int x) => f (.int x)
  | _ => False
theorem hs_iload_n (C : hp_B cc G) (hK : ∀ pc lv st h w k n, K pc lv st h w k n → hp_W G pc lv st h w k n) {i : Fin 4} (hd : decode cc pc = .ok (.iload_n i, 1)) (hi : hl_iload_n lv i.val fun v => K (pc + 1) lv (v :: st) h w k n) : hp_W G pc lv st h w k n := by
  unfold hl_iload_n at hi
  split at hi
  next x hg =>
    intro σ H locs ls a1 a2 a3 a4 a5 a6 a7 a8 a9
    exact lv_iload_n C.1 C.2.1 hd rfl (hp_lv_get a6 hg).2 (hK _ _ _ _ _ _ _ hi σ H locs ls a1 a2 a3 a4 a5 a6 (fun v hv => by rcases List.mem_cons.mp hv with e | e; (rw [e]; exact (hp_lv_get a6 hg).1); exact a7 v e) a8 a9)
  next => exact hi.elim
def hl_lload (lv : hp_L) (i : Nat) (f : Value → Prop) : Prop := match hp_get lv i with
  | some (.long x) => f (.long x)
  | _ => False
theorem hs_lload (C : hp_B cc G) (hK : ∀ pc lv st h w k n, K pc lv st h w k n → hp_W G pc lv st h w k n) {i : Nat} (hd : decode cc pc = .ok (.lload i, 2)) (hi : hl_lload lv i fun v => K (pc + 2) lv (v :: st) h w k n) : hp_W G pc lv st h w k n := by
  unfold hl_lload at hi
  split at hi
  next x hg =>
    intro σ H locs ls a1 a2 a3 a4 a5 a6 a7 a8 a9
    exact lv_lload C.1 C.2.1 hd (hp_lv_get a6 hg).2 (hK _ _ _ _ _ _ _ hi σ H locs ls a1 a2 a3 a4 a5 a6 (fun v hv => by rcases List.mem_cons.mp hv with e | e; (rw [e]; exact (hp_lv_get a6 hg).1); exact a7 v e) a8 a9)
  next => exact hi.elim
def hl_lload_n (lv : hp_L) (i : Nat) (f : Value → Prop) : Prop := match hp_get lv i with
  | some (.long x) => f (.long x)
  | _ => False
theorem hs_lload_n (C : hp_B cc G) (hK : ∀ pc lv st h w k n, K pc lv st h w k n → hp_W G pc lv st h w k n) {i : Fin 4} (hd : decode cc pc = .ok (.lload_n i, 1)) (hi : hl_lload_n lv i.val fun v => K (pc + 1) lv (v :: st) h w k n) : hp_W G pc lv st h w k n := by
  unfold hl_lload_n at hi
  split at hi
  next x hg =>
    intro σ H locs ls a1 a2 a3 a4 a5 a6 a7 a8 a9
    exact lv_lload_n C.1 C.2.1 hd rfl (hp_lv_get a6 hg).2 (hK _ _ _ _ _ _ _ hi σ H locs ls a1 a2 a3 a4 a5 a6 (fun v hv => by rcases List.mem_cons.mp hv with e | e; (rw [e]; exact (hp_lv_get a6 hg).1); exact a7 v e) a8 a9)
  next => exact hi.elim
def hl_aload (lv : hp_L) (i : Nat) (f : Value → Prop) : Prop := match hp_get lv i with
  | some (.ref x) => f (.ref x)
  | some .null => f .null
  | _ => False
theorem hs_aload (C : hp_B cc G) (hK : ∀ pc lv st h w k n, K pc lv st h w k n → hp_W G pc lv st h w k n) {i : Nat} (hd : decode cc pc = .ok (.aload i, 2)) (hi : hl_aload lv i fun v => K (pc + 2) lv (v :: st) h w k n) : hp_W G pc lv st h w k n := by
  unfold hl_aload at hi
  split at hi
  next x hg =>
    intro σ H locs ls a1 a2 a3 a4 a5 a6 a7 a8 a9
    exact lv_aload C.1 C.2.1 hd (hp_lv_get a6 hg).2 (hK _ _ _ _ _ _ _ hi σ H locs ls a1 a2 a3 a4 a5 a6 (fun v hv => by rcases List.mem_cons.mp hv with e | e; (rw [e]; exact (hp_lv_get a6 hg).1); exact a7 v e) a8 a9)
  next hg =>
    intro σ H locs ls a1 a2 a3 a4 a5 a6 a7 a8 a9
    exact lv_aloadN C.1 C.2.1 hd (hp_lv_get a6 hg).2 (hK _ _ _ _ _ _ _ hi σ H locs ls a1 a2 a3 a4 a5 a6 (fun v hv => by rcases List.mem_cons.mp hv with e | e; (rw [e]; exact (hp_lv_get a6 hg).1); exact a7 v e) a8 a9)
  next => exact hi.elim
def hl_aload_n (lv : hp_L) (i : Nat) (f : Value → Prop) : Prop := match hp_get lv i with
  | some (.ref x) => f (.ref x)
  | some .null => f .null
  | _ => False
theorem hs_aload_n (C : hp_B cc G) (hK : ∀ pc lv st h w k n, K pc lv st h w k n → hp_W G pc lv st h w k n) {i : Fin 4} (hd : decode cc pc = .ok (.aload_n i, 1)) (hi : hl_aload_n lv i.val fun v => K (pc + 1) lv (v :: st) h w k n) : hp_W G pc lv st h w k n := by
  unfold hl_aload_n at hi
  split at hi
  next x hg =>
    intro σ H locs ls a1 a2 a3 a4 a5 a6 a7 a8 a9
    exact lv_aload_n C.1 C.2.1 hd rfl (hp_lv_get a6 hg).2 (hK _ _ _ _ _ _ _ hi σ H locs ls a1 a2 a3 a4 a5 a6 (fun v hv => by rcases List.mem_cons.mp hv with e | e; (rw [e]; exact (hp_lv_get a6 hg).1); exact a7 v e) a8 a9)
  next hg =>
    intro σ H locs ls a1 a2 a3 a4 a5 a6 a7 a8 a9
    exact lv_aload_nN C.1 C.2.1 hd rfl (hp_lv_get a6 hg).2 (hK _ _ _ _ _ _ _ hi σ H locs ls a1 a2 a3 a4 a5 a6 (fun v hv => by rcases List.mem_cons.mp hv with e | e; (rw [e]; exact (hp_lv_get a6 hg).1); exact a7 v e) a8 a9)
  next => exact hi.elim
theorem hs_istore (C : hp_B cc G) (hK : ∀ pc lv st h w k n, K pc lv st h w k n → hp_W G pc lv st h w k n) {i : Nat} (hd : decode cc pc = .ok (.istore i, 2)) (hi : cond (Nat.blt (i) (g_n G)) (st_i st fun x r => K (pc + 2) (hp_set lv i (.int x)) r h w k n) False) : hp_W G pc lv st h w k n := by
  cases hb : Nat.blt (i) (g_n G) with
  | false => rw [hb] at hi; exact hi.elim
  | true =>
    rw [hb] at hi
    obtain ⟨x, r, rfl, hj⟩ := st_i_of hi
    intro σ H locs ls a1 a2 a3 a4 a5 a6 a7 a8 a9
    have hlt : i < g_n G := by simpa [Nat.blt_eq] using hb
    exact lv_istore (x := x) C.1 C.2.1 hd (hp_lv_real a6) hlt rfl (fun ls1 hl1 => hK _ _ _ _ _ _ _ hj σ H locs ls1 a1 a2 a3 a4 a5 (hp_lv_set (v := .int x) a6 (a7 _ List.mem_cons_self) hl1) (fun v hv => a7 v (List.mem_cons_of_mem _ hv)) a8 a9)
theorem hs_istore_n (C : hp_B cc G) (hK : ∀ pc lv st h w k n, K pc lv st h w k n → hp_W G pc lv st h w k n) {i : Fin 4} (hd : decode cc pc = .ok (.istore_n i, 1)) (hi : cond (Nat.blt (i.val) (g_n G)) (st_i st fun x r => K (pc + 1) (hp_set lv i.val (.int x)) r h w k n) False) : hp_W G pc lv st h w k n := by
  cases hb : Nat.blt (i.val) (g_n G) with
  | false => rw [hb] at hi; exact hi.elim
  | true =>
    rw [hb] at hi
    obtain ⟨x, r, rfl, hj⟩ := st_i_of hi
    intro σ H locs ls a1 a2 a3 a4 a5 a6 a7 a8 a9
    have hlt : i.val < g_n G := by simpa [Nat.blt_eq] using hb
    exact lv_istore_n (x := x) C.1 C.2.1 hd rfl (hp_lv_real a6) hlt rfl (fun ls1 hl1 => hK _ _ _ _ _ _ _ hj σ H locs ls1 a1 a2 a3 a4 a5 (hp_lv_set (v := .int x) a6 (a7 _ List.mem_cons_self) hl1) (fun v hv => a7 v (List.mem_cons_of_mem _ hv)) a8 a9)
theorem hs_lstore (C : hp_B cc G) (hK : ∀ pc lv st h w k n, K pc lv st h w k n → hp_W G pc lv st h w k n) {i : Nat} (hd : decode cc pc = .ok (.lstore i, 2)) (hi : cond (Nat.blt (i + 1) (g_n G)) (st_l st fun x r => K (pc + 2) (hp_set lv i (.long x)) r h w k n) False) : hp_W G pc lv st h w k n := by
  cases hb : Nat.blt (i + 1) (g_n G) with
  | false => rw [hb] at hi; exact hi.elim
  | true =>
    rw [hb] at hi
    obtain ⟨x, r, rfl, hj⟩ := st_l_of hi
    intro σ H locs ls a1 a2 a3 a4 a5 a6 a7 a8 a9
    have hlt : i + 1 < g_n G := by simpa [Nat.blt_eq] using hb
    exact lv_lstore (x := x) C.1 C.2.1 hd (hp_lv_real a6) hlt rfl (fun ls1 hl1 => hK _ _ _ _ _ _ _ hj σ H locs ls1 a1 a2 a3 a4 a5 (hp_lv_set (v := .long x) a6 (a7 _ List.mem_cons_self) hl1) (fun v hv => a7 v (List.mem_cons_of_mem _ hv)) a8 a9)
theorem hs_lstore_n (C : hp_B cc G) (hK : ∀ pc lv st h w k n, K pc lv st h w k n → hp_W G pc lv st h w k n) {i : Fin 4} (hd : decode cc pc = .ok (.lstore_n i, 1)) (hi : cond (Nat.blt (i.val + 1) (g_n G)) (st_l st fun x r => K (pc + 1) (hp_set lv i.val (.long x)) r h w k n) False) : hp_W G pc lv st h w k n := by
  cases hb : Nat.blt (i.val + 1) (g_n G) with
  | false => rw [hb] at hi; exact hi.elim
  | true =>
    rw [hb] at hi
    obtain ⟨x, r, rfl, hj⟩ := st_l_of hi
    intro σ H locs ls a1 a2 a3 a4 a5 a6 a7 a8 a9
    have hlt : i.val + 1 < g_n G := by simpa [Nat.blt_eq] using hb
    exact lv_lstore_n (x := x) C.1 C.2.1 hd rfl (hp_lv_real a6) hlt rfl (fun ls1 hl1 => hK _ _ _ _ _ _ _ hj σ H locs ls1 a1 a2 a3 a4 a5 (hp_lv_set (v := .long x) a6 (a7 _ List.mem_cons_self) hl1) (fun v hv => a7 v (List.mem_cons_of_mem _ hv)) a8 a9)
theorem hs_astore (C : hp_B cc G) (hK : ∀ pc lv st h w k n, K pc lv st h w k n → hp_W G pc lv st h w k n) {i : Nat} (hd : decode cc pc = .ok (.astore i, 2)) (hi : cond (Nat.blt (i) (g_n G)) (st_a st fun x r => K (pc + 2) (hp_set lv i (.ref x)) r h w k n) False) : hp_W G pc lv st h w k n := by
  cases hb : Nat.blt (i) (g_n G) with
  | false => rw [hb] at hi; exact hi.elim
  | true =>
    rw [hb] at hi
    obtain ⟨x, r, rfl, hj⟩ := st_a_of hi
    intro σ H locs ls a1 a2 a3 a4 a5 a6 a7 a8 a9
    have hlt : i < g_n G := by simpa [Nat.blt_eq] using hb
    exact lv_astore (x := σ.getD x 0) C.1 C.2.1 hd (hp_lv_real a6) hlt rfl (fun ls1 hl1 => hK _ _ _ _ _ _ _ hj σ H locs ls1 a1 a2 a3 a4 a5 (hp_lv_set (v := .ref x) a6 (a7 _ List.mem_cons_self) hl1) (fun v hv => a7 v (List.mem_cons_of_mem _ hv)) a8 a9)
theorem hs_astore_n (C : hp_B cc G) (hK : ∀ pc lv st h w k n, K pc lv st h w k n → hp_W G pc lv st h w k n) {i : Fin 4} (hd : decode cc pc = .ok (.astore_n i, 1)) (hi : cond (Nat.blt (i.val) (g_n G)) (st_a st fun x r => K (pc + 1) (hp_set lv i.val (.ref x)) r h w k n) False) : hp_W G pc lv st h w k n := by
  cases hb : Nat.blt (i.val) (g_n G) with
  | false => rw [hb] at hi; exact hi.elim
  | true =>
    rw [hb] at hi
    obtain ⟨x, r, rfl, hj⟩ := st_a_of hi
    intro σ H locs ls a1 a2 a3 a4 a5 a6 a7 a8 a9
    have hlt : i.val < g_n G := by simpa [Nat.blt_eq] using hb
    exact lv_astore_n (x := σ.getD x 0) C.1 C.2.1 hd rfl (hp_lv_real a6) hlt rfl (fun ls1 hl1 => hK _ _ _ _ _ _ _ hj σ H locs ls1 a1 a2 a3 a4 a5 (hp_lv_set (v := .ref x) a6 (a7 _ List.mem_cons_self) hl1) (fun v hv => a7 v (List.mem_cons_of_mem _ hv)) a8 a9)
theorem hs_iinc (C : hp_B cc G) (hK : ∀ pc lv st h w k n, K pc lv st h w k n → hp_W G pc lv st h w k n) {i : Nat} {c : Int} (hd : decode cc pc = .ok (.iinc i c, 3)) (hi : cond (Nat.blt i (g_n G) && decide (Int32.ofInt c = hp_c c)) (match hp_get lv i with | some (.int x) => K (pc + 3) (hp_set lv i (.int (x + hp_c c))) st h w k n | _ => False) False) : hp_W G pc lv st h w k n := by
  cases hb : (Nat.blt i (g_n G) && decide (Int32.ofInt c = hp_c c)) with
  | false => rw [hb] at hi; exact hi.elim
  | true =>
    rw [hb] at hi
    rw [Bool.and_eq_true] at hb
    have hlt : i < g_n G := by simpa [Nat.blt_eq] using hb.1
    have hc := of_decide_eq_true hb.2
    change (match hp_get lv i with | some (.int x) => K (pc + 3) (hp_set lv i (.int (x + hp_c c))) st h w k n | _ => False) at hi
    split at hi
    next x hg =>
      intro σ H locs ls a1 a2 a3 a4 a5 a6 a7 a8 a9
      obtain ⟨j, hj⟩ := List.getElem?_of_mem (List.mem_map.mpr ⟨_, hp_get_mem _ _ _ hg, rfl⟩ : (i, Value.int x) ∈ lv.map fun q => (q.1, hp_cv σ q.2))
      exact lv_iinc (v := x + hp_c c) C.1 C.2.1 hd (hp_lv_real a6) hj (by rw [hc]) hlt rfl (fun ls1 hl1 => hK _ _ _ _ _ _ _ hi σ H locs ls1 a1 a2 a3 a4 a5 (hp_lv_set (v := .int (x + hp_c c)) a6 trivial hl1) a7 a8 a9)
    next => exact hi.elim
theorem hs_iadd (C : hp_B cc G) (hK : ∀ pc lv st h w k n, K pc lv st h w k n → hp_W G pc lv st h w k n)  (hd : decode cc pc = .ok (.iadd, 1)) (hi : st_i st fun y r => st_i r fun x r => K (pc + 1) lv (.int (x + y) :: r) h w k n) : hp_W G pc lv st h w k n := by
  obtain ⟨y, r, rfl, hj⟩ := st_i_of hi
  obtain ⟨x, r, rfl, hk⟩ := st_i_of hj
  intro σ H locs ls a1 a2 a3 a4 a5 a6 a7 a8 a9
  exact lv_iadd C.1 C.2.1 hd (hK _ _ _ _ _ _ _ hk σ H locs ls a1 a2 a3 a4 a5 a6 (fun v hv => by rcases List.mem_cons.mp hv with e | e; (rw [e]; trivial); exact a7 v (List.mem_cons_of_mem _ (List.mem_cons_of_mem _ e))) a8 a9)
theorem hs_isub (C : hp_B cc G) (hK : ∀ pc lv st h w k n, K pc lv st h w k n → hp_W G pc lv st h w k n)  (hd : decode cc pc = .ok (.isub, 1)) (hi : st_i st fun y r => st_i r fun x r => K (pc + 1) lv (.int (x - y) :: r) h w k n) : hp_W G pc lv st h w k n := by
  obtain ⟨y, r, rfl, hj⟩ := st_i_of hi
  obtain ⟨x, r, rfl, hk⟩ := st_i_of hj
  intro σ H locs ls a1 a2 a3 a4 a5 a6 a7 a8 a9
  exact lv_isub C.1 C.2.1 hd (hK _ _ _ _ _ _ _ hk σ H locs ls a1 a2 a3 a4 a5 a6 (fun v hv => by rcases List.mem_cons.mp hv with e | e; (rw [e]; trivial); exact a7 v (List.mem_cons_of_mem _ (List.mem_cons_of_mem _ e))) a8 a9)
theorem hs_imul (C : hp_B cc G) (hK : ∀ pc lv st h w k n, K pc lv st h w k n → hp_W G pc lv st h w k n)  (hd : decode cc pc = .ok (.imul, 1)) (hi : st_i st fun y r => st_i r fun x r => K (pc + 1) lv (.int (x * y) :: r) h w k n) : hp_W G pc lv st h w k n := by
  obtain ⟨y, r, rfl, hj⟩ := st_i_of hi
  obtain ⟨x, r, rfl, hk⟩ := st_i_of hj
  intro σ H locs ls a1 a2 a3 a4 a5 a6 a7 a8 a9
  exact lv_imul C.1 C.2.1 hd (hK _ _ _ _ _ _ _ hk σ H locs ls a1 a2 a3 a4 a5 a6 (fun v hv => by rcases List.mem_cons.mp hv with e | e; (rw [e]; trivial); exact a7 v (List.mem_cons_of_mem _ (List.mem_cons_of_mem _ e))) a8 a9)
theorem hs_iand (C : hp_B cc G) (hK : ∀ pc lv st h w k n, K pc lv st h w k n → hp_W G pc lv st h w k n)  (hd : decode cc pc = .ok (.iand, 1)) (hi : st_i st fun y r => st_i r fun x r => K (pc + 1) lv (.int (x &&& y) :: r) h w k n) : hp_W G pc lv st h w k n := by
  obtain ⟨y, r, rfl, hj⟩ := st_i_of hi
  obtain ⟨x, r, rfl, hk⟩ := st_i_of hj
  intro σ H locs ls a1 a2 a3 a4 a5 a6 a7 a8 a9
  exact lv_iand C.1 C.2.1 hd (hK _ _ _ _ _ _ _ hk σ H locs ls a1 a2 a3 a4 a5 a6 (fun v hv => by rcases List.mem_cons.mp hv with e | e; (rw [e]; trivial); exact a7 v (List.mem_cons_of_mem _ (List.mem_cons_of_mem _ e))) a8 a9)
theorem hs_ior (C : hp_B cc G) (hK : ∀ pc lv st h w k n, K pc lv st h w k n → hp_W G pc lv st h w k n)  (hd : decode cc pc = .ok (.ior, 1)) (hi : st_i st fun y r => st_i r fun x r => K (pc + 1) lv (.int (x ||| y) :: r) h w k n) : hp_W G pc lv st h w k n := by
  obtain ⟨y, r, rfl, hj⟩ := st_i_of hi
  obtain ⟨x, r, rfl, hk⟩ := st_i_of hj
  intro σ H locs ls a1 a2 a3 a4 a5 a6 a7 a8 a9
  exact lv_ior C.1 C.2.1 hd (hK _ _ _ _ _ _ _ hk σ H locs ls a1 a2 a3 a4 a5 a6 (fun v hv => by rcases List.mem_cons.mp hv with e | e; (rw [e]; trivial); exact a7 v (List.mem_cons_of_mem _ (List.mem_cons_of_mem _ e))) a8 a9)
theorem hs_ixor (C : hp_B cc G) (hK : ∀ pc lv st h w k n, K pc lv st h w k n → hp_W G pc lv st h w k n)  (hd : decode cc pc = .ok (.ixor, 1)) (hi : st_i st fun y r => st_i r fun x r => K (pc + 1) lv (.int (x ^^^ y) :: r) h w k n) : hp_W G pc lv st h w k n := by
  obtain ⟨y, r, rfl, hj⟩ := st_i_of hi
  obtain ⟨x, r, rfl, hk⟩ := st_i_of hj
  intro σ H locs ls a1 a2 a3 a4 a5 a6 a7 a8 a9
  exact lv_ixor C.1 C.2.1 hd (hK _ _ _ _ _ _ _ hk σ H locs ls a1 a2 a3 a4 a5 a6 (fun v hv => by rcases List.mem_cons.mp hv with e | e; (rw [e]; trivial); exact a7 v (List.mem_cons_of_mem _ (List.mem_cons_of_mem _ e))) a8 a9)
theorem hs_ishl (C : hp_B cc G) (hK : ∀ pc lv st h w k n, K pc lv st h w k n → hp_W G pc lv st h w k n)  (hd : decode cc pc = .ok (.ishl, 1)) (hi : st_i st fun y r => st_i r fun x r => K (pc + 1) lv (.int (x <<< (y &&& 31)) :: r) h w k n) : hp_W G pc lv st h w k n := by
  obtain ⟨y, r, rfl, hj⟩ := st_i_of hi
  obtain ⟨x, r, rfl, hk⟩ := st_i_of hj
  intro σ H locs ls a1 a2 a3 a4 a5 a6 a7 a8 a9
  exact lv_ishl C.1 C.2.1 hd (hK _ _ _ _ _ _ _ hk σ H locs ls a1 a2 a3 a4 a5 a6 (fun v hv => by rcases List.mem_cons.mp hv with e | e; (rw [e]; trivial); exact a7 v (List.mem_cons_of_mem _ (List.mem_cons_of_mem _ e))) a8 a9)
theorem hs_ishr (C : hp_B cc G) (hK : ∀ pc lv st h w k n, K pc lv st h w k n → hp_W G pc lv st h w k n)  (hd : decode cc pc = .ok (.ishr, 1)) (hi : st_i st fun y r => st_i r fun x r => K (pc + 1) lv (.int (x >>> (y &&& 31)) :: r) h w k n) : hp_W G pc lv st h w k n := by
  obtain ⟨y, r, rfl, hj⟩ := st_i_of hi
  obtain ⟨x, r, rfl, hk⟩ := st_i_of hj
  intro σ H locs ls a1 a2 a3 a4 a5 a6 a7 a8 a9
  exact lv_ishr C.1 C.2.1 hd (hK _ _ _ _ _ _ _ hk σ H locs ls a1 a2 a3 a4 a5 a6 (fun v hv => by rcases List.mem_cons.mp hv with e | e; (rw [e]; trivial); exact a7 v (List.mem_cons_of_mem _ (List.mem_cons_of_mem _ e))) a8 a9)
theorem hs_ladd (C : hp_B cc G) (hK : ∀ pc lv st h w k n, K pc lv st h w k n → hp_W G pc lv st h w k n)  (hd : decode cc pc = .ok (.ladd, 1)) (hi : st_l st fun y r => st_l r fun x r => K (pc + 1) lv (.long (x + y) :: r) h w k n) : hp_W G pc lv st h w k n := by
  obtain ⟨y, r, rfl, hj⟩ := st_l_of hi
  obtain ⟨x, r, rfl, hk⟩ := st_l_of hj
  intro σ H locs ls a1 a2 a3 a4 a5 a6 a7 a8 a9
  exact lv_ladd C.1 C.2.1 hd (hK _ _ _ _ _ _ _ hk σ H locs ls a1 a2 a3 a4 a5 a6 (fun v hv => by rcases List.mem_cons.mp hv with e | e; (rw [e]; trivial); exact a7 v (List.mem_cons_of_mem _ (List.mem_cons_of_mem _ e))) a8 a9)
theorem hs_lsub (C : hp_B cc G) (hK : ∀ pc lv st h w k n, K pc lv st h w k n → hp_W G pc lv st h w k n)  (hd : decode cc pc = .ok (.lsub, 1)) (hi : st_l st fun y r => st_l r fun x r => K (pc + 1) lv (.long (x - y) :: r) h w k n) : hp_W G pc lv st h w k n := by
  obtain ⟨y, r, rfl, hj⟩ := st_l_of hi
  obtain ⟨x, r, rfl, hk⟩ := st_l_of hj
  intro σ H locs ls a1 a2 a3 a4 a5 a6 a7 a8 a9
  exact lv_lsub C.1 C.2.1 hd (hK _ _ _ _ _ _ _ hk σ H locs ls a1 a2 a3 a4 a5 a6 (fun v hv => by rcases List.mem_cons.mp hv with e | e; (rw [e]; trivial); exact a7 v (List.mem_cons_of_mem _ (List.mem_cons_of_mem _ e))) a8 a9)
theorem hs_lmul (C : hp_B cc G) (hK : ∀ pc lv st h w k n, K pc lv st h w k n → hp_W G pc lv st h w k n)  (hd : decode cc pc = .ok (.lmul, 1)) (hi : st_l st fun y r => st_l r fun x r => K (pc + 1) lv (.long (x * y) :: r) h w k n) : hp_W G pc lv st h w k n := by
  obtain ⟨y, r, rfl, hj⟩ := st_l_of hi
  obtain ⟨x, r, rfl, hk⟩ := st_l_of hj
  intro σ H locs ls a1 a2 a3 a4 a5 a6 a7 a8 a9
  exact lv_lmul C.1 C.2.1 hd (hK _ _ _ _ _ _ _ hk σ H locs ls a1 a2 a3 a4 a5 a6 (fun v hv => by rcases List.mem_cons.mp hv with e | e; (rw [e]; trivial); exact a7 v (List.mem_cons_of_mem _ (List.mem_cons_of_mem _ e))) a8 a9)
theorem hs_land (C : hp_B cc G) (hK : ∀ pc lv st h w k n, K pc lv st h w k n → hp_W G pc lv st h w k n)  (hd : decode cc pc = .ok (.land, 1)) (hi : st_l st fun y r => st_l r fun x r => K (pc + 1) lv (.long (x &&& y) :: r) h w k n) : hp_W G pc lv st h w k n := by
  obtain ⟨y, r, rfl, hj⟩ := st_l_of hi
  obtain ⟨x, r, rfl, hk⟩ := st_l_of hj
  intro σ H locs ls a1 a2 a3 a4 a5 a6 a7 a8 a9
  exact lv_land C.1 C.2.1 hd (hK _ _ _ _ _ _ _ hk σ H locs ls a1 a2 a3 a4 a5 a6 (fun v hv => by rcases List.mem_cons.mp hv with e | e; (rw [e]; trivial); exact a7 v (List.mem_cons_of_mem _ (List.mem_cons_of_mem _ e))) a8 a9)
theorem hs_lor (C : hp_B cc G) (hK : ∀ pc lv st h w k n, K pc lv st h w k n → hp_W G pc lv st h w k n)  (hd : decode cc pc = .ok (.lor, 1)) (hi : st_l st fun y r => st_l r fun x r => K (pc + 1) lv (.long (x ||| y) :: r) h w k n) : hp_W G pc lv st h w k n := by
  obtain ⟨y, r, rfl, hj⟩ := st_l_of hi
  obtain ⟨x, r, rfl, hk⟩ := st_l_of hj
  intro σ H locs ls a1 a2 a3 a4 a5 a6 a7 a8 a9
  exact lv_lor C.1 C.2.1 hd (hK _ _ _ _ _ _ _ hk σ H locs ls a1 a2 a3 a4 a5 a6 (fun v hv => by rcases List.mem_cons.mp hv with e | e; (rw [e]; trivial); exact a7 v (List.mem_cons_of_mem _ (List.mem_cons_of_mem _ e))) a8 a9)
theorem hs_lxor (C : hp_B cc G) (hK : ∀ pc lv st h w k n, K pc lv st h w k n → hp_W G pc lv st h w k n)  (hd : decode cc pc = .ok (.lxor, 1)) (hi : st_l st fun y r => st_l r fun x r => K (pc + 1) lv (.long (x ^^^ y) :: r) h w k n) : hp_W G pc lv st h w k n := by
  obtain ⟨y, r, rfl, hj⟩ := st_l_of hi
  obtain ⟨x, r, rfl, hk⟩ := st_l_of hj
  intro σ H locs ls a1 a2 a3 a4 a5 a6 a7 a8 a9
  exact lv_lxor C.1 C.2.1 hd (hK _ _ _ _ _ _ _ hk σ H locs ls a1 a2 a3 a4 a5 a6 (fun v hv => by rcases List.mem_cons.mp hv with e | e; (rw [e]; trivial); exact a7 v (List.mem_cons_of_mem _ (List.mem_cons_of_mem _ e))) a8 a9)
theorem hs_idiv (C : hp_B cc G) (hK : ∀ pc lv st h w k n, K pc lv st h w k n → hp_W G pc lv st h w k n)  (hd : decode cc pc = .ok (.idiv, 1)) (hi : st_i st fun y r => st_i r fun x r => ¬ y = 0 ∧ K (pc + 1) lv (.int (x / y) :: r) h w k n) : hp_W G pc lv st h w k n := by
  obtain ⟨y, r, rfl, hj⟩ := st_i_of hi
  obtain ⟨x, r, rfl, hk⟩ := st_i_of hj
  intro σ H locs ls a1 a2 a3 a4 a5 a6 a7 a8 a9
  exact lv_idiv C.1 C.2.1 hd hk.1 (hK _ _ _ _ _ _ _ hk.2 σ H locs ls a1 a2 a3 a4 a5 a6 (fun v hv => by rcases List.mem_cons.mp hv with e | e; (rw [e]; trivial); exact a7 v (List.mem_cons_of_mem _ (List.mem_cons_of_mem _ e))) a8 a9)
theorem hs_irem (C : hp_B cc G) (hK : ∀ pc lv st h w k n, K pc lv st h w k n → hp_W G pc lv st h w k n)  (hd : decode cc pc = .ok (.irem, 1)) (hi : st_i st fun y r => st_i r fun x r => ¬ y = 0 ∧ K (pc + 1) lv (.int (x - x / y * y) :: r) h w k n) : hp_W G pc lv st h w k n := by
  obtain ⟨y, r, rfl, hj⟩ := st_i_of hi
  obtain ⟨x, r, rfl, hk⟩ := st_i_of hj
  intro σ H locs ls a1 a2 a3 a4 a5 a6 a7 a8 a9
  exact lv_irem C.1 C.2.1 hd hk.1 (hK _ _ _ _ _ _ _ hk.2 σ H locs ls a1 a2 a3 a4 a5 a6 (fun v hv => by rcases List.mem_cons.mp hv with e | e; (rw [e]; trivial); exact a7 v (List.mem_cons_of_mem _ (List.mem_cons_of_mem _ e))) a8 a9)
theorem hs_iushr (C : hp_B cc G) (hK : ∀ pc lv st h w k n, K pc lv st h w k n → hp_W G pc lv st h w k n)  (hd : decode cc pc = .ok (.iushr, 1)) (hi : st_i st fun y r => st_i r fun x r => K (pc + 1) lv (.int ((x.toUInt32 >>> (y.toUInt32 &&& Int32.toUInt32 31)).toInt32) :: r) h w k n) : hp_W G pc lv st h w k n := by
  obtain ⟨y, r, rfl, hj⟩ := st_i_of hi
  obtain ⟨x, r, rfl, hk⟩ := st_i_of hj
  intro σ H locs ls a1 a2 a3 a4 a5 a6 a7 a8 a9
  exact lv_iushr C.1 C.2.1 hd rfl (hK _ _ _ _ _ _ _ hk σ H locs ls a1 a2 a3 a4 a5 a6 (fun v hv => by rcases List.mem_cons.mp hv with e | e; (rw [e]; trivial); exact a7 v (List.mem_cons_of_mem _ (List.mem_cons_of_mem _ e))) a8 a9)
theorem hs_lushr (C : hp_B cc G) (hK : ∀ pc lv st h w k n, K pc lv st h w k n → hp_W G pc lv st h w k n)  (hd : decode cc pc = .ok (.lushr, 1)) (hi : st_i st fun y r => st_l r fun x r => K (pc + 1) lv (.long ((x.toUInt64 >>> (y.toInt64.toUInt64 &&& Int64.toUInt64 63)).toInt64) :: r) h w k n) : hp_W G pc lv st h w k n := by
  obtain ⟨y, r, rfl, hj⟩ := st_i_of hi
  obtain ⟨x, r, rfl, hk⟩ := st_l_of hj
  intro σ H locs ls a1 a2 a3 a4 a5 a6 a7 a8 a9
  exact lv_lushr C.1 C.2.1 hd rfl (hK _ _ _ _ _ _ _ hk σ H locs ls a1 a2 a3 a4 a5 a6 (fun v hv => by rcases List.mem_cons.mp hv with e | e; (rw [e]; trivial); exact a7 v (List.mem_cons_of_mem _ (List.mem_cons_of_mem _ e))) a8 a9)
theorem hs_lshl (C : hp_B cc G) (hK : ∀ pc lv st h w k n, K pc lv st h w k n → hp_W G pc lv st h w k n)  (hd : decode cc pc = .ok (.lshl, 1)) (hi : st_i st fun y r => st_l r fun x r => K (pc + 1) lv (.long (x <<< (y.toInt64 &&& 63)) :: r) h w k n) : hp_W G pc lv st h w k n := by
  obtain ⟨y, r, rfl, hj⟩ := st_i_of hi
  obtain ⟨x, r, rfl, hk⟩ := st_l_of hj
  intro σ H locs ls a1 a2 a3 a4 a5 a6 a7 a8 a9
  exact lv_lshl C.1 C.2.1 hd rfl (hK _ _ _ _ _ _ _ hk σ H locs ls a1 a2 a3 a4 a5 a6 (fun v hv => by rcases List.mem_cons.mp hv with e | e; (rw [e]; trivial); exact a7 v (List.mem_cons_of_mem _ (List.mem_cons_of_mem _ e))) a8 a9)
theorem hs_lshr (C : hp_B cc G) (hK : ∀ pc lv st h w k n, K pc lv st h w k n → hp_W G pc lv st h w k n)  (hd : decode cc pc = .ok (.lshr, 1)) (hi : st_i st fun y r => st_l r fun x r => K (pc + 1) lv (.long (x >>> (y.toInt64 &&& 63)) :: r) h w k n) : hp_W G pc lv st h w k n := by
  obtain ⟨y, r, rfl, hj⟩ := st_i_of hi
  obtain ⟨x, r, rfl, hk⟩ := st_l_of hj
  intro σ H locs ls a1 a2 a3 a4 a5 a6 a7 a8 a9
  exact lv_lshr C.1 C.2.1 hd rfl (hK _ _ _ _ _ _ _ hk σ H locs ls a1 a2 a3 a4 a5 a6 (fun v hv => by rcases List.mem_cons.mp hv with e | e; (rw [e]; trivial); exact a7 v (List.mem_cons_of_mem _ (List.mem_cons_of_mem _ e))) a8 a9)
theorem hs_lcmp (C : hp_B cc G) (hK : ∀ pc lv st h w k n, K pc lv st h w k n → hp_W G pc lv st h w k n)  (hd : decode cc pc = .ok (.lcmp, 1)) (hi : st_l st fun y r => st_l r fun x r => K (pc + 1) lv (.int (lg_cmp x y) :: r) h w k n) : hp_W G pc lv st h w k n := by
  obtain ⟨y, r, rfl, hj⟩ := st_l_of hi
  obtain ⟨x, r, rfl, hk⟩ := st_l_of hj
  intro σ H locs ls a1 a2 a3 a4 a5 a6 a7 a8 a9
  exact W.lcmp C.1 C.2.1 hd (hK _ _ _ _ _ _ _ hk σ H locs ls a1 a2 a3 a4 a5 a6 (fun v hv => by rcases List.mem_cons.mp hv with e | e; (rw [e]; trivial); exact a7 v (List.mem_cons_of_mem _ (List.mem_cons_of_mem _ e))) a8 a9)
theorem hs_ineg (C : hp_B cc G) (hK : ∀ pc lv st h w k n, K pc lv st h w k n → hp_W G pc lv st h w k n)  (hd : decode cc pc = .ok (.ineg, 1)) (hi : st_i st fun x r => K (pc + 1) lv (.int (-x) :: r) h w k n) : hp_W G pc lv st h w k n := by
  obtain ⟨x, r, rfl, hj⟩ := st_i_of hi
  intro σ H locs ls a1 a2 a3 a4 a5 a6 a7 a8 a9
  exact lv_ineg C.1 C.2.1 hd (hK _ _ _ _ _ _ _ hj σ H locs ls a1 a2 a3 a4 a5 a6 (fun v hv => by rcases List.mem_cons.mp hv with e | e; (rw [e]; trivial); exact a7 v (List.mem_cons_of_mem _ e)) a8 a9)
theorem hs_lneg (C : hp_B cc G) (hK : ∀ pc lv st h w k n, K pc lv st h w k n → hp_W G pc lv st h w k n)  (hd : decode cc pc = .ok (.lneg, 1)) (hi : st_l st fun x r => K (pc + 1) lv (.long (-x) :: r) h w k n) : hp_W G pc lv st h w k n := by
  obtain ⟨x, r, rfl, hj⟩ := st_l_of hi
  intro σ H locs ls a1 a2 a3 a4 a5 a6 a7 a8 a9
  exact lv_lneg C.1 C.2.1 hd (hK _ _ _ _ _ _ _ hj σ H locs ls a1 a2 a3 a4 a5 a6 (fun v hv => by rcases List.mem_cons.mp hv with e | e; (rw [e]; trivial); exact a7 v (List.mem_cons_of_mem _ e)) a8 a9)
theorem hs_i2l (C : hp_B cc G) (hK : ∀ pc lv st h w k n, K pc lv st h w k n → hp_W G pc lv st h w k n)  (hd : decode cc pc = .ok (.i2l, 1)) (hi : st_i st fun x r => K (pc + 1) lv (.long (x.toInt64) :: r) h w k n) : hp_W G pc lv st h w k n := by
  obtain ⟨x, r, rfl, hj⟩ := st_i_of hi
  intro σ H locs ls a1 a2 a3 a4 a5 a6 a7 a8 a9
  exact lv_i2l C.1 C.2.1 hd rfl (hK _ _ _ _ _ _ _ hj σ H locs ls a1 a2 a3 a4 a5 a6 (fun v hv => by rcases List.mem_cons.mp hv with e | e; (rw [e]; trivial); exact a7 v (List.mem_cons_of_mem _ e)) a8 a9)
theorem hs_l2i (C : hp_B cc G) (hK : ∀ pc lv st h w k n, K pc lv st h w k n → hp_W G pc lv st h w k n)  (hd : decode cc pc = .ok (.l2i, 1)) (hi : st_l st fun x r => K (pc + 1) lv (.int (x.toInt32) :: r) h w k n) : hp_W G pc lv st h w k n := by
  obtain ⟨x, r, rfl, hj⟩ := st_l_of hi
  intro σ H locs ls a1 a2 a3 a4 a5 a6 a7 a8 a9
  exact lv_l2i C.1 C.2.1 hd rfl (hK _ _ _ _ _ _ _ hj σ H locs ls a1 a2 a3 a4 a5 a6 (fun v hv => by rcases List.mem_cons.mp hv with e | e; (rw [e]; trivial); exact a7 v (List.mem_cons_of_mem _ e)) a8 a9)
theorem hs_dup (C : hp_B cc G) (hK : ∀ pc lv st h w k n, K pc lv st h w k n → hp_W G pc lv st h w k n)  (hd : decode cc pc = .ok (.dup, 1)) (hi : st_v st fun x r => cond (Nat.beq x.category 1) (K (pc + 1) lv (x :: x :: r) h w k n) False) : hp_W G pc lv st h w k n := by
  obtain ⟨x, r, rfl, hj⟩ := st_v_of hi
  cases hb : Nat.beq x.category 1 with
  | false => rw [hb] at hj; exact hj.elim
  | true =>
    rw [hb] at hj
    intro σ H locs ls a1 a2 a3 a4 a5 a6 a7 a8 a9
    exact lv_dup C.1 C.2.1 hd (by rw [hp_cv_cat]; exact Nat.eq_of_beq_eq_true hb) (hK _ _ _ _ _ _ _ hj σ H locs ls a1 a2 a3 a4 a5 a6 (fun v hv => by rcases List.mem_cons.mp hv with e | e; (rw [e]; exact a7 x List.mem_cons_self); exact a7 v e) a8 a9)
theorem hs_pop (C : hp_B cc G) (hK : ∀ pc lv st h w k n, K pc lv st h w k n → hp_W G pc lv st h w k n)  (hd : decode cc pc = .ok (.pop, 1)) (hi : st_v st fun x r => cond (Nat.beq x.category 1) (K (pc + 1) lv r h w k n) False) : hp_W G pc lv st h w k n := by
  obtain ⟨x, r, rfl, hj⟩ := st_v_of hi
  cases hb : Nat.beq x.category 1 with
  | false => rw [hb] at hj; exact hj.elim
  | true =>
    rw [hb] at hj
    intro σ H locs ls a1 a2 a3 a4 a5 a6 a7 a8 a9
    exact lv_pop C.1 C.2.1 hd (by rw [hp_cv_cat]; exact Nat.eq_of_beq_eq_true hb) (hK _ _ _ _ _ _ _ hj σ H locs ls a1 a2 a3 a4 a5 a6 (fun v hv => a7 v (List.mem_cons_of_mem _ hv)) a8 a9)
theorem hs_dup2 (C : hp_B cc G) (hK : ∀ pc lv st h w k n, K pc lv st h w k n → hp_W G pc lv st h w k n)  (hd : decode cc pc = .ok (.dup2, 1)) (hi : st_v st fun x r => cond (Nat.beq x.category 2) (K (pc + 1) lv (x :: x :: r) h w k n) (st_v r fun y r => cond (Nat.beq x.category 1 && Nat.beq y.category 1) (K (pc + 1) lv (x :: y :: x :: y :: r) h w k n) False)) : hp_W G pc lv st h w k n := by
  obtain ⟨x, r, rfl, hj⟩ := st_v_of hi
  cases hb : Nat.beq x.category 2 with
  | true =>
    rw [hb] at hj
    intro σ H locs ls a1 a2 a3 a4 a5 a6 a7 a8 a9
    exact lv_dup2_2 C.1 C.2.1 hd (by rw [hp_cv_cat]; exact Nat.eq_of_beq_eq_true hb) (hK _ _ _ _ _ _ _ hj σ H locs ls a1 a2 a3 a4 a5 a6 (fun v hv => by rcases List.mem_cons.mp hv with e | e; (rw [e]; exact a7 x List.mem_cons_self); exact a7 v e) a8 a9)
  | false =>
    rw [hb] at hj
    obtain ⟨y, r, rfl, hk⟩ := st_v_of hj
    cases hb2 : (Nat.beq x.category 1 && Nat.beq y.category 1) with
    | false => rw [hb2] at hk; exact hk.elim
    | true =>
      rw [hb2] at hk
      intro σ H locs ls a1 a2 a3 a4 a5 a6 a7 a8 a9
      rw [Bool.and_eq_true] at hb2
      exact lv_dup2_11 C.1 C.2.1 hd (by rw [hp_cv_cat]; exact Nat.eq_of_beq_eq_true hb2.1) (by rw [hp_cv_cat]; exact Nat.eq_of_beq_eq_true hb2.2) (hK _ _ _ _ _ _ _ hk σ H locs ls a1 a2 a3 a4 a5 a6 (fun v hv => by rcases List.mem_cons.mp hv with e | e; (rw [e]; exact a7 x List.mem_cons_self); rcases List.mem_cons.mp e with e | e; (rw [e]; exact a7 y (List.mem_cons_of_mem _ List.mem_cons_self)); exact a7 v e) a8 a9)
theorem hs_dup_x1 (C : hp_B cc G) (hK : ∀ pc lv st h w k n, K pc lv st h w k n → hp_W G pc lv st h w k n)  (hd : decode cc pc = .ok (.dup_x1, 1)) (hi : st_v st fun x r => st_v r fun y r => cond (Nat.beq x.category 1 && Nat.beq y.category 1) (K (pc + 1) lv (x :: y :: x :: r) h w k n) False) : hp_W G pc lv st h w k n := by
  obtain ⟨x, r, rfl, hj⟩ := st_v_of hi
  obtain ⟨y, r, rfl, hk⟩ := st_v_of hj
  cases hb : (Nat.beq x.category 1 && Nat.beq y.category 1) with
  | false => rw [hb] at hk; exact hk.elim
  | true =>
    rw [hb] at hk
    intro σ H locs ls a1 a2 a3 a4 a5 a6 a7 a8 a9
    rw [Bool.and_eq_true] at hb
    exact lv_dup_x1 C.1 C.2.1 hd (by rw [hp_cv_cat]; exact Nat.eq_of_beq_eq_true hb.1) (by rw [hp_cv_cat]; exact Nat.eq_of_beq_eq_true hb.2) (hK _ _ _ _ _ _ _ hk σ H locs ls a1 a2 a3 a4 a5 a6 (fun v hv => by rcases List.mem_cons.mp hv with e | e; (rw [e]; exact a7 x List.mem_cons_self); rcases List.mem_cons.mp e with e | e; (rw [e]; exact a7 y (List.mem_cons_of_mem _ List.mem_cons_self)); rcases List.mem_cons.mp e with e | e; (rw [e]; exact a7 x List.mem_cons_self); exact a7 v (List.mem_cons_of_mem _ (List.mem_cons_of_mem _ e))) a8 a9)
theorem hs_if_eq (C : hp_B cc G) (hK : ∀ pc lv st h w k n, K pc lv st h w k n → hp_W G pc lv st h w k n) {o : Int} (hd : decode cc pc = .ok (.ifCond .eq o, 3)) (hi : st_i st fun x r => hp_go pc o fun q => (x = 0 → K q lv r h w k n) ∧ (¬ x = 0 → K (pc + 3) lv r h w k n)) : hp_W G pc lv st h w k n := by
  obtain ⟨x, r, rfl, hj⟩ := st_i_of hi
  obtain ⟨ht, hk⟩ := hp_go_of hj
  intro σ H locs ls a1 a2 a3 a4 a5 a6 a7 a8 a9
  exact lv_if_eq C.1 C.2.1 hd ht (fun q => hK _ _ _ _ _ _ _ (hk.1 q) σ H locs ls a1 a2 a3 a4 a5 a6 (fun v hv => a7 v (List.mem_cons_of_mem _ hv)) a8 a9) (fun q => hK _ _ _ _ _ _ _ (hk.2 q) σ H locs ls a1 a2 a3 a4 a5 a6 (fun v hv => a7 v (List.mem_cons_of_mem _ hv)) a8 a9)
theorem hs_if_ne (C : hp_B cc G) (hK : ∀ pc lv st h w k n, K pc lv st h w k n → hp_W G pc lv st h w k n) {o : Int} (hd : decode cc pc = .ok (.ifCond .ne o, 3)) (hi : st_i st fun x r => hp_go pc o fun q => (¬ x = 0 → K q lv r h w k n) ∧ (x = 0 → K (pc + 3) lv r h w k n)) : hp_W G pc lv st h w k n := by
  obtain ⟨x, r, rfl, hj⟩ := st_i_of hi
  obtain ⟨ht, hk⟩ := hp_go_of hj
  intro σ H locs ls a1 a2 a3 a4 a5 a6 a7 a8 a9
  exact lv_if_ne C.1 C.2.1 hd ht (fun q => hK _ _ _ _ _ _ _ (hk.1 q) σ H locs ls a1 a2 a3 a4 a5 a6 (fun v hv => a7 v (List.mem_cons_of_mem _ hv)) a8 a9) (fun q => hK _ _ _ _ _ _ _ (hk.2 q) σ H locs ls a1 a2 a3 a4 a5 a6 (fun v hv => a7 v (List.mem_cons_of_mem _ hv)) a8 a9)
theorem hs_if_lt (C : hp_B cc G) (hK : ∀ pc lv st h w k n, K pc lv st h w k n → hp_W G pc lv st h w k n) {o : Int} (hd : decode cc pc = .ok (.ifCond .lt o, 3)) (hi : st_i st fun x r => hp_go pc o fun q => (x < 0 → K q lv r h w k n) ∧ (¬ x < 0 → K (pc + 3) lv r h w k n)) : hp_W G pc lv st h w k n := by
  obtain ⟨x, r, rfl, hj⟩ := st_i_of hi
  obtain ⟨ht, hk⟩ := hp_go_of hj
  intro σ H locs ls a1 a2 a3 a4 a5 a6 a7 a8 a9
  exact lv_if_lt C.1 C.2.1 hd ht (fun q => hK _ _ _ _ _ _ _ (hk.1 q) σ H locs ls a1 a2 a3 a4 a5 a6 (fun v hv => a7 v (List.mem_cons_of_mem _ hv)) a8 a9) (fun q => hK _ _ _ _ _ _ _ (hk.2 q) σ H locs ls a1 a2 a3 a4 a5 a6 (fun v hv => a7 v (List.mem_cons_of_mem _ hv)) a8 a9)
theorem hs_if_ge (C : hp_B cc G) (hK : ∀ pc lv st h w k n, K pc lv st h w k n → hp_W G pc lv st h w k n) {o : Int} (hd : decode cc pc = .ok (.ifCond .ge o, 3)) (hi : st_i st fun x r => hp_go pc o fun q => (0 ≤ x → K q lv r h w k n) ∧ (¬ 0 ≤ x → K (pc + 3) lv r h w k n)) : hp_W G pc lv st h w k n := by
  obtain ⟨x, r, rfl, hj⟩ := st_i_of hi
  obtain ⟨ht, hk⟩ := hp_go_of hj
  intro σ H locs ls a1 a2 a3 a4 a5 a6 a7 a8 a9
  exact lv_if_ge C.1 C.2.1 hd ht (fun q => hK _ _ _ _ _ _ _ (hk.1 q) σ H locs ls a1 a2 a3 a4 a5 a6 (fun v hv => a7 v (List.mem_cons_of_mem _ hv)) a8 a9) (fun q => hK _ _ _ _ _ _ _ (hk.2 q) σ H locs ls a1 a2 a3 a4 a5 a6 (fun v hv => a7 v (List.mem_cons_of_mem _ hv)) a8 a9)
theorem hs_if_gt (C : hp_B cc G) (hK : ∀ pc lv st h w k n, K pc lv st h w k n → hp_W G pc lv st h w k n) {o : Int} (hd : decode cc pc = .ok (.ifCond .gt o, 3)) (hi : st_i st fun x r => hp_go pc o fun q => (0 < x → K q lv r h w k n) ∧ (¬ 0 < x → K (pc + 3) lv r h w k n)) : hp_W G pc lv st h w k n := by
  obtain ⟨x, r, rfl, hj⟩ := st_i_of hi
  obtain ⟨ht, hk⟩ := hp_go_of hj
  intro σ H locs ls a1 a2 a3 a4 a5 a6 a7 a8 a9
  exact lv_if_gt C.1 C.2.1 hd ht (fun q => hK _ _ _ _ _ _ _ (hk.1 q) σ H locs ls a1 a2 a3 a4 a5 a6 (fun v hv => a7 v (List.mem_cons_of_mem _ hv)) a8 a9) (fun q => hK _ _ _ _ _ _ _ (hk.2 q) σ H locs ls a1 a2 a3 a4 a5 a6 (fun v hv => a7 v (List.mem_cons_of_mem _ hv)) a8 a9)
theorem hs_if_le (C : hp_B cc G) (hK : ∀ pc lv st h w k n, K pc lv st h w k n → hp_W G pc lv st h w k n) {o : Int} (hd : decode cc pc = .ok (.ifCond .le o, 3)) (hi : st_i st fun x r => hp_go pc o fun q => (x ≤ 0 → K q lv r h w k n) ∧ (¬ x ≤ 0 → K (pc + 3) lv r h w k n)) : hp_W G pc lv st h w k n := by
  obtain ⟨x, r, rfl, hj⟩ := st_i_of hi
  obtain ⟨ht, hk⟩ := hp_go_of hj
  intro σ H locs ls a1 a2 a3 a4 a5 a6 a7 a8 a9
  exact lv_if_le C.1 C.2.1 hd ht (fun q => hK _ _ _ _ _ _ _ (hk.1 q) σ H locs ls a1 a2 a3 a4 a5 a6 (fun v hv => a7 v (List.mem_cons_of_mem _ hv)) a8 a9) (fun q => hK _ _ _ _ _ _ _ (hk.2 q) σ H locs ls a1 a2 a3 a4 a5 a6 (fun v hv => a7 v (List.mem_cons_of_mem _ hv)) a8 a9)
theorem hs_icmp_eq (C : hp_B cc G) (hK : ∀ pc lv st h w k n, K pc lv st h w k n → hp_W G pc lv st h w k n) {o : Int} (hd : decode cc pc = .ok (.if_icmp .eq o, 3)) (hi : st_i st fun y r => st_i r fun x r => hp_go pc o fun q => (x = y → K q lv r h w k n) ∧ (¬ x = y → K (pc + 3) lv r h w k n)) : hp_W G pc lv st h w k n := by
  obtain ⟨y, r, rfl, hj⟩ := st_i_of hi
  obtain ⟨x, r, rfl, hk⟩ := st_i_of hj
  obtain ⟨ht, hl⟩ := hp_go_of hk
  intro σ H locs ls a1 a2 a3 a4 a5 a6 a7 a8 a9
  exact lv_icmp_eq C.1 C.2.1 hd ht (fun q => hK _ _ _ _ _ _ _ (hl.1 q) σ H locs ls a1 a2 a3 a4 a5 a6 (fun v hv => a7 v (List.mem_cons_of_mem _ (List.mem_cons_of_mem _ hv))) a8 a9) (fun q => hK _ _ _ _ _ _ _ (hl.2 q) σ H locs ls a1 a2 a3 a4 a5 a6 (fun v hv => a7 v (List.mem_cons_of_mem _ (List.mem_cons_of_mem _ hv))) a8 a9)
theorem hs_icmp_ne (C : hp_B cc G) (hK : ∀ pc lv st h w k n, K pc lv st h w k n → hp_W G pc lv st h w k n) {o : Int} (hd : decode cc pc = .ok (.if_icmp .ne o, 3)) (hi : st_i st fun y r => st_i r fun x r => hp_go pc o fun q => (¬ x = y → K q lv r h w k n) ∧ (x = y → K (pc + 3) lv r h w k n)) : hp_W G pc lv st h w k n := by
  obtain ⟨y, r, rfl, hj⟩ := st_i_of hi
  obtain ⟨x, r, rfl, hk⟩ := st_i_of hj
  obtain ⟨ht, hl⟩ := hp_go_of hk
  intro σ H locs ls a1 a2 a3 a4 a5 a6 a7 a8 a9
  exact lv_icmp_ne C.1 C.2.1 hd ht (fun q => hK _ _ _ _ _ _ _ (hl.1 q) σ H locs ls a1 a2 a3 a4 a5 a6 (fun v hv => a7 v (List.mem_cons_of_mem _ (List.mem_cons_of_mem _ hv))) a8 a9) (fun q => hK _ _ _ _ _ _ _ (hl.2 q) σ H locs ls a1 a2 a3 a4 a5 a6 (fun v hv => a7 v (List.mem_cons_of_mem _ (List.mem_cons_of_mem _ hv))) a8 a9)
theorem hs_icmp_lt (C : hp_B cc G) (hK : ∀ pc lv st h w k n, K pc lv st h w k n → hp_W G pc lv st h w k n) {o : Int} (hd : decode cc pc = .ok (.if_icmp .lt o, 3)) (hi : st_i st fun y r => st_i r fun x r => hp_go pc o fun q => (x < y → K q lv r h w k n) ∧ (¬ x < y → K (pc + 3) lv r h w k n)) : hp_W G pc lv st h w k n := by
  obtain ⟨y, r, rfl, hj⟩ := st_i_of hi
  obtain ⟨x, r, rfl, hk⟩ := st_i_of hj
  obtain ⟨ht, hl⟩ := hp_go_of hk
  intro σ H locs ls a1 a2 a3 a4 a5 a6 a7 a8 a9
  exact lv_icmp_lt C.1 C.2.1 hd ht (fun q => hK _ _ _ _ _ _ _ (hl.1 q) σ H locs ls a1 a2 a3 a4 a5 a6 (fun v hv => a7 v (List.mem_cons_of_mem _ (List.mem_cons_of_mem _ hv))) a8 a9) (fun q => hK _ _ _ _ _ _ _ (hl.2 q) σ H locs ls a1 a2 a3 a4 a5 a6 (fun v hv => a7 v (List.mem_cons_of_mem _ (List.mem_cons_of_mem _ hv))) a8 a9)
theorem hs_icmp_ge (C : hp_B cc G) (hK : ∀ pc lv st h w k n, K pc lv st h w k n → hp_W G pc lv st h w k n) {o : Int} (hd : decode cc pc = .ok (.if_icmp .ge o, 3)) (hi : st_i st fun y r => st_i r fun x r => hp_go pc o fun q => (y ≤ x → K q lv r h w k n) ∧ (¬ y ≤ x → K (pc + 3) lv r h w k n)) : hp_W G pc lv st h w k n := by
  obtain ⟨y, r, rfl, hj⟩ := st_i_of hi
  obtain ⟨x, r, rfl, hk⟩ := st_i_of hj
  obtain ⟨ht, hl⟩ := hp_go_of hk
  intro σ H locs ls a1 a2 a3 a4 a5 a6 a7 a8 a9
  exact lv_icmp_ge C.1 C.2.1 hd ht (fun q => hK _ _ _ _ _ _ _ (hl.1 q) σ H locs ls a1 a2 a3 a4 a5 a6 (fun v hv => a7 v (List.mem_cons_of_mem _ (List.mem_cons_of_mem _ hv))) a8 a9) (fun q => hK _ _ _ _ _ _ _ (hl.2 q) σ H locs ls a1 a2 a3 a4 a5 a6 (fun v hv => a7 v (List.mem_cons_of_mem _ (List.mem_cons_of_mem _ hv))) a8 a9)
theorem hs_icmp_gt (C : hp_B cc G) (hK : ∀ pc lv st h w k n, K pc lv st h w k n → hp_W G pc lv st h w k n) {o : Int} (hd : decode cc pc = .ok (.if_icmp .gt o, 3)) (hi : st_i st fun y r => st_i r fun x r => hp_go pc o fun q => (y < x → K q lv r h w k n) ∧ (¬ y < x → K (pc + 3) lv r h w k n)) : hp_W G pc lv st h w k n := by
  obtain ⟨y, r, rfl, hj⟩ := st_i_of hi
  obtain ⟨x, r, rfl, hk⟩ := st_i_of hj
  obtain ⟨ht, hl⟩ := hp_go_of hk
  intro σ H locs ls a1 a2 a3 a4 a5 a6 a7 a8 a9
  exact lv_icmp_gt C.1 C.2.1 hd ht (fun q => hK _ _ _ _ _ _ _ (hl.1 q) σ H locs ls a1 a2 a3 a4 a5 a6 (fun v hv => a7 v (List.mem_cons_of_mem _ (List.mem_cons_of_mem _ hv))) a8 a9) (fun q => hK _ _ _ _ _ _ _ (hl.2 q) σ H locs ls a1 a2 a3 a4 a5 a6 (fun v hv => a7 v (List.mem_cons_of_mem _ (List.mem_cons_of_mem _ hv))) a8 a9)
theorem hs_icmp_le (C : hp_B cc G) (hK : ∀ pc lv st h w k n, K pc lv st h w k n → hp_W G pc lv st h w k n) {o : Int} (hd : decode cc pc = .ok (.if_icmp .le o, 3)) (hi : st_i st fun y r => st_i r fun x r => hp_go pc o fun q => (x ≤ y → K q lv r h w k n) ∧ (¬ x ≤ y → K (pc + 3) lv r h w k n)) : hp_W G pc lv st h w k n := by
  obtain ⟨y, r, rfl, hj⟩ := st_i_of hi
  obtain ⟨x, r, rfl, hk⟩ := st_i_of hj
  obtain ⟨ht, hl⟩ := hp_go_of hk
  intro σ H locs ls a1 a2 a3 a4 a5 a6 a7 a8 a9
  exact lv_icmp_le C.1 C.2.1 hd ht (fun q => hK _ _ _ _ _ _ _ (hl.1 q) σ H locs ls a1 a2 a3 a4 a5 a6 (fun v hv => a7 v (List.mem_cons_of_mem _ (List.mem_cons_of_mem _ hv))) a8 a9) (fun q => hK _ _ _ _ _ _ _ (hl.2 q) σ H locs ls a1 a2 a3 a4 a5 a6 (fun v hv => a7 v (List.mem_cons_of_mem _ (List.mem_cons_of_mem _ hv))) a8 a9)
theorem hs_goto (C : hp_B cc G) (hK : ∀ pc lv st h w k n, K pc lv st h w k n → hp_W G pc lv st h w k n) {o : Int} (hd : decode cc pc = .ok (.goto o, 3)) (hi : hp_go pc o fun q => K q lv st h w k n) : hp_W G pc lv st h w k n := by
  obtain ⟨ht, hj⟩ := hp_go_of hi
  intro σ H locs ls a1 a2 a3 a4 a5 a6 a7 a8 a9
  exact lv_goto C.1 C.2.1 hd ht (hK _ _ _ _ _ _ _ hj σ H locs ls a1 a2 a3 a4 a5 a6 a7 a8 a9)
end HpI
end
section
/-- what a class of the worlds brings: its words, the types of its fields -/
def hp_clsok : Prop := ∀ (ci : Nat) (r : vw_C), classes[ci]? = some r → (∀ w ∈ u_ws r.1 r.2.1 r.2.2, w ∈ hp_Ts) ∧ (∀ k, k < r.2.2 → parseFieldDescriptor (r.2.1 k).2.2.1 = some (hp_fty ci k)) ∧
  (∀ a, a < r.2.2 → ∀ b, b < r.2.2 → a ≠ b → (r.2.1 a).2.1 ≠ (r.2.1 b).2.1) ∧ Cond.instantiable r.1 r.2.2 ∈ hp_Ts ∧ Cond.initialized r.1 ∈ hp_Ts ∧ (∀ j, j < r.2.2 → defaultValue (hp_fty ci j) = vp_V (hp_new ci) j) ∧ (hp_new ci).length = r.2.2
/-- the tables' part of what stays the same, for a method of the class own -/
def hp_O (own : String) (G : hp_G) : Prop := (∀ w ∈ hp_Ts, w.before (g_a G) (g_s G) = true) ∧ (g_s G).vm.findClass own = some (g_m G).cls ∧ va_K (g_D G) classes [] (g_s G) ∧ g_z G ≤ (g_s G).heap.size
theorem hp_set_self (cell : Cell) {i : Nat} (v : Value) (h : i < cell.slots.size) : (cell.setSlot i v).slots[i]? = some v := by
  simp [Cell.setSlot, Array.getElem?_setIfInBounds, h]
theorem hp_set_arr {U : State} {cell : Cell} {ty : FieldType} (i : Nat) (v : Value) (h : U.isArrayOf cell ty) : U.isArrayOf (cell.setSlot i v) ty := h
theorem vp_V_set {fs : List Value} {k : Nat} {v : Value} (hk : k < fs.length) (j : Nat) : vp_V (fs.set k v) j = if j = k then v else vp_V fs j := by
  unfold vp_V
  rw [List.getD_eq_getElem?_getD, List.getD_eq_getElem?_getD]
  by_cases e : j = k
  · subst e
    rw [if_pos rfl, List.getElem?_set_self hk]; rfl
  · rw [if_neg e, List.getElem?_set_ne (Ne.symm e)]
theorem hp_fit_cv {σ : List Nat} {ty : FieldType} {v : Value} (h1 : narrow ty v = v) (h2 : fits ty v = true) : narrow ty (hp_cv σ v) = hp_cv σ v ∧ fits ty (hp_cv σ v) = true := by
  cases v with
  | ref a => cases ty <;> first | exact ⟨rfl, rfl⟩ | (exfalso; revert h2; decide) | (exfalso; simp [fits] at h2)
  | _ => exact ⟨h1, h2⟩
section HpM
variable {G : hp_G} {cc : ByteArray} {pc : Nat} {lv : hp_L} {st : List Value} {h : hp_H} {w : Bool} {k n : Nat} {K : hp_K}

theorem hs_getfield (C : hp_B cc G) (hK : ∀ pc lv st h w k n, K pc lv st h w k n → hp_W G pc lv st h w k n) {own : String} (O : hp_O own G) (hco : hp_clsok) {ci fk idx : Nat} {r0 : vw_C} (hc : classes[ci]? = some r0) (hk : fk < r0.2.2) (hlink : Cond.fieldLink own idx (r0.2.1 fk).1 (r0.2.1 fk).2.1 (r0.2.1 fk).2.2.1 ∈ hp_Ts)
    (hd : decode cc pc = .ok (.getfield idx, 3)) (hi : st_a st fun a r => ∃ fs, h[a]? = some (.inr (ci, fs)) ∧ K (pc + 3) lv (vp_V fs fk :: r) h w k n) : hp_W G pc lv st h w k n := by
  obtain ⟨a, r, rfl, fs, ha, hiq⟩ := st_a_of hi
  intro σ H locs ls a1 a2 a3 a4 a5 a6 a7 a8 a9
  obtain ⟨rc, cell, q0, q1, q2, q3, q4⟩ := a1.2.1 a _ ha
  have hr : rc = r0 := Option.some.inj (q0.symm.trans hc)
  subst hr
  obtain ⟨hts, hown, hKn, -⟩ := O
  obtain ⟨hS, hfc, kC, hkC, hkind⟩ := hKn.1 ci _ hc
  obtain ⟨cf, kf, fi, f, hfi, hsl⟩ := hS fk hk
  refine W.getf C.1 C.2.1 hown (hts _ hlink) hfi (u_facts hfc hkC (u_lays hts (hco ci _ hc).1 hk) hfi).1 q1 (by rw [q3]; exact fun q => by cases q) (v := hp_cv σ (vp_V fs fk)) (by rw [hsl]; exact (q4 fk hk).1) rfl rfl hd ?_
  exact hK _ _ _ _ _ _ _ hiq σ H locs ls a1 a2 a3 a4 a5 a6 (fun v hv => by rcases List.mem_cons.mp hv with e | e; (rw [e]; exact (q4 fk hk).2); exact a7 v (List.mem_cons_of_mem _ e)) a8 a9
/-- the heap behind a store into a field -/
theorem hp_rep_field {D : va_G} {z : Nat} {U : State} {σ : List Nat} {H H1 : Heap} (hKn : va_K D classes [] U) {args : Array Value} (hts : ∀ w ∈ hp_Ts, w.before args U = true) (hco : hp_clsok) (r : hp_rep D z U σ h H) {a ci fk : Nat} {fs : List Value} {r0 : vw_C} (hc : classes[ci]? = some r0) (hk : fk < r0.2.2) (ha : h[a]? = some (.inr (ci, fs))) (hl : fk < fs.length)
    {cell : Cell} (q1 : H[σ.getD a 0]? = some cell) (q2 : cell.cls = D.1 ci) (q3 : cell.vm = .none) (q4 : ∀ k, k < r0.2.2 → cell.slots[D.2 ci k]? = some (hp_cv σ (vp_V fs k)) ∧ hp_ok σ (vp_V fs k)) {v : Value} (hv : hp_ok σ v)
    (e1 : H1[σ.getD a 0]? = some (cell.setSlot (D.2 ci fk) (hp_cv σ v))) (e3 : ∀ q, q ≠ σ.getD a 0 → H1[q]? = H[q]?) : hp_rep D z U σ (h.set a (.inr (ci, fs.set fk v))) H1 := by
  have hap := va_apart (own := "") hts (hco ci _ hc).1 (hp_fty ci) (hco ci _ hc).2.1 (hco ci _ hc).2.2.1 hKn hc
  refine hp_rep_put r ha rfl ⟨r0, _, hc, e1, q2, q3, fun j hj => ?_⟩ e3 (fun c2 h2 => ?_)
  · rw [vp_V_set hl]
    by_cases e : j = fk
    · subst e
      rw [if_pos rfl]
      exact ⟨hp_set_self _ _ (k2_hasslot (q4 j hj).1), hv⟩
    · rw [if_neg e, slot_ne _ _ (hap fk j hk hj (Ne.symm e))]
      exact q4 j hj
  · rw [e1] at h2
    cases h2
    show cell.vm.isStatics = false
    rw [q3]; rfl
theorem hs_putfield (C : hp_B cc G) (hK : ∀ pc lv st h w k n, K pc lv st h w k n → hp_W G pc lv st h w k n) {own : String} (O : hp_O own G) (hco : hp_clsok) {ci fk idx : Nat} {r0 : vw_C} (hc : classes[ci]? = some r0) (hk : fk < r0.2.2) (hlink : Cond.fieldLink own idx (r0.2.1 fk).1 (r0.2.1 fk).2.1 (r0.2.1 fk).2.2.1 ∈ hp_Ts)
    (hfin : (r0.2.1 fk).2.2.2 = false ∨ ((r0.2.1 fk).2.2.2 = true ∧ (g_me G).name = "<init>" ∧ (r0.2.1 fk).1 = own))
    (hd : decode cc pc = .ok (.putfield idx, 3)) (hi : st_v st fun v r => st_a r fun a r => ∃ fs, h[a]? = some (.inr (ci, fs)) ∧ fk < fs.length ∧ narrow (hp_fty ci fk) v = v ∧ fits (hp_fty ci fk) v = true ∧ K (pc + 3) lv r (h.set a (.inr (ci, fs.set fk v))) false k n) : hp_W G pc lv st h w k n := by
  obtain ⟨v, r, rfl, hiq⟩ := st_v_of hi
  obtain ⟨a, r, rfl, fs, ha, hl, hn1, hn2, hiqq⟩ := st_a_of hiq
  intro σ H locs ls a1 a2 a3 a4 a5 a6 a7 a8 a9
  obtain ⟨rc, cell, q0, q1, q2, q3, q4⟩ := a1.2.1 a _ ha
  have hr : rc = r0 := Option.some.inj (q0.symm.trans hc)
  subst hr
  have hz : g_z G ≤ σ.getD a 0 := a1.2.2.2.1 a _ ha rfl
  have hv := a7 v List.mem_cons_self
  obtain ⟨hn, hfit⟩ := hp_fit_cv (σ := σ) hn1 hn2
  obtain ⟨hts, hown, hKn, -⟩ := O
  obtain ⟨hS, hfc, kC, hkC, hkind⟩ := hKn.1 ci _ hc
  obtain ⟨cf, kf, fi, f, hfi, hsl⟩ := hS fk hk
  have hst := (u_facts hfc hkC (u_lays hts (hco ci _ hc).1 hk) hfi).1
  have hty := (hco ci _ hc).2.1 fk hk
  have hlay := hts _ ((hco ci _ hc).1 _ (u_in_lay hk))
  unfold u_lay at hlay
  have kk : ∀ H' : Heap, H'[σ.getD a 0]? = some (cell.setSlot f.slot (hp_cv σ v)) → H'.size = H.size → (∀ q, q ≠ σ.getD a 0 → H'[q]? = H[q]?) → W (g_p G) (g_l G) (g_e G) (g_R G) (g_s G) (g_m G) (g_a G) (g_b G) (g_me G) (g_c G) H' (locs ++ [⟨σ.getD a 0, f.slot⟩]) k n (hp_Z G) (F0 (g_m G) (pc + 3) ls (r.map (hp_cv σ))) := by
    intro H' e1 e2 e3
    rw [hsl] at e1
    refine hK _ _ _ _ _ _ _ hiqq σ H' _ ls (hp_rep_field hKn hts hco a1 hc hk ha hl q1 q2 q3 q4 hv e1 e3) a2 ⟨by rw [e2]; exact a3.1, fun q hq => ?_⟩ (fun q hq => ?_) (fun q => by cases q) a6 (fun v hv => a7 v (List.mem_cons_of_mem _ (List.mem_cons_of_mem _ hv))) a8 a9
    · rw [e3 q (Nat.ne_of_lt (Nat.lt_of_lt_of_le hq hz))]
      exact a3.2 q hq
    · rcases List.mem_append.mp hq with hq | hq
      · exact a4 q hq
      · rw [List.mem_singleton.mp hq]; exact hz
  rcases hfin with hf0 | ⟨hf1, hf2, hf3⟩
  · rw [if_neg (by rw [hf0]; decide)] at hlay
    exact W.putK C.1 C.2.1 (f := f) ⟨hown, hts _ hlink, ⟨_, _, _, hfi⟩, hst⟩ (by rw [q2]; exact u_store hfc hkC hkind hlay hfi hty hn hfit) q1 q3 (by rw [hsl]; exact k2_hasslot (q4 fk hk).1) rfl rfl hd kk
  · rw [if_pos hf1] at hlay
    have hcf : (g_m G).cls = cf := by
      obtain ⟨_, _, c', _, _, _, -, -, hf', -, -, -, hown2, -⟩ := Cond.laysFinal_spec hlay
      have e1 : c' = cf := by have := hfi.symm.trans hf'; simp at this; exact this.1.symm
      rw [hf3] at hown2
      rw [← e1]; exact Option.some.inj (hown.symm.trans hown2)
    exact W.putFinK C.1 C.2.1 hown (hts _ hlink) hfi hst hcf hf2 (by rw [q2]; exact u_fits hfc hkC hkind (Or.inr hlay) hfi hty hn hfit) q1 q3 (by rw [hsl]; exact k2_hasslot (q4 fk hk).1) rfl rfl hd kk
theorem hs_iaload (C : hp_B cc G) (hK : ∀ pc lv st h w k n, K pc lv st h w k n → hp_W G pc lv st h w k n) (hd : decode cc pc = .ok (.iaload, 1)) {i : Int32} {a N : Nat} {r : List Value} {f : Nat → Int32} (hst : st = .int i :: .ref a :: r) (ha : h[a]? = some (.inl (.int, N, .inl f))) (hin : vp_in i N) (hi : K (pc + 1) lv (hp_el (.inl f) i.toNatClampNeg :: r) h w k n) : hp_W G pc lv st h w k n := by
  subst hst
  intro σ H locs ls a1 a2 a3 a4 a5 a6 a7 a8 a9
  obtain ⟨cell, q1, q2, q3, q4, q5⟩ := a1.2.1 a _ ha
  have hlt : i.toNatClampNeg < N := Nat.not_le.mp fun q => hin (Or.inr q)
  refine W.iald C.1 C.2.1 q1 q2 q3 (by rw [q4]; exact hin) (q5 _ hlt).1 rfl rfl hd ?_
  exact hK _ _ _ _ _ _ _ hi σ H locs ls a1 a2 a3 a4 a5 a6 (fun v hv => by rcases List.mem_cons.mp hv with e | e; (rw [e]; exact (q5 _ hlt).2); exact a7 v (List.mem_cons_of_mem _ (List.mem_cons_of_mem _ e))) a8 a9
theorem hs_ialoadS (C : hp_B cc G) (hK : ∀ pc lv st h w k n, K pc lv st h w k n → hp_W G pc lv st h w k n) (hd : decode cc pc = .ok (.iaload, 1)) {i : Int32} {a N : Nat} {r : List Value} {f : Nat → Int32} (hst : st = .int i :: .ref a :: r) (ha : h[a]? = some (.inl (.float, N, .inl f))) (hin : vp_in i N) (hi : K (pc + 1) lv (hp_el (.inl f) i.toNatClampNeg :: r) h w k n) : hp_W G pc lv st h w k n := by
  subst hst
  intro σ H locs ls a1 a2 a3 a4 a5 a6 a7 a8 a9
  obtain ⟨cell, q1, q2, q3, q4, q5⟩ := a1.2.1 a _ ha
  have hlt : i.toNatClampNeg < N := Nat.not_le.mp fun q => hin (Or.inr q)
  refine W.iald C.1 C.2.1 q1 q2 q3 (by rw [q4]; exact hin) (q5 _ hlt).1 rfl rfl hd ?_
  exact hK _ _ _ _ _ _ _ hi σ H locs ls a1 a2 a3 a4 a5 a6 (fun v hv => by rcases List.mem_cons.mp hv with e | e; (rw [e]; exact (q5 _ hlt).2); exact a7 v (List.mem_cons_of_mem _ (List.mem_cons_of_mem _ e))) a8 a9
theorem hs_laload (C : hp_B cc G) (hK : ∀ pc lv st h w k n, K pc lv st h w k n → hp_W G pc lv st h w k n) (hd : decode cc pc = .ok (.laload, 1)) {i : Int32} {a N : Nat} {r : List Value} {f : Nat → Int64} (hst : st = .int i :: .ref a :: r) (ha : h[a]? = some (.inl (.long, N, .inr <| .inl f))) (hin : vp_in i N) (hi : K (pc + 1) lv (hp_el (.inr <| .inl f) i.toNatClampNeg :: r) h w k n) : hp_W G pc lv st h w k n := by
  subst hst
  intro σ H locs ls a1 a2 a3 a4 a5 a6 a7 a8 a9
  obtain ⟨cell, q1, q2, q3, q4, q5⟩ := a1.2.1 a _ ha
  have hlt : i.toNatClampNeg < N := Nat.not_le.mp fun q => hin (Or.inr q)
  refine W.lald C.1 C.2.1 q1 q2 q3 (by rw [q4]; exact hin) (q5 _ hlt).1 rfl rfl hd ?_
  exact hK _ _ _ _ _ _ _ hi σ H locs ls a1 a2 a3 a4 a5 a6 (fun v hv => by rcases List.mem_cons.mp hv with e | e; (rw [e]; exact (q5 _ hlt).2); exact a7 v (List.mem_cons_of_mem _ (List.mem_cons_of_mem _ e))) a8 a9
theorem hs_zaload (C : hp_B cc G) (hK : ∀ pc lv st h w k n, K pc lv st h w k n → hp_W G pc lv st h w k n) (hd : decode cc pc = .ok (.baload, 1)) {i : Int32} {a N : Nat} {r : List Value} {f : Nat → Int32} (hst : st = .int i :: .ref a :: r) (ha : h[a]? = some (.inl (.boolean, N, .inl f))) (hin : vp_in i N) (hi : K (pc + 1) lv (hp_el (.inl f) i.toNatClampNeg :: r) h w k n) : hp_W G pc lv st h w k n := by
  subst hst
  intro σ H locs ls a1 a2 a3 a4 a5 a6 a7 a8 a9
  obtain ⟨cell, q1, q2, q3, q4, q5⟩ := a1.2.1 a _ ha
  have hlt : i.toNatClampNeg < N := Nat.not_le.mp fun q => hin (Or.inr q)
  refine W.zald C.1 C.2.1 q1 q2 q3 (by rw [q4]; exact hin) (q5 _ hlt).1 rfl rfl hd ?_
  exact hK _ _ _ _ _ _ _ hi σ H locs ls a1 a2 a3 a4 a5 a6 (fun v hv => by rcases List.mem_cons.mp hv with e | e; (rw [e]; exact (q5 _ hlt).2); exact a7 v (List.mem_cons_of_mem _ (List.mem_cons_of_mem _ e))) a8 a9
theorem hs_baload (C : hp_B cc G) (hK : ∀ pc lv st h w k n, K pc lv st h w k n → hp_W G pc lv st h w k n) (hd : decode cc pc = .ok (.baload, 1)) {i : Int32} {a N : Nat} {r : List Value} {f : Nat → Int32} (hst : st = .int i :: .ref a :: r) (ha : h[a]? = some (.inl (.byte, N, .inl f))) (hin : vp_in i N) (hi : K (pc + 1) lv (hp_el (.inl f) i.toNatClampNeg :: r) h w k n) : hp_W G pc lv st h w k n := by
  subst hst
  intro σ H locs ls a1 a2 a3 a4 a5 a6 a7 a8 a9
  obtain ⟨cell, q1, q2, q3, q4, q5⟩ := a1.2.1 a _ ha
  have hlt : i.toNatClampNeg < N := Nat.not_le.mp fun q => hin (Or.inr q)
  refine W.bald C.1 C.2.1 q1 q2 q3 (by rw [q4]; exact hin) (q5 _ hlt).1 rfl rfl hd ?_
  exact hK _ _ _ _ _ _ _ hi σ H locs ls a1 a2 a3 a4 a5 a6 (fun v hv => by rcases List.mem_cons.mp hv with e | e; (rw [e]; exact (q5 _ hlt).2); exact a7 v (List.mem_cons_of_mem _ (List.mem_cons_of_mem _ e))) a8 a9
theorem hs_aaload (C : hp_B cc G) (hK : ∀ pc lv st h w k n, K pc lv st h w k n → hp_W G pc lv st h w k n) (hd : decode cc pc = .ok (.aaload, 1)) {i : Int32} {a N : Nat} {r : List Value} {ty : FieldType} (hty : ty.isReference = true) (hty2 : hp_ty ty = ty) {f : Nat → Option Nat} (hst : st = .int i :: .ref a :: r) (ha : h[a]? = some (.inl (ty, N, .inr (.inr (.inr (.inr f)))))) (hin : vp_in i N) (hi : K (pc + 1) lv (va_rf (f i.toNatClampNeg) :: r) h w k n) : hp_W G pc lv st h w k n := by
  subst hst
  intro σ H locs ls a1 a2 a3 a4 a5 a6 a7 a8 a9
  obtain ⟨cell, q1, q2, q3, q4, q5⟩ := a1.2.1 a _ ha
  rw [hty2] at q2
  have hlt : i.toNatClampNeg < N := Nat.not_le.mp fun q => hin (Or.inr q)
  refine W.aald C.1 C.2.1 q1 q2 hty q3 (by rw [q4]; exact hin) (q5 _ hlt).1 rfl rfl hd ?_
  exact hK _ _ _ _ _ _ _ hi σ H locs ls a1 a2 a3 a4 a5 a6 (fun v hv => by rcases List.mem_cons.mp hv with e | e; (rw [e]; exact (q5 _ hlt).2); exact a7 v (List.mem_cons_of_mem _ (List.mem_cons_of_mem _ e))) a8 a9
/-- the heap behind a store into an array -/
theorem hp_rep_arr {D : va_G} {z : Nat} {U : State} {σ : List Nat} {H H1 : Heap} (r : hp_rep D z U σ h H) {a N i : Nat} {ty : FieldType} {x x' : hp_X} (ha : h[a]? = some (.inl (ty, N, x))) (hty : hp_wr (.inl (ty, N, x)) = true) (hi : i < N)
    {cell : Cell} (q1 : H[σ.getD a 0]? = some cell) (q2 : U.isArrayOf cell (hp_ty ty)) (q3 : cell.vm ≠ .unknown) (q4 : cell.slots.size = N) (q5 : ∀ j, j < N → cell.slots[j]? = some (hp_cv σ (hp_el x j)) ∧ hp_ok σ (hp_el x j)) {v : Value} (hv : hp_ok σ v)
    (hx : ∀ j, j < N → hp_el x' j = if j = i then v else hp_el x j)
    (e1 : H1[σ.getD a 0]? = some (cell.setSlot i (hp_cv σ v))) (e3 : ∀ q, q ≠ σ.getD a 0 → H1[q]? = H[q]?) : hp_rep D z U σ (h.set a (.inl (ty, N, x'))) H1 := by
  refine hp_rep_put r ha hty ⟨_, e1, q2, q3, by simp [Cell.setSlot, q4], fun j hj => ?_⟩ e3 (fun c2 h2 => ?_)
  · rw [hx j hj]
    by_cases e : j = i
    · subst e
      rw [if_pos rfl]
      exact ⟨hp_set_self _ _ (by omega), hv⟩
    · rw [if_neg e, slot_ne _ _ (Ne.symm e)]
      exact q5 j hj
  · rw [e1] at h2
    cases h2
    have hc := q2.1
    show cell.vm.isStatics = false
    cases hvm : cell.vm <;> first | rfl | exact absurd hvm (hc _)
theorem hs_iastore (C : hp_B cc G) (hK : ∀ pc lv st h w k n, K pc lv st h w k n → hp_W G pc lv st h w k n) (hd : decode cc pc = .ok (.iastore, 1)) {i : Int32} {x : Int32} {a N : Nat} {r : List Value} {f : Nat → Int32} (hst : st = .int x :: .int i :: .ref a :: r) (ha : h[a]? = some (.inl (.int, N, .inl f))) (hin : vp_in i N) (hi : K (pc + 1) lv r (h.set a (.inl (.int, N, .inl (upd f i.toNatClampNeg x)))) false k n) : hp_W G pc lv st h w k n := by
  subst hst
  intro σ H locs ls a1 a2 a3 a4 a5 a6 a7 a8 a9
  obtain ⟨cell, q1, q2, q3, q4, q5⟩ := a1.2.1 a _ ha
  have hz : g_z G ≤ σ.getD a 0 := a1.2.2.2.1 a _ ha rfl
  have hlt : i.toNatClampNeg < N := Nat.not_le.mp fun q => hin (Or.inr q)
  refine W.iast C.1 C.2.1 q1 q2 q3 (by rw [q4]; exact hin) rfl rfl hd fun H' e1 e2 e3 => ?_
  
  refine hK _ _ _ _ _ _ _ hi σ H' _ ls (hp_rep_arr (v := .int x) a1 ha rfl hlt q1 q2 q3 q4 q5 trivial (fun j hj => ?_) e1 e3) a2 ⟨by rw [e2]; exact a3.1, fun q hq => ?_⟩ (fun q hq => ?_) (fun q => by cases q) a6 (fun v hv => a7 v (List.mem_cons_of_mem _ (List.mem_cons_of_mem _ (List.mem_cons_of_mem _ hv)))) a8 a9
  · by_cases e : j = i.toNatClampNeg
    · rw [if_pos e]; simp [hp_el, upd, e]
    · rw [if_neg e]; simp [hp_el, upd, e]
  · rw [e3 q (Nat.ne_of_lt (Nat.lt_of_lt_of_le hq hz))]
    exact a3.2 q hq
  · rcases List.mem_append.mp hq with hq | hq
    · exact a4 q hq
    · rw [List.mem_singleton.mp hq]; exact hz
theorem hs_lastore (C : hp_B cc G) (hK : ∀ pc lv st h w k n, K pc lv st h w k n → hp_W G pc lv st h w k n) (hd : decode cc pc = .ok (.lastore, 1)) {i : Int32} {x : Int64} {a N : Nat} {r : List Value} {f : Nat → Int64} (hst : st = .long x :: .int i :: .ref a :: r) (ha : h[a]? = some (.inl (.long, N, .inr <| .inl f))) (hin : vp_in i N) (hi : K (pc + 1) lv r (h.set a (.inl (.long, N, .inr <| .inl (vp_updL f i.toNatClampNeg x)))) false k n) : hp_W G pc lv st h w k n := by
  subst hst
  intro σ H locs ls a1 a2 a3 a4 a5 a6 a7 a8 a9
  obtain ⟨cell, q1, q2, q3, q4, q5⟩ := a1.2.1 a _ ha
  have hz : g_z G ≤ σ.getD a 0 := a1.2.2.2.1 a _ ha rfl
  have hlt : i.toNatClampNeg < N := Nat.not_le.mp fun q => hin (Or.inr q)
  refine W.last C.1 C.2.1 q1 q2 q3 (by rw [q4]; exact hin) rfl rfl hd fun H' e1 e2 e3 => ?_
  
  refine hK _ _ _ _ _ _ _ hi σ H' _ ls (hp_rep_arr (v := .long x) a1 ha rfl hlt q1 q2 q3 q4 q5 trivial (fun j hj => ?_) e1 e3) a2 ⟨by rw [e2]; exact a3.1, fun q hq => ?_⟩ (fun q hq => ?_) (fun q => by cases q) a6 (fun v hv => a7 v (List.mem_cons_of_mem _ (List.mem_cons_of_mem _ (List.mem_cons_of_mem _ hv)))) a8 a9
  · by_cases e : j = i.toNatClampNeg
    · rw [if_pos e]; simp [hp_el, vp_updL, e]
    · rw [if_neg e]; simp [hp_el, vp_updL, e]
  · rw [e3 q (Nat.ne_of_lt (Nat.lt_of_lt_of_le hq hz))]
    exact a3.2 q hq
  · rcases List.mem_append.mp hq with hq | hq
    · exact a4 q hq
    · rw [List.mem_singleton.mp hq]; exact hz
theorem hs_zastore (C : hp_B cc G) (hK : ∀ pc lv st h w k n, K pc lv st h w k n → hp_W G pc lv st h w k n) (hd : decode cc pc = .ok (.bastore, 1)) {i : Int32} {x : Int32} {a N : Nat} {r : List Value} {f : Nat → Int32} (hst : st = .int x :: .int i :: .ref a :: r) (ha : h[a]? = some (.inl (.boolean, N, .inl f))) (hin : vp_in i N) (hnar : narrow .boolean (.int x) = .int x) (hi : K (pc + 1) lv r (h.set a (.inl (.boolean, N, .inl (upd f i.toNatClampNeg x)))) false k n) : hp_W G pc lv st h w k n := by
  subst hst
  intro σ H locs ls a1 a2 a3 a4 a5 a6 a7 a8 a9
  obtain ⟨cell, q1, q2, q3, q4, q5⟩ := a1.2.1 a _ ha
  have hz : g_z G ≤ σ.getD a 0 := a1.2.2.2.1 a _ ha rfl
  have hlt : i.toNatClampNeg < N := Nat.not_le.mp fun q => hin (Or.inr q)
  refine W.zast C.1 C.2.1 q1 q2 q3 (by rw [q4]; exact hin) rfl rfl hd fun H' e1 e2 e3 => ?_
  rw [hnar] at e1
  refine hK _ _ _ _ _ _ _ hi σ H' _ ls (hp_rep_arr (v := .int x) a1 ha rfl hlt q1 q2 q3 q4 q5 trivial (fun j hj => ?_) e1 e3) a2 ⟨by rw [e2]; exact a3.1, fun q hq => ?_⟩ (fun q hq => ?_) (fun q => by cases q) a6 (fun v hv => a7 v (List.mem_cons_of_mem _ (List.mem_cons_of_mem _ (List.mem_cons_of_mem _ hv)))) a8 a9
  · by_cases e : j = i.toNatClampNeg
    · rw [if_pos e]; simp [hp_el, upd, e]
    · rw [if_neg e]; simp [hp_el, upd, e]
  · rw [e3 q (Nat.ne_of_lt (Nat.lt_of_lt_of_le hq hz))]
    exact a3.2 q hq
  · rcases List.mem_append.mp hq with hq | hq
    · exact a4 q hq
    · rw [List.mem_singleton.mp hq]; exact hz
theorem hs_arraylength (C : hp_B cc G) (hK : ∀ pc lv st h w k n, K pc lv st h w k n → hp_W G pc lv st h w k n) (hd : decode cc pc = .ok (.arraylength, 1)) {a N : Nat} {r : List Value} {ty : FieldType} {x : hp_X} (hst : st = .ref a :: r) (ha : h[a]? = some (.inl (ty, N, x))) (hi : K (pc + 1) lv (.int (Int32.ofNat N) :: r) h w k n) : hp_W G pc lv st h w k n := by
  subst hst
  intro σ H locs ls a1 a2 a3 a4 a5 a6 a7 a8 a9
  obtain ⟨cell, q1, q2, q3, q4, q5⟩ := a1.2.1 a _ ha
  refine W.alen (n := Int32.ofNat N) C.1 C.2.1 q1 q2 (by rw [q4]) rfl rfl hd ?_
  exact hK _ _ _ _ _ _ _ hi σ H locs ls a1 a2 a3 a4 a5 a6 (fun v hv => by rcases List.mem_cons.mp hv with e | e; (rw [e]; trivial); exact a7 v (List.mem_cons_of_mem _ e)) a8 a9
def hp_zero (ty : FieldType) : hp_X := match ty with
  | .long => .inr (.inl fun _ => 0)
  | _ => .inl fun _ => 0
theorem hs_newarray (C : hp_B cc G) (hK : ∀ pc lv st h w k n, K pc lv st h w k n → hp_W G pc lv st h w k n) {own : String} (O : hp_O own G) {t : ArrayType} {ty : FieldType} (hty : newarray.typeOf t = ty) (hty2 : ty = .long ∨ ty = .int ∨ ty = .boolean ∨ ty = .byte) (harr : Cond.arrayClass ty ∈ hp_Ts) (hd : decode cc pc = .ok (.newarray t, 2)) {x : Int32} {N : Nat} {r : List Value} (hst : st = .int x :: r)
    (hx : ¬ x < 0) (hN : x.toNatClampNeg = N) (hb : N * componentBytes ty ≤ 536870912) (hc1 : k + 1 ≤ (g_R G).cells) (hc2 : n + N ≤ (g_R G).slots) (hi : K (pc + 2) lv (.ref h.length :: r) (h ++ [.inl (ty, N, hp_zero ty)]) w (k + 1) (n + N)) : hp_W G pc lv st h w k n := by
  subst hst
  subst hty
  intro σ H locs ls a1 a2 a3 a4 a5 a6 a7 a8 a9
  refine W.newaK C.1 C.2.1 (O.1 _ harr) rfl hd rfl hx hN hb hc1 hc2 (h := H.size) rfl fun H' cA e1 e2 e3 e4 => ?_
  have hzH : g_z G ≤ H.size := Nat.le_trans O.2.2.2 a3.1
  have hlen : σ.length = h.length := a1.1
  have hgl : (σ ++ [H.size]).getD h.length 0 = H.size := by rw [← hlen]; simp
  have hat : hp_at (g_D G) (g_s G) (σ ++ [H.size]) (.inl (newarray.typeOf t, N, hp_zero (newarray.typeOf t))) H.size H' := by
    refine ⟨_, e1, ?_, (fun q => by cases q), arrV_size _ _ _, fun j hj => ?_⟩
    · have h4 := e4 N (fun _ => defaultValue (newarray.typeOf t))
      rcases hty2 with e | e | e | e <;> (rw [e] at h4 ⊢; exact h4)
    · rw [arrV_read _ _ hj]
      rcases hty2 with e | e | e | e <;> (rw [e]; exact ⟨rfl, trivial⟩)
  have hW := hK _ _ _ _ _ _ _ hi (σ ++ [H.size]) H' locs ls (hp_rep_push a1 hzH hat (fun q hq => e3 q hq) e2 (fun c2 h2 => by rw [e1] at h2; cases h2; rfl)) (hp_le_tr a2 (hp_le_push _)) ⟨by rw [e2]; exact Nat.le_trans a3.1 (Nat.le_succ _), fun q hq => by rw [e3 q (by omega)]; exact a3.2 q hq⟩ a4 a5 (hp_lv_mono (hp_le_push _) a6)
    (fun v hv => by
      rcases List.mem_cons.mp hv with e | e
      · rw [e]; show h.length < (σ ++ [H.size]).length; simp [hlen]
      · exact hp_ok_mono (hp_le_push _) (a7 v (List.mem_cons_of_mem _ e))) hc1 hc2
  have hmap : ((Value.ref h.length) :: r).map (hp_cv (σ ++ [H.size])) = .ref H.size :: r.map (hp_cv σ) := by
    rw [List.map_cons]
    refine congr (congrArg List.cons ?_) (List.map_congr_left fun v hv => hp_cv_mono (hp_le_push _) (a7 v (List.mem_cons_of_mem _ hv)))
    show Value.ref _ = _
    rw [hgl]
  rw [hmap] at hW
  exact hW
theorem hs_new (C : hp_B cc G) (hK : ∀ pc lv st h w k n, K pc lv st h w k n → hp_W G pc lv st h w k n) {own : String} (O : hp_O own G) (hco : hp_clsok) {ci idx : Nat} {r0 : vw_C} (hc : classes[ci]? = some r0) (hcl : Cond.classLink own idx r0.1 ∈ hp_Ts) (hd : decode cc pc = .ok (.new idx, 3))
    (hc1 : k + 1 ≤ (g_R G).cells) (hc2 : n + r0.2.2 ≤ (g_R G).slots) (hi : K (pc + 3) lv (.ref h.length :: st) (h ++ [.inr (ci, hp_new ci)]) w (k + 1) (n + r0.2.2)) : hp_W G pc lv st h w k n := by
  intro σ H locs ls a1 a2 a3 a4 a5 a6 a7 a8 a9
  obtain ⟨hts, hown, hKn, hzs⟩ := O
  obtain ⟨o1, o2, o3, o4, o5, o6, o7⟩ := hco ci _ hc
  have hKc := hKn.1 ci _ hc
  refine W.newcK C.1 C.2.1 hown (hts _ hcl) (hts _ o4) (hts _ o5) rfl hd hc1 hc2 hKc.2.1 (h := H.size) rfl fun H' kC hkC e1 e2 e3 => ?_
  have hzH : g_z G ≤ H.size := Nat.le_trans hzs a3.1
  have hlen : σ.length = h.length := a1.1
  have hgl : (σ ++ [H.size]).getD h.length 0 = H.size := by rw [← hlen]; simp
  obtain ⟨cell, b1, b2, b3, b4⟩ := u_born (hp_fty ci) hts o1 hKc hkC e1 o2
  have hdef : ∀ (t : FieldType) (τ : List Nat), hp_cv τ (defaultValue t) = defaultValue t ∧ hp_ok τ (defaultValue t) := fun t τ => by cases t <;> exact ⟨rfl, trivial⟩
  have hat : hp_at (g_D G) (g_s G) (σ ++ [H.size]) (.inr (ci, hp_new ci)) H.size H' := by
    refine ⟨r0, cell, hc, b1, b2, b3, fun j hj => ?_⟩
    rw [← o6 j hj, (hdef _ _).1]
    exact ⟨b4 j hj, (hdef _ _).2⟩
  have hW := hK _ _ _ _ _ _ _ hi (σ ++ [H.size]) H' locs ls (hp_rep_push a1 hzH hat (fun q hq => e3 q hq) e2 (fun c2 h2 => by rw [b1] at h2; cases h2; rw [b3]; rfl)) (hp_le_tr a2 (hp_le_push _)) ⟨by rw [e2]; exact Nat.le_trans a3.1 (Nat.le_succ _), fun q hq => by rw [e3 q (by omega)]; exact a3.2 q hq⟩ a4 a5 (hp_lv_mono (hp_le_push _) a6)
    (fun v hv => by
      rcases List.mem_cons.mp hv with e | e
      · rw [e]; show h.length < (σ ++ [H.size]).length; simp [hlen]
      · exact hp_ok_mono (hp_le_push _) (a7 v e)) hc1 hc2
  have hmap : ((Value.ref h.length) :: st).map (hp_cv (σ ++ [H.size])) = .ref H.size :: st.map (hp_cv σ) := by
    rw [List.map_cons]
    refine congr (congrArg List.cons ?_) (List.map_congr_left fun v hv => hp_cv_mono (hp_le_push _) (a7 v hv))
    show Value.ref _ = _
    rw [hgl]
  rw [hmap] at hW
  exact hW
theorem hp_mono_W {p : Program} {l : Launch} {e : Env} {R : Room} {s : State} {m : MethodId} {args : Array Value} {below : List Frame} {meth : Method} {c : Code} {H : Heap} {locs : List Loc} {cells slots : Nat} {Q Q' : State → Prop} {g : JFrame} (hQ : ∀ t, Q t → Q' t) (w : W p l e R s m args below meth c H locs cells slots Q g) : W p l e R s m args below meth c H locs cells slots Q' g := fun T hT X => by
  obtain ⟨t, a, b⟩ := w T hT X
  exact ⟨t, a, hQ t b⟩
/-- what a return leaves, but for the places written -/
def hp_E0 (G : hp_G) : Array Value → State → Outcome → State → Prop := fun _ s o t => ∃ (r : hp_R) (h' : hp_H) (σ' : List Nat), hp_le (g_σ G) σ' ∧ hp_out σ' r o t ∧ hp_rep (g_D G) (g_z G) t σ' h' t.heap ∧ hp_fr (g_z G) s.heap t.heap ∧ g_Q G r h'
theorem hp_Z_of {t : State} (h : MQ (g_b G) (hp_E0 G) (g_a G) (g_s G) (g_R G).cells (g_R G).slots (fun q => g_z G ≤ q ∧ g_w G = false) t) : hp_Z G t := by
  obtain ⟨o, h1, h2, ⟨r, h', σ', b1, b2, b3, b4, b5⟩, L, ⟨-, hW, hs⟩, hL⟩ := h
  refine ⟨o, h1, h2, r, h', σ', b1, b2, b3, b4, b5, hW, L, hs, fun q hq => (hL q hq).1, fun e => ?_⟩
  cases L with
  | nil => rfl
  | cons q _ =>
    have := (hL q List.mem_cons_self).2
    rw [e] at this
    cases this
/-- the method may end here: its mark keeps -/
def hp_end (G : hp_G) (w : Bool) (P : Prop) : Prop := cond (!(g_w G) || w) P False
theorem hp_end_of {P : Prop} (h : hp_end G w P) : (g_w G = true → w = true) ∧ P := by
  unfold hp_end at h
  cases hg : g_w G with
  | false =>
    rw [hg] at h
    exact ⟨(fun e => by cases e), (by cases w <;> exact h)⟩
  | true =>
    rw [hg] at h
    cases w with
    | true => exact ⟨fun _ => rfl, h⟩
    | false => exact False.elim h
theorem hp_ret {H : Heap} {locs : List Loc} {σ : List Nat} (a1 : hp_rep (g_D G) (g_z G) (g_s G) σ h H) (a2 : hp_le (g_σ G) σ) (a3 : hp_fr (g_z G) (g_s G).heap H) {r : hp_R} {o : Outcome} (ho : ∀ t : State, hp_out σ r o t) (hq : g_Q G r h) (t : State) (ht : t.heap = H) (hW : (g_s G).WarmedH t.vm) : hp_E0 G (g_a G) (g_s G) o t :=
  ⟨r, h, σ, a2, ho t, by rw [ht]; exact hp_rep_moved hW.alike a1, by rw [ht]; exact a3, hq⟩
theorem hp_fre {locs : List Loc} (a4 : ∀ q ∈ locs, g_z G ≤ q.base) (a5 : w = true → locs = []) (hw : g_w G = true → w = true) : ∀ q ∈ locs, (fun q => g_z G ≤ q ∧ g_w G = false) q.base := by
  intro q hq
  refine ⟨a4 q hq, ?_⟩
  cases hg : g_w G with
  | false => rfl
  | true =>
    rw [a5 (hw hg)] at hq
    cases hq
theorem hs_ireturn (C : hp_B cc G) (hK : ∀ pc lv st h w k n, K pc lv st h w k n → hp_W G pc lv st h w k n) {ty : FieldType} (hr : (g_me G).sig.returnType = some ty) (hlk : (g_me G).locks = false) (hd : decode cc pc = .ok (.ireturn, 1)) {x : Int32} (hst : st = [.int x]) (hi : narrow ty (.int x) = .int x ∧ hp_end G w (g_Q G (.inl (some (.int x))) h)) : hp_W G pc lv st h w k n := by
  subst hst
  obtain ⟨hn, hiq⟩ := hi
  obtain ⟨hw, hq⟩ := hp_end_of hiq
  intro σ H locs ls a1 a2 a3 a4 a5 a6 a7 a8 a9
  refine W.widen a8 a9 (hp_mono_W (fun t => hp_Z_of) ?_)
  exact W.zret C.1 C.2.1 hr hn (hp_ret (locs := locs) a1 a2 a3 (r := .inl (some (.int x))) (fun _ => ⟨trivial, rfl⟩) hq) (hp_fre a4 a5 hw) hd hlk
theorem hs_lreturn (C : hp_B cc G) (hK : ∀ pc lv st h w k n, K pc lv st h w k n → hp_W G pc lv st h w k n) (hr : (g_me G).sig.returnType = some .long) (hlk : (g_me G).locks = false) (hd : decode cc pc = .ok (.lreturn, 1)) {x : Int64} (hst : st = [.long x]) (hi : hp_end G w (g_Q G (.inl (some (.long x))) h)) : hp_W G pc lv st h w k n := by
  subst hst
  skip
  obtain ⟨hw, hq⟩ := hp_end_of hi
  intro σ H locs ls a1 a2 a3 a4 a5 a6 a7 a8 a9
  refine W.widen a8 a9 (hp_mono_W (fun t => hp_Z_of) ?_)
  exact W.lret C.1 C.2.1 hr (hp_ret (locs := locs) a1 a2 a3 (r := .inl (some (.long x))) (fun _ => ⟨trivial, rfl⟩) hq) (hp_fre a4 a5 hw) hd hlk
theorem hs_return (C : hp_B cc G) (hK : ∀ pc lv st h w k n, K pc lv st h w k n → hp_W G pc lv st h w k n) (hr : (g_me G).sig.returnType = none) (hlk : (g_me G).locks = false) (hd : decode cc pc = .ok (.return_, 1)) (hst : st = []) (hi : hp_end G w (g_Q G (.inl none) h)) : hp_W G pc lv st h w k n := by
  subst hst
  obtain ⟨hw, hq⟩ := hp_end_of hi
  intro σ H locs ls a1 a2 a3 a4 a5 a6 a7 a8 a9
  refine W.widen a8 a9 (hp_mono_W (fun t => hp_Z_of) ?_)
  exact W.vret C.1 C.2.1 hr (hp_ret (locs := locs) a1 a2 a3 (r := .inl none) (fun _ => rfl) hq) (hp_fre a4 a5 hw) hd hlk
theorem hs_areturn (C : hp_B cc G) (hK : ∀ pc lv st h w k n, K pc lv st h w k n → hp_W G pc lv st h w k n) {rt : FieldType} (hr : (g_me G).sig.returnType = some rt) (hrt : (∃ n, rt = .object n) ∨ ∃ t, rt = .array t) (hlk : (g_me G).locks = false) (hd : decode cc pc = .ok (.areturn, 1)) {x : Nat} (hst : st = [.ref x]) (hi : hp_end G w (g_Q G (.inl (some (.ref x))) h)) : hp_W G pc lv st h w k n := by
  subst hst
  obtain ⟨hw, hq⟩ := hp_end_of hi
  intro σ H locs ls a1 a2 a3 a4 a5 a6 a7 a8 a9
  refine W.widen a8 a9 (hp_mono_W (fun t => hp_Z_of) ?_)
  exact W.aret C.1 C.2.1 hr hrt (Or.inr ⟨_, rfl⟩) (hp_ret (locs := locs) a1 a2 a3 (r := .inl (some (.ref x))) (fun _ => ⟨a7 _ List.mem_cons_self, rfl⟩) hq) (hp_fre a4 a5 hw) hd hlk
end HpM
end
section
/-! CALLS. Y: a method: its name, bytes, locals, answer's type, handlers; the frames and words below it; how many arguments. -/
abbrev hp_Y : Type := MethodName × ByteArray × Nat × Option FieldType × List (Nat × Nat × Nat × Nat) × Nat × Nat × Nat
abbrev y_nm (Y : hp_Y) : MethodName := Y.1
abbrev y_cc (Y : hp_Y) : ByteArray := Y.2.1
abbrev y_mx (Y : hp_Y) : Nat := Y.2.2.1
abbrev y_rt (Y : hp_Y) : Option FieldType := Y.2.2.2.1
abbrev y_hd (Y : hp_Y) : List (Nat × Nat × Nat × Nat) := Y.2.2.2.2.1
abbrev y_fr (Y : hp_Y) : Nat := Y.2.2.2.2.2.1
abbrev y_lo (Y : hp_Y) : Nat := Y.2.2.2.2.2.2.1
abbrev y_na (Y : hp_Y) : Nat := Y.2.2.2.2.2.2.2
def hp_cd (Y : hp_Y) : Jvm.Cond := match y_hd Y with
  | [] => .code (y_nm Y) (y_cc Y) (y_mx Y) (y_rt Y)
  | q :: hh => .codeWith (y_nm Y) (y_cc Y) (y_mx Y) (y_rt Y) (q :: hh)
theorem hp_cd_spec {Y : hp_Y} {args : Array Value} {s : State} {mk : MethodId} (hn : s.methodNamed? (y_nm Y) = some mk) (h : (hp_cd Y).before args s = true) :
    ∃ meth c, s.vm.method? mk = some meth ∧ meth.code = some c ∧ c.code = y_cc Y ∧ c.maxLocals = y_mx Y ∧ meth.sig.returnType = y_rt Y ∧ meth.locks = false ∧ c.exceptionTable.toList.map (fun h => (h.startPc, h.endPc, h.handlerPc, h.catchType)) = y_hd Y ∧ parseMethodDescriptor (y_nm Y).desc = some meth.sig := by
  unfold hp_cd at h
  split at h
  next e =>
    obtain ⟨meth, c, h1, h2, h3, h4, h5, h6, h7, h8⟩ := Cond.code_spec hn h
    have h0 : c.exceptionTable.size = 0 := by simpa [Array.isEmpty] using h7
    have h9 : c.exceptionTable.toList = [] := List.eq_nil_of_length_eq_zero (by simpa using h0)
    exact ⟨meth, c, h1, h2, h3, h4, h5, h6, by rw [h9, e]; rfl, h8⟩
  next q hh e =>
    obtain ⟨m9, meth, c, hn9, h1, h2, h3, h4, h7, h5, h6, h8⟩ := Cond.codeWith_spec h
    cases hn.symm.trans hn9
    exact ⟨meth, c, h1, h2, h3, h4, h5, h6, by rw [h7, e], h8⟩
def hp_noT (l : Launch) : Prop := ∀ e : Env, l.admits e → e.platform.stackTraces = false
/-- what a throw finds outside the places, in every later state too -/
def hp_thr (z : Nat) (U : State) : Prop := ∀ V : State, U.WarmedH V.vm → (∀ q : Nat, q < z → V.heap[q]? = U.heap[q]?) → (∀ w ∈ hp_Ts, ∀ a : Array Value, w.before a V = true) ∧ (∀ q ∈ hp_strs, ∃ sa : Nat, vk_R q.1 q.2.1 q.2.2 sa V) ∧ ∀ q ∈ hp_ncs, va_Nc q.1 q.2 V
theorem hp_thr_moved {z : Nat} {U V : State} (h : hp_thr z U) (hW : U.WarmedH V.vm) (hh : ∀ q : Nat, q < z → V.heap[q]? = U.heap[q]?) : hp_thr z V :=
  fun X hX hq => h X (State.WarmedH.trans hW hX) (fun q hz => (hq q hz).trans (hh q hz))
def hp_pre (D : va_G) (z : Nat) (σ : List Nat) (h : hp_H) (U : State) : Prop := hp_rep D z U σ h U.heap ∧ va_K D classes [] U ∧ z ≤ U.heap.size ∧ hp_thr z U
/-- THE CONTRACT of a call: with these arguments, in this heap: it ends as Q says; at most dk cells of dn slots are new; w: nothing that was there is written -/
def hp_M (l : Launch) (Y : hp_Y) (av : List Value) (h : hp_H) (w : Bool) (dk dn : Nat) (Q : hp_R → hp_H → Prop) : Prop :=
  hp_noT l → ∀ (D : va_G) (z : Nat) (σ : List Nat), MetFree l (y_nm Y) (headSpec [hp_cd Y] { frames := y_fr Y, cells := dk, slots := dn, locals := y_lo Y })
    (fun a U => a = (av.map (hp_cv σ)).toArray ∧ (∀ v ∈ av, hp_ok σ v) ∧ hp_pre D z σ h U) (fun _ _ _ _ _ => True) (fun _ s o t => hp_E D z σ w Q dk dn s o t)
theorem hp_M_weak {l : Launch} {Y : hp_Y} {av : List Value} {h : hp_H} {w : Bool} {dk dn : Nat} {Q Q' : hp_R → hp_H → Prop} (hM : hp_M l Y av h w dk dn Q) (hQ : ∀ r h', Q r h' → Q' r h') : hp_M l Y av h w dk dn Q' := by
  intro ht D z σ p e ha hc hk s m args below hf happ hP hT
  obtain ⟨n, o, h1, h2, h3, r, h', σ', b1, b2, b3, b4, b5, b6⟩ := hM ht D z σ p e ha hc hk s m args below hf happ hP hT
  exact ⟨n, o, h1, h2, h3, r, h', σ', b1, b2, b3, b4, hQ r h' b5, b6⟩
section HpC
variable {G : hp_G} {cc : ByteArray} {pc : Nat} {lv : hp_L} {st : List Value} {h : hp_H} {w : Bool} {k n : Nat} {K : hp_K}
/-- the invoking instruction itself: the callee is entered with these arguments -/
def hp_inv (G : hp_G) (pc : Nat) (ls : Array Slot) (H : Heap) (st rest : List Value) (mk : MethodId) (av : List Value) : Prop :=
  ∀ (T : State) (locs : List Loc) (k n : Nat), T.heap = H → Stand (g_p G) (g_l G) (g_e G) (g_R G) (g_s G) (g_m G) (g_a G) (g_b G) (g_me G) (g_c G) T locs k n →
    ∃ vm₁ : Vm, Stand (g_p G) (g_l G) (g_e G) (g_R G) (g_s G) (g_m G) (g_a G) (g_b G) (g_me G) (g_c G) (T.setVm vm₁) locs k n ∧
      ∀ target, (∀ acts, Steps (g_p G).tables (g_e G) (g_b G) (doInvoke (g_e G) ((T.setVm vm₁).setTop (F0 (g_m G) pc ls rest)) acts mk av.toArray).1 target) → Steps (g_p G).tables (g_e G) (g_b G) (T.setTop (F0 (g_m G) pc ls st)) target
/-- what a thrown exception comes to in this method -/
def hp_catch (G : hp_G) (pc : Nat) (h : hp_H) (w : Bool) (k n : Nat) (ci : Nat) (lv : hp_L) : Prop :=
  ∀ (T : State) (locs : List Loc) (ls : Array Slot) (σ : List Nat) (rest : List Value) (x : Addr) (cell : Cell), hp_rep (g_D G) (g_z G) (g_s G) σ h T.heap → hp_le (g_σ G) σ → hp_fr (g_z G) (g_s G).heap T.heap → (∀ q ∈ locs, g_z G ≤ q.base) → (w = true → locs = []) →
    hp_lv σ (g_n G) lv ls → k ≤ (g_R G).cells → n ≤ (g_R G).slots → T.heap[x]? = some cell → cell.vm = .none → (g_s G).vm.findClass (hp_exn ci) = some cell.cls →
    Stand (g_p G) (g_l G) (g_e G) (g_R G) (g_s G) (g_m G) (g_a G) (g_b G) (g_me G) (g_c G) T locs k n →
    ∃ t, Steps (g_p G).tables (g_e G) (g_b G) ((T.setTop (F0 (g_m G) pc ls rest)).pushFrame (.throwing x)) t ∧ hp_Z G t
/-- no handler of this method's is round it: the method ends -/
theorem hp_catch_out (hlk : (g_me G).locks = false) (hout : ∀ x ∈ (g_c G).exceptionTable.toList, covers x pc = false) {ci : Nat} (hi : hp_end G w (g_Q G (.inr ci) h)) : hp_catch G pc h w k n ci lv := by
  intro T locs ls σ rest x cell a1 a2 a3 a4 a5 a6 a8 a9 c1 c2 c3 X
  obtain ⟨hw, hq⟩ := hp_end_of hi
  obtain ⟨s1, s2, s3, s4, s5⟩ := X.leaveThrown x (g := F0 (g_m G) pc ls rest) rfl rfl rfl hout hlk
  refine ⟨_, s1, .threw x, s2, s3, .inr ci, h, σ, a2, ⟨x, cell, rfl, c1, c2, ?_⟩, hp_rep_moved s4.alike a1, a3, hq, s4, locs, State.sameButNew.mono s5 a8 a9, a4, fun e => a5 (hw e)⟩
  rw [s4.alike.findClass]
  exact c3
theorem hp_call (C : hp_B cc G) (hK : ∀ pc lv st h w k n, K pc lv st h w k n → hp_W G pc lv st h w k n) {own : String} (O : hp_O own G) (hnt : hp_noT (g_l G)) (hth : hp_thr (g_z G) (g_s G)) {Y : hp_Y} {av rest : List Value} {wy : Bool} {dk dn : Nat} {Qy : hp_R → hp_H → Prop} (hM : hp_M (g_l G) Y av h wy dk dn Qy)
    {ins : Instr} (hd : decode cc pc = .ok (ins, 3)) (hcd : hp_cd Y ∈ hp_Ts) (hini : Jvm.Cond.initialized (y_nm Y).cls ∈ hp_Ts) (hfr : y_fr Y + 1 ≤ (g_R G).frames) (hlo : (rest.map fun v => v.category).sum + (y_mx Y + 11) + y_lo Y ≤ (g_R G).locals) (hc1 : k + dk ≤ (g_R G).cells) (hc2 : n + dn ≤ (g_R G).slots)
    (hst : ∀ v ∈ rest, v ∈ st) (hav : ∀ v ∈ av, v ∈ st)
    (hinv : ∀ (σ : List Nat) (H : Heap) (ls : Array Slot), hp_rep (g_D G) (g_z G) (g_s G) σ h H → ls.size = g_n G → ∃ mk, (g_s G).methodNamed? (y_nm Y) = some mk ∧ hp_inv G pc ls H (st.map (hp_cv σ)) (rest.map (hp_cv σ)) mk (av.map (hp_cv σ)))
    (hi : ∀ r h', Qy r h' → match r with
      | .inl v => K (pc + 3) lv (v.toList ++ rest) h' (w && wy) (k + dk) (n + dn)
      | .inr ci => hp_catch G pc h' (w && wy) (k + dk) (n + dn) ci lv) : hp_W G pc lv st h w k n := by
  intro σ H locs ls a1 a2 a3 a4 a5 a6 a7 a8 a9 T hT X0
  obtain ⟨mk, hnamed, hin⟩ := hinv σ H ls a1 a6.1
  obtain ⟨vm₁, X, hstep⟩ := hin T locs k n hT X0
  obtain ⟨hts, hown, hKn, hzs⟩ := O
  have hU : (T.setVm vm₁).heap = H := hT
  have hwd : ∀ w' ∈ hp_Ts, ∀ a', w'.before a' (T.setVm vm₁) = true := (hth (T.setVm vm₁) X.warmed (fun q hq => by rw [hU]; exact a3.2 q hq)).1
  have hn2 : (T.setVm vm₁).methodNamed? (y_nm Y) = some mk := X.named hnamed
  obtain ⟨methY, cY, m1, m2, m3, m4, m5, m6, m7, m8⟩ := hp_cd_spec hn2 (hwd _ hcd #[])
  obtain ⟨kY, hkY, -⟩ := className_of_methodNamed hn2
  have hinitY : kY.init = .initialized := Cond.initialized_spec (findClass_of_methodNamed hn2) hkY (hwd _ hini #[])
  have hsize : (F0 (g_m G) pc ls (rest.map (hp_cv σ))).locals.size = (g_c G).maxLocals := a6.1.trans C.2.2.symm
  have hdc : decode (g_c G).code pc = .ok (ins, 3) := by rw [C.2.1]; exact hd
  have hcat : ((rest.map (hp_cv σ)).map fun v => v.category) = rest.map fun v => v.category := by
    rw [List.map_map]
    exact List.map_congr_left fun v _ => hp_cv_cat σ v
  have hroom := X.room_calling (g := F0 (g_m G) pc ls (rest.map (hp_cv σ))) (args' := (av.map (hp_cv σ)).toArray) (R' := { frames := y_fr Y, cells := dk, slots := dn, locals := y_lo Y }) hsize m1 m2 hfr (by show 2 * 0 + ((rest.map (hp_cv σ)).map fun v => v.category).sum + _ + _ ≤ _; rw [hcat, m4]; show _ + y_lo Y ≤ _; omega) hc1 hc2
  have happ : (headSpec [hp_cd Y] { frames := y_fr Y, cells := dk, slots := dn, locals := y_lo Y }).appliesLoose (y_nm Y) (g_e G).platform ((T.setVm vm₁).calling (F0 (g_m G) pc ls (rest.map (hp_cv σ))) mk (av.map (hp_cv σ)).toArray) = true :=
    Spec.appliesLoose_calling (g := F0 (g_m G) pc ls (rest.map (hp_cv σ))) X.here hdc hn2 hkY hinitY hroom (atoms_intro (fun w' hw' => by rw [List.mem_singleton.mp hw']; exact hwd _ hcd _))
  obtain ⟨mid, hmid⟩ := X.here.above
  have hframes : ((T.setVm vm₁).setTop (F0 (g_m G) pc ls (rest.map (hp_cv σ)))).frames = (.java (F0 (g_m G) pc ls (rest.map (hp_cv σ))) :: mid) ++ g_b G := by rw [State.frames_setTop' _ X.here.top, hmid]; rfl
  have hpre : hp_pre (g_D G) (g_z G) σ h ((T.setVm vm₁).calling (F0 (g_m G) pc ls (rest.map (hp_cv σ))) mk (av.map (hp_cv σ)).toArray) := by
    refine ⟨?_, va_K.moved X.warmed.alike hKn, ?_, hp_thr_moved hth X.warmed (fun q hq => ?_)⟩
    · show hp_rep _ _ _ σ h (T.setVm vm₁).heap
      rw [hU]
      exact hp_rep_moved X.warmed.alike a1
    · show _ ≤ (T.setVm vm₁).heap.size
      rw [hU]
      exact Nat.le_trans hzs a3.1
    · show (T.setVm vm₁).heap[q]? = _
      rw [hU]
      exact a3.2 q hq
  obtain ⟨o, s₂, hsteps, -, hend, hq⟩ := Steps.callFree (hM hnt (g_D G) (g_z G) σ) (g_p G) X.admits X.cas X.clock (acts := []) hframes happ ⟨rfl, fun v hv => a7 v (hav v hv), hpre⟩ trivial
  rw [State.frames_setTop' _ X.here.top, X.tail] at hend
  have hsteps2 : ∀ target, Steps (g_p G).tables (g_e G) (g_b G) s₂ target → Steps (g_p G).tables (g_e G) (g_b G) (T.setTop (F0 (g_m G) pc ls (st.map (hp_cv σ)))) target := fun target ht => hstep target fun acts => by
    rw [doInvoke_state]
    exact hsteps.trans ht
  obtain ⟨r, h', σ', b1, b2, b3, b4, b5, b6, L, b7, b8, b9⟩ := hq
  have hmap : (rest.map (hp_cv σ)) = rest.map (hp_cv σ') := List.map_congr_left fun v hv => (hp_cv_mono b1 (a7 v (hst v hv))).symm
  have hfr3 : hp_fr (g_z G) (g_s G).heap s₂.heap := by
    have b4' : hp_fr (g_z G) H s₂.heap := by rw [← hU]; exact b4
    exact hp_fr_tr a3 b4'
  have hlocs : ∀ q ∈ locs ++ L, g_z G ≤ q.base := fun q hq => by
    rcases List.mem_append.mp hq with e | e
    · exact a4 q e
    · exact b8 q e
  have hnil : (w && wy) = true → locs ++ L = [] := fun e => by
    rw [Bool.and_eq_true] at e
    rw [a5 e.1, b9 e.2]; rfl
  have hi' := hi r h' b5
  match r, b2, hi' with
  | .inl v, b2, hi' =>
    have hv2 : o = .returned (v.map (hp_cv σ')) ∧ ∀ x ∈ v.toList, hp_ok σ' x := by
      cases v with
      | none => exact ⟨b2, fun x hx => by cases hx⟩
      | some v => exact ⟨b2.2, fun x hx => by rw [Option.mem_toList] at hx; cases hx; exact b2.1⟩
    obtain ⟨rfl, hv3⟩ := hv2
    obtain ⟨T', X', hW', hs', ht⟩ := X.outOf (g := F0 (g_m G) pc ls (rest.map (hp_cv σ))) rfl hdc hend b6 b7
    have hh2 : s₂.heap = T'.heap := by rw [ht]; simp
    have hv4 : s₂.vm = T'.vm := by rw [ht]; simp
    have hal : (g_s G).vm.Alike s₂.vm := by rw [hv4]; exact X'.warmed.alike
    have hW2 := hK _ _ _ _ _ _ _ hi' σ' T'.heap (locs ++ L) ls (by rw [← hh2]; exact hp_rep_moved (u := s₂) hal.symm b3) (hp_le_tr a2 b1) (by rw [← hh2]; exact hfr3) hlocs hnil (hp_lv_mono b1 a6)
      (fun x hx => by
        rcases List.mem_append.mp hx with e | e
        · exact hv3 x e
        · exact hp_ok_mono b1 (a7 x (hst x e))) hc1 hc2 T' rfl X'
    obtain ⟨t, t1, t2⟩ := hW2
    refine ⟨t, hsteps2 t ?_, t2⟩
    rw [ht]
    have e1 : (v.map (hp_cv σ')).toList ++ rest.map (hp_cv σ) = (v.toList ++ rest).map (hp_cv σ') := by
      rw [List.map_append, hmap]
      cases v <;> rfl
    show Steps _ _ _ (T'.setTop (F0 (g_m G) (pc + 3) ls ((v.map (hp_cv σ')).toList ++ rest.map (hp_cv σ)))) t
    rw [e1]
    exact t1
  | .inr ci, b2, hi' =>
    obtain ⟨x, cell, rfl, c1, c2, c3⟩ := b2
    obtain ⟨T', X', hW', hs', ht⟩ := X.outOfThrown (g := F0 (g_m G) pc ls (rest.map (hp_cv σ))) rfl hend b6 b7
    have hh2 : s₂.heap = T'.heap := by rw [ht]; exact Stand.throwing_heap _ _ _
    have hv4 : s₂.vm = T'.vm := by rw [ht]; exact Stand.throwing_vm _ _ _
    have hal : (g_s G).vm.Alike s₂.vm := by rw [hv4]; exact X'.warmed.alike
    obtain ⟨t, t1, t2⟩ := hi' T' (locs ++ L) ls σ' (rest.map (hp_cv σ)) x cell (by rw [← hh2]; exact hp_rep_moved (u := s₂) hal.symm b3) (hp_le_tr a2 b1) (by rw [← hh2]; exact hfr3) hlocs hnil (hp_lv_mono b1 a6) hc1 hc2 (by rw [← hh2]; exact c1) c2 (by rw [← hal.findClass]; exact c3) X'
    refine ⟨t, hsteps2 t ?_, t2⟩
    rw [ht]
    exact t1
end HpC
section HpV
variable {G : hp_G} {cc : ByteArray} {pc : Nat}
theorem hp_cd_named {Y : hp_Y} {args : Array Value} {s : State} (h : (hp_cd Y).before args s = true) : ∃ mk, s.methodNamed? (y_nm Y) = some mk := by
  unfold hp_cd at h
  split at h
  next e => exact Cond.code_named h
  next q hh e =>
    obtain ⟨m9, meth, c, hn9, -⟩ := Cond.codeWith_spec h
    exact ⟨m9, hn9⟩
def hp_notMH (Y : hp_Y) : Prop := (y_nm Y).cls ≠ "java/lang/invoke/MethodHandle" ∧ (y_nm Y).cls ≠ "java/lang/invoke/VarHandle"
def hp_np (Y : hp_Y) : Prop := (parseMethodDescriptor (y_nm Y).desc).map (fun d => d.parameters.length) = some (y_na Y)
theorem hp_np_of {Y : hp_Y} (h : hp_np Y) {sig : MethodDescriptor} (hs : parseMethodDescriptor (y_nm Y).desc = some sig) : y_na Y = sig.parameters.length := by
  unfold hp_np at h
  rw [hs] at h
  exact (Option.some.inj h).symm
theorem hp_inv_S (C : hp_B cc G) {own : String} (O : hp_O own G) {Y : hp_Y} {idx : Nat} (hcd : hp_cd Y ∈ hp_Ts) (hlink : Jvm.Cond.methodLink own idx (y_nm Y) ∈ hp_Ts) (hstat : Jvm.Cond.static (y_nm Y) ∈ hp_Ts) (hini : Jvm.Cond.initialized (y_nm Y).cls ∈ hp_Ts) (hy : hp_notMH Y) (hnp : hp_np Y)
    (hd : decode cc pc = .ok (.invokestatic idx, 3)) {av rest : List Value} (hn : av.length = y_na Y) (ls : Array Slot) (H : Heap) : ∃ mk, (g_s G).methodNamed? (y_nm Y) = some mk ∧ hp_inv G pc ls H (av.reverse ++ rest) rest mk av := by
  obtain ⟨hts, hown, -, -⟩ := O
  obtain ⟨mk, hnamed⟩ := hp_cd_named (hts _ hcd)
  obtain ⟨methM, cM, m1, m2, m3, m4, m5, m6, m7, m8⟩ := hp_cd_spec hnamed (hts _ hcd)
  have hstatic : methM.isStatic = true := Cond.static_spec hnamed m1 (hts _ hstat)
  obtain ⟨kP, hkP, -⟩ := className_of_methodNamed hnamed
  have hinitP : kP.init = .initialized := Cond.initialized_spec (findClass_of_methodNamed hnamed) hkP (hts _ hini)
  refine ⟨mk, hnamed, fun T locs k n hT X => ?_⟩
  obtain ⟨vm₁, X₁, hstep₁⟩ := X.invokestatic C.1 hown (hts _ hlink) hnamed m1 hstatic hkP hinitP hy (g := F0 (g_m G) pc ls (av.reverse ++ rest)) rfl (argsL := av) (rest := rest) (hn.trans (hp_np_of hnp m8)) rfl (by rw [C.2.1]; exact hd)
  exact ⟨vm₁, X₁, fun target ht => hstep₁ target ht⟩
theorem hp_inv_SN (C : hp_B cc G) {own host : String} (O : hp_O own G) {Y : hp_Y} {idx : Nat} (hcd : hp_cd Y ∈ hp_Ts) (hlink : Jvm.Cond.methodLinkNest own idx (y_nm Y) host ∈ hp_Ts) (hstat : Jvm.Cond.static (y_nm Y) ∈ hp_Ts) (hini : Jvm.Cond.initialized (y_nm Y).cls ∈ hp_Ts) (hy : hp_notMH Y) (hnp : hp_np Y)
    (hd : decode cc pc = .ok (.invokestatic idx, 3)) {av rest : List Value} (hn : av.length = y_na Y) (ls : Array Slot) (H : Heap) : ∃ mk, (g_s G).methodNamed? (y_nm Y) = some mk ∧ hp_inv G pc ls H (av.reverse ++ rest) rest mk av := by
  obtain ⟨hts, hown, -, -⟩ := O
  obtain ⟨mk, hnamed⟩ := hp_cd_named (hts _ hcd)
  obtain ⟨methM, cM, m1, m2, m3, m4, m5, m6, m7, m8⟩ := hp_cd_spec hnamed (hts _ hcd)
  have hstatic : methM.isStatic = true := Cond.static_spec hnamed m1 (hts _ hstat)
  obtain ⟨kP, hkP, -⟩ := className_of_methodNamed hnamed
  have hinitP : kP.init = .initialized := Cond.initialized_spec (findClass_of_methodNamed hnamed) hkP (hts _ hini)
  refine ⟨mk, hnamed, fun T locs k n hT X => ?_⟩
  obtain ⟨vm₁, X₁, hstep₁⟩ := X.invokestaticNest C.1 hown (hts _ hlink) hnamed m1 hstatic hkP hinitP hy (g := F0 (g_m G) pc ls (av.reverse ++ rest)) rfl (argsL := av) (rest := rest) (hn.trans (hp_np_of hnp m8)) rfl (by rw [C.2.1]; exact hd)
  exact ⟨vm₁, X₁, fun target ht => hstep₁ target ht⟩
theorem hp_inv_V (C : hp_B cc G) {own : String} (O : hp_O own G) {Y : hp_Y} {idx : Nat} (hcd : hp_cd Y ∈ hp_Ts) (hlink : Jvm.Cond.methodLink own idx (y_nm Y) ∈ hp_Ts) (hinst : Jvm.Cond.instanceMethod (y_nm Y) ∈ hp_Ts) (hsel : Jvm.Cond.selects (y_nm Y).cls (y_nm Y) (y_nm Y) ∈ hp_Ts) (hy : hp_notMH Y) (hnp : hp_np Y)
    (hd : decode cc pc = .ok (.invokevirtual idx, 3)) {av rest : List Value} (hn : av.length = y_na Y) (ls : Array Slot) {H : Heap} {b : Addr} {cellB : Cell} (hcell : H[b]? = some cellB) (hobj : cellB.vm.isStatics = false) (hcls : (g_s G).vm.findClass (y_nm Y).cls = some cellB.cls) : ∃ mk, (g_s G).methodNamed? (y_nm Y) = some mk ∧ hp_inv G pc ls H (av.reverse ++ .ref b :: rest) rest mk (.ref b :: av) := by
  obtain ⟨hts, hown, -, -⟩ := O
  obtain ⟨mk, methM, hnamed, hmethM, hstM, habM⟩ := Cond.instanceMethod_spec (hts _ hinst)
  obtain ⟨methM', cM, m1, m2, m3, m4, m5, m6, m7, m8⟩ := hp_cd_spec hnamed (hts _ hcd)
  cases hmethM.symm.trans m1
  obtain ⟨c2, r2, m9, q1, q2, q3, q4, kP, hkP, hkPi⟩ := Cond.selects_spec (hts _ hsel)
  cases hcls.symm.trans q1
  cases (State.methodFound?_of_named hnamed hy).symm.trans q2
  cases hnamed.symm.trans q3
  refine ⟨mk, hnamed, fun T locs k n hT X => ?_⟩
  have hselP : selectMethod (g_e G).platform (g_s G).vm cellB.cls mk = .method mk := by rw [Launch.admits_selectMethod X.admits]; exact q4
  obtain ⟨vm₁, X₁, hstep₁⟩ := X.invokevirtual C.1 hown (hts _ hlink) hnamed hmethM hstM hkP hkPi hy (a := b) (cell := cellB) (by rw [hT]; exact hcell)
    (fun z h => by rw [h] at hobj; cases hobj) hselP hmethM habM hkP hkPi (g := F0 (g_m G) pc ls (av.reverse ++ .ref b :: rest)) rfl (argsL := av) (rest := rest) (hn.trans (hp_np_of hnp m8)) rfl (by rw [C.2.1]; exact hd)
  exact ⟨vm₁, X₁, fun target ht => hstep₁ target ht⟩
theorem hp_inv_VN (C : hp_B cc G) {own host : String} (O : hp_O own G) {Y : hp_Y} {idx : Nat} (hcd : hp_cd Y ∈ hp_Ts) (hlink : Jvm.Cond.methodLinkNest own idx (y_nm Y) host ∈ hp_Ts) (hinst : Jvm.Cond.instanceMethod (y_nm Y) ∈ hp_Ts) (hsel : Jvm.Cond.selects (y_nm Y).cls (y_nm Y) (y_nm Y) ∈ hp_Ts) (hy : hp_notMH Y) (hnp : hp_np Y)
    (hd : decode cc pc = .ok (.invokevirtual idx, 3)) {av rest : List Value} (hn : av.length = y_na Y) (ls : Array Slot) {H : Heap} {b : Addr} {cellB : Cell} (hcell : H[b]? = some cellB) (hobj : cellB.vm.isStatics = false) (hcls : (g_s G).vm.findClass (y_nm Y).cls = some cellB.cls) : ∃ mk, (g_s G).methodNamed? (y_nm Y) = some mk ∧ hp_inv G pc ls H (av.reverse ++ .ref b :: rest) rest mk (.ref b :: av) := by
  obtain ⟨hts, hown, -, -⟩ := O
  obtain ⟨mk, methM, hnamed, hmethM, hstM, habM⟩ := Cond.instanceMethod_spec (hts _ hinst)
  obtain ⟨methM', cM, m1, m2, m3, m4, m5, m6, m7, m8⟩ := hp_cd_spec hnamed (hts _ hcd)
  cases hmethM.symm.trans m1
  obtain ⟨c2, r2, m9, q1, q2, q3, q4, kP, hkP, hkPi⟩ := Cond.selects_spec (hts _ hsel)
  cases hcls.symm.trans q1
  cases (State.methodFound?_of_named hnamed hy).symm.trans q2
  cases hnamed.symm.trans q3
  refine ⟨mk, hnamed, fun T locs k n hT X => ?_⟩
  have hselP : selectMethod (g_e G).platform (g_s G).vm cellB.cls mk = .method mk := by rw [Launch.admits_selectMethod X.admits]; exact q4
  obtain ⟨vm₁, X₁, hstep₁⟩ := X.invokevirtualNest C.1 hown (hts _ hlink) hnamed hmethM hstM hkP hkPi hy (a := b) (cell := cellB) (by rw [hT]; exact hcell)
    (fun z h => by rw [h] at hobj; cases hobj) hselP hmethM habM hkP hkPi (g := F0 (g_m G) pc ls (av.reverse ++ .ref b :: rest)) rfl (argsL := av) (rest := rest) (hn.trans (hp_np_of hnp m8)) rfl (by rw [C.2.1]; exact hd)
  exact ⟨vm₁, X₁, fun target ht => hstep₁ target ht⟩
theorem hp_inv_I (C : hp_B cc G) {own : String} (O : hp_O own G) {Y : hp_Y} {idx : Nat} (hcd : hp_cd Y ∈ hp_Ts) (hhd : y_hd Y = []) (hrt : y_rt Y = none) (hlink : Jvm.Cond.methodLink own idx (y_nm Y) ∈ hp_Ts) (hinst : Jvm.Cond.instanceMethod (y_nm Y) ∈ hp_Ts) (hnm : (y_nm Y).name = "<init>") (hy : hp_notMH Y) (hnp : hp_np Y)
    (hd : decode cc pc = .ok (.invokespecial idx, 3)) {av rest : List Value} (hn : av.length = y_na Y) (ls : Array Slot) {H : Heap} {b : Addr} : ∃ mk, (g_s G).methodNamed? (y_nm Y) = some mk ∧ hp_inv G pc ls H (av.reverse ++ .ref b :: rest) rest mk (.ref b :: av) := by
  obtain ⟨hts, hown, -, -⟩ := O
  have hcd2 : hp_cd Y = .code (y_nm Y) (y_cc Y) (y_mx Y) none := by unfold hp_cd; rw [hhd, hrt]
  rw [hcd2] at hcd
  obtain ⟨mk, hnamed⟩ := Cond.code_named (hts _ hcd)
  refine ⟨mk, hnamed, fun T locs k n hT X => ?_⟩
  have hpl : (g_e G).platform.magicAccessors = ({} : Platform).magicAccessors := by rw [X.admits.platform]
  obtain ⟨mk2, methM, cM, kP, vm₁, hnamed2, hmethM, hcodeM, -, hlocalsM, -, hkP, -, hW₁, hstep₁⟩ := Steps.initColdArgs (e := g_e G) X.here C.1 X.warmed hpl hown hnm hy (hts _ hlink) (hts _ hinst) (hts _ hcd) (f := F0 (g_m G) pc ls (av.reverse ++ .ref b :: rest)) rfl (fun sig hs => hn.trans (hp_np_of hnp hs)) (argsL := av) (rest := rest) rfl (by rw [C.2.1]; exact hd)
  cases hnamed.symm.trans hnamed2
  exact ⟨vm₁, X.noted hW₁, fun target ht => hstep₁ target ht⟩
theorem hp_inv_IN (C : hp_B cc G) {own host : String} (O : hp_O own G) {Y : hp_Y} {idx : Nat} (hcd : hp_cd Y ∈ hp_Ts) (hhd : y_hd Y = []) (hrt : y_rt Y = none) (hlink : Jvm.Cond.methodLinkNest own idx (y_nm Y) host ∈ hp_Ts) (hinst : Jvm.Cond.instanceMethod (y_nm Y) ∈ hp_Ts) (hnm : (y_nm Y).name = "<init>") (hy : hp_notMH Y) (hnp : hp_np Y)
    (hd : decode cc pc = .ok (.invokespecial idx, 3)) {av rest : List Value} (hn : av.length = y_na Y) (ls : Array Slot) {H : Heap} {b : Addr} : ∃ mk, (g_s G).methodNamed? (y_nm Y) = some mk ∧ hp_inv G pc ls H (av.reverse ++ .ref b :: rest) rest mk (.ref b :: av) := by
  obtain ⟨hts, hown, -, -⟩ := O
  have hcd2 : hp_cd Y = .code (y_nm Y) (y_cc Y) (y_mx Y) none := by unfold hp_cd; rw [hhd, hrt]
  rw [hcd2] at hcd
  obtain ⟨mk, hnamed⟩ := Cond.code_named (hts _ hcd)
  refine ⟨mk, hnamed, fun T locs k n hT X => ?_⟩
  have hpl : (g_e G).platform.magicAccessors = ({} : Platform).magicAccessors := by rw [X.admits.platform]
  obtain ⟨mk2, methM, cM, kP, vm₁, hnamed2, hmethM, hcodeM, -, hlocalsM, -, hkP, -, hW₁, hstep₁⟩ := Steps.initColdArgsNest (e := g_e G) X.here C.1 X.warmed hpl hown hnm hy (hts _ hlink) (hts _ hinst) (hts _ hcd) (f := F0 (g_m G) pc ls (av.reverse ++ .ref b :: rest)) rfl (fun sig hs => hn.trans (hp_np_of hnp hs)) (argsL := av) (rest := rest) rfl (by rw [C.2.1]; exact hd)
  cases hnamed.symm.trans hnamed2
  exact ⟨vm₁, X.noted hW₁, fun target ht => hstep₁ target ht⟩
end HpV
end
section
/-! ONE INSTRUCTION as a condition on what lies before it. T: the tables of the method's class: own name; code; fields (pool index, class, field); calls (pool index, kind, method); classes made (pool index, class); exceptions made (pool index, which); ints; longs. -/
abbrev hp_T : Type := String × List (Nat × Instr) × List (Nat × Nat × Nat) × List (Nat × Nat × hp_Y) × List (Nat × Nat) × List (Nat × Nat) × List (Nat × Int32) × List (Nat × Int64)
abbrev t_own (T : hp_T) : String := T.1
abbrev t_code (T : hp_T) : List (Nat × Instr) := T.2.1
abbrev t_fld (T : hp_T) : List (Nat × Nat × Nat) := T.2.2.1
abbrev t_call (T : hp_T) : List (Nat × Nat × hp_Y) := T.2.2.2.1
abbrev t_new (T : hp_T) : List (Nat × Nat) := T.2.2.2.2.1
abbrev t_exn (T : hp_T) : List (Nat × Nat) := T.2.2.2.2.2.1
abbrev t_int (T : hp_T) : List (Nat × Int32) := T.2.2.2.2.2.2.1
abbrev t_long (T : hp_T) : List (Nat × Int64) := T.2.2.2.2.2.2.2
def hp_lk {α : Type} (l : List (Nat × α)) (i : Nat) : Option α := match l with
  | [] => none
  | q :: r => cond (Nat.beq q.1 i) (some q.2) (hp_lk r i)
theorem hp_lk_mem {α : Type} : ∀ (l : List (Nat × α)) (i : Nat) (v : α), hp_lk l i = some v → (i, v) ∈ l
  | [], _, _, h => by cases h
  | q :: l, i, v, h => by
    unfold hp_lk at h
    cases hb : Nat.beq q.1 i with
    | true =>
      rw [hb] at h
      have e : q.1 = i := Nat.eq_of_beq_eq_true hb
      have e2 : q.2 = v := Option.some.inj h
      subst e; subst e2
      exact List.mem_cons_self
    | false =>
      rw [hb] at h
      exact List.mem_cons_of_mem _ (hp_lk_mem l i v h)
def hp_with {α : Type} (o : Option α) (f : α → Prop) : Prop := match o with
  | some x => f x
  | none => False
theorem hp_with_of {α : Type} {o : Option α} {f : α → Prop} (h : hp_with o f) : ∃ x, o = some x ∧ f x := by
  match o, h with
  | some x, h => exact ⟨x, rfl, h⟩
def hp_fin (w0 w : Bool) (P : Prop) : Prop := cond (!w0 || w) P False
/-- the arguments and what lies below them -/
def hp_args (na : Nat) (st : List Value) (acc : List Value) (f : List Value → List Value → Prop) : Prop := match na, st with
  | 0, st => f acc st
  | m + 1, v :: st => hp_args m st (v :: acc) f
  | _ + 1, [] => False
theorem hp_args_of : ∀ (na : Nat) (st acc : List Value) (f : List Value → List Value → Prop), hp_args na st acc f → ∃ as rest, as.length = na ∧ st = as.reverse ++ rest ∧ f (as ++ acc) rest
  | 0, st, acc, f, h => ⟨[], st, rfl, rfl, by unfold hp_args at h; exact h⟩
  | m + 1, [], acc, f, h => by unfold hp_args at h; exact h.elim
  | m + 1, v :: st, acc, f, h => by
    unfold hp_args at h
    obtain ⟨as, rest, h1, h2, h3⟩ := hp_args_of m st (v :: acc) f h
    exact ⟨as ++ [v], rest, by simp [h1], by simp [h2], by simpa using h3⟩
def hp_nil {α : Type} (l : List α) : Bool := match l with
  | [] => true
  | _ => false
/-- a call of Y with these arguments -/
def hp_ic (l : Launch) (Y0 Y : hp_Y) (w0 : Bool) (dk0 dn0 : Nat) (Q : hp_R → hp_H → Prop) (K : hp_K) (pc : Nat) (lv : hp_L) (av rest : List Value) (h : hp_H) (w : Bool) (k n : Nat) : Prop :=
  cond (Nat.ble (y_fr Y + 1) (y_fr Y0) && Nat.ble ((rest.map fun v => v.category).sum + (y_mx Y + 11) + y_lo Y) (y_lo Y0) && hp_nil (y_hd Y0))
    (∃ (wy : Bool) (dk dn : Nat) (Qy : hp_R → hp_H → Prop), hp_M l Y av h wy dk dn Qy ∧ k + dk ≤ dk0 ∧ n + dn ≤ dn0 ∧ ∀ r h', Qy r h' → match r with
      | .inl v => K (pc + 3) lv (v.toList ++ rest) h' (w && wy) (k + dk) (n + dn)
      | .inr ci => hp_fin w0 (w && wy) (Q (.inr ci) h')) False

/-- a switch: where each number goes -/
def hp_sw (x : Int32) (i : Int) (os : List Int) (f : Int → Prop) : Prop := match os with
  | [] => True
  | o :: r => (x.toInt = i → f o) ∧ hp_sw x (i + 1) r f
theorem hp_sw_get (x : Int32) (f : Int → Prop) : ∀ (os : List Int) (i : Int) (j : Nat) (o : Int), hp_sw x i os f → os[j]? = some o → x.toInt = i + j → f o
  | [], i, j, o, _, h, _ => by cases h
  | p :: r, i, 0, o, hs, h, e => by
    cases h
    exact hs.1 (by simpa using e)
  | p :: r, i, j + 1, o, hs, h, e => hp_sw_get x f r (i + 1) j o hs.2 (by simpa using h) (by rw [e]; omega)
section HpS
variable {G : hp_G} {cc : ByteArray} {pc : Nat} {lv : hp_L} {st : List Value} {h : hp_H} {w : Bool} {k n : Nat} {K : hp_K}
theorem hs_ldc (C : hp_B cc G) (hK : ∀ pc lv st h w k n, K pc lv st h w k n → hp_W G pc lv st h w k n) {own : String} (O : hp_O own G) {idx : Nat} {v : Int32} (hc : Jvm.Cond.constant own idx v ∈ hp_Ts) (hd : decode cc pc = .ok (.ldc idx, 2)) (hi : K (pc + 2) lv (.int v :: st) h w k n) : hp_W G pc lv st h w k n := by
  intro σ H locs ls a1 a2 a3 a4 a5 a6 a7 a8 a9
  exact lv_ldc C.1 C.2.1 O.2.1 (O.1 _ hc) hd (hK _ _ _ _ _ _ _ hi σ H locs ls a1 a2 a3 a4 a5 a6 (fun v hv => by rcases List.mem_cons.mp hv with e | e; (rw [e]; trivial); exact a7 v e) a8 a9)
theorem hs_ldc2 (C : hp_B cc G) (hK : ∀ pc lv st h w k n, K pc lv st h w k n → hp_W G pc lv st h w k n) {own : String} (O : hp_O own G) {idx : Nat} {v : Int64} (hc : Jvm.Cond.constantLong own idx v ∈ hp_Ts) (hd : decode cc pc = .ok (.ldc2_w idx, 3)) (hi : K (pc + 3) lv (.long v :: st) h w k n) : hp_W G pc lv st h w k n := by
  intro σ H locs ls a1 a2 a3 a4 a5 a6 a7 a8 a9
  exact lv_ldc2 C.1 C.2.1 O.2.1 (O.1 _ hc) hd (hK _ _ _ _ _ _ _ hi σ H locs ls a1 a2 a3 a4 a5 a6 (fun v hv => by rcases List.mem_cons.mp hv with e | e; (rw [e]; trivial); exact a7 v e) a8 a9)
theorem hs_tableswitch (C : hp_B cc G) (hK : ∀ pc lv st h w k n, K pc lv st h w k n → hp_W G pc lv st h w k n) {d lo hi : Int} {os : Array Int} {len : Nat} (hd : decode cc pc = .ok (.tableswitch d lo hi os, len))
    (h0 : cond (decide ((os.size : Int) = hi - lo + 1)) (st_i st fun x r => ((x.toInt < lo ∨ hi < x.toInt) → hp_go pc d fun q => K q lv r h w k n) ∧ hp_sw x lo os.toList fun o => hp_go pc o fun q => K q lv r h w k n) False) : hp_W G pc lv st h w k n := by
  cases he : decide ((os.size : Int) = hi - lo + 1) with
  | false => rw [he] at h0; exact False.elim h0
  | true =>
    rw [he] at h0
    have hsz := of_decide_eq_true he
    obtain ⟨x, r, rfl, h1, h2⟩ := st_i_of h0
    intro σ H locs ls a1 a2 a3 a4 a5 a6 a7 a8 a9
    by_cases hx : x.toInt < lo ∨ hi < x.toInt
    · obtain ⟨ht, h3⟩ := hp_go_of (h1 hx)
      exact lv_tableOut C.1 C.2.1 hd hx ht (hK _ _ _ _ _ _ _ h3 σ H locs ls a1 a2 a3 a4 a5 a6 (fun v hv => a7 v (List.mem_cons_of_mem _ hv)) a8 a9)
    · have hlt : (x.toInt - lo).toNat < os.toList.length := by
        rw [Array.length_toList]
        omega
      have ho := List.getElem?_eq_getElem hlt
      obtain ⟨ht, h3⟩ := hp_go_of (hp_sw_get x _ _ _ _ _ h2 ho (by omega))
      exact lv_tableIn C.1 C.2.1 hd (by omega) (by omega) (by rw [← Array.getElem?_toList]; exact ho) ht (hK _ _ _ _ _ _ _ h3 σ H locs ls a1 a2 a3 a4 a5 a6 (fun v hv => a7 v (List.mem_cons_of_mem _ hv)) a8 a9)
end HpS
/-- an array class that can be made -/
def hp_aok (ty : FieldType) : Prop := (ty = .long ∨ ty = .int ∨ ty = .boolean ∨ ty = .byte) ∧ Jvm.Cond.arrayClass ty ∈ hp_Ts
def hp_i (l : Launch) (T : hp_T) (Y : hp_Y) (w0 : Bool) (dk dn : Nat) (Q : hp_R → hp_H → Prop) (K : hp_K) (ins : Instr) (pc : Nat) (lv : hp_L) (st : List Value) (h : hp_H) (w : Bool) (k n : Nat) : Prop := match ins with
  | .iconst i => cond (decide (Int32.ofInt i = hp_c i)) (K (pc + 1) lv (.int (hp_c i) :: st) h w k n) False
  | .bipush i => cond (decide ((Int8.ofInt i).toInt32 = hp_c i)) (K (pc + 2) lv (.int (hp_c i) :: st) h w k n) False
  | .sipush i => cond (decide ((Int16.ofInt i).toInt32 = hp_c i)) (K (pc + 3) lv (.int (hp_c i) :: st) h w k n) False
  | .lconst i => K (pc + 1) lv (.long (Int64.ofNat i.val) :: st) h w k n
  | .aconst_null => K (pc + 1) lv (.null :: st) h w k n
  | .iload i => hl_iload lv i fun v => K (pc + 2) lv (v :: st) h w k n
  | .iload_n i => hl_iload_n lv i.val fun v => K (pc + 1) lv (v :: st) h w k n
  | .lload i => hl_lload lv i fun v => K (pc + 2) lv (v :: st) h w k n
  | .lload_n i => hl_lload_n lv i.val fun v => K (pc + 1) lv (v :: st) h w k n
  | .aload i => hl_aload lv i fun v => K (pc + 2) lv (v :: st) h w k n
  | .aload_n i => hl_aload_n lv i.val fun v => K (pc + 1) lv (v :: st) h w k n
  | .istore i => cond (Nat.blt (i) (y_mx Y)) (st_i st fun x r => K (pc + 2) (hp_set lv i (.int x)) r h w k n) False
  | .istore_n i => cond (Nat.blt (i.val) (y_mx Y)) (st_i st fun x r => K (pc + 1) (hp_set lv i.val (.int x)) r h w k n) False
  | .lstore i => cond (Nat.blt (i + 1) (y_mx Y)) (st_l st fun x r => K (pc + 2) (hp_set lv i (.long x)) r h w k n) False
  | .lstore_n i => cond (Nat.blt (i.val + 1) (y_mx Y)) (st_l st fun x r => K (pc + 1) (hp_set lv i.val (.long x)) r h w k n) False
  | .astore i => cond (Nat.blt (i) (y_mx Y)) (st_a st fun x r => K (pc + 2) (hp_set lv i (.ref x)) r h w k n) False
  | .astore_n i => cond (Nat.blt (i.val) (y_mx Y)) (st_a st fun x r => K (pc + 1) (hp_set lv i.val (.ref x)) r h w k n) False
  | .iinc i c => cond (Nat.blt i (y_mx Y) && decide (Int32.ofInt c = hp_c c)) (match hp_get lv i with | some (.int x) => K (pc + 3) (hp_set lv i (.int (x + hp_c c))) st h w k n | _ => False) False
  | .iadd => st_i st fun y r => st_i r fun x r => K (pc + 1) lv (.int (x + y) :: r) h w k n
  | .isub => st_i st fun y r => st_i r fun x r => K (pc + 1) lv (.int (x - y) :: r) h w k n
  | .imul => st_i st fun y r => st_i r fun x r => K (pc + 1) lv (.int (x * y) :: r) h w k n
  | .iand => st_i st fun y r => st_i r fun x r => K (pc + 1) lv (.int (x &&& y) :: r) h w k n
  | .ior => st_i st fun y r => st_i r fun x r => K (pc + 1) lv (.int (x ||| y) :: r) h w k n
  | .ixor => st_i st fun y r => st_i r fun x r => K (pc + 1) lv (.int (x ^^^ y) :: r) h w k n
  | .ishl => st_i st fun y r => st_i r fun x r => K (pc + 1) lv (.int (x <<< (y &&& 31)) :: r) h w k n
  | .ishr => st_i st fun y r => st_i r fun x r => K (pc + 1) lv (.int (x >>> (y &&& 31)) :: r) h w k n
  | .ladd => st_l st fun y r => st_l r fun x r => K (pc + 1) lv (.long (x + y) :: r) h w k n
  | .lsub => st_l st fun y r => st_l r fun x r => K (pc + 1) lv (.long (x - y) :: r) h w k n
  | .lmul => st_l st fun y r => st_l r fun x r => K (pc + 1) lv (.long (x * y) :: r) h w k n
  | .land => st_l st fun y r => st_l r fun x r => K (pc + 1) lv (.long (x &&& y) :: r) h w k n
  | .lor => st_l st fun y r => st_l r fun x r => K (pc + 1) lv (.long (x ||| y) :: r) h w k n
  | .lxor => st_l st fun y r => st_l r fun x r => K (pc + 1) lv (.long (x ^^^ y) :: r) h w k n
  | .idiv => st_i st fun y r => st_i r fun x r => ¬ y = 0 ∧ K (pc + 1) lv (.int (x / y) :: r) h w k n
  | .irem => st_i st fun y r => st_i r fun x r => ¬ y = 0 ∧ K (pc + 1) lv (.int (x - x / y * y) :: r) h w k n
  | .iushr => st_i st fun y r => st_i r fun x r => K (pc + 1) lv (.int ((x.toUInt32 >>> (y.toUInt32 &&& Int32.toUInt32 31)).toInt32) :: r) h w k n
  | .lushr => st_i st fun y r => st_l r fun x r => K (pc + 1) lv (.long ((x.toUInt64 >>> (y.toInt64.toUInt64 &&& Int64.toUInt64 63)).toInt64) :: r) h w k n
  | .lshl => st_i st fun y r => st_l r fun x r => K (pc + 1) lv (.long (x <<< (y.toInt64 &&& 63)) :: r) h w k n
  | .lshr => st_i st fun y r => st_l r fun x r => K (pc + 1) lv (.long (x >>> (y.toInt64 &&& 63)) :: r) h w k n
  | .lcmp => st_l st fun y r => st_l r fun x r => K (pc + 1) lv (.int (lg_cmp x y) :: r) h w k n
  | .ineg => st_i st fun x r => K (pc + 1) lv (.int (-x) :: r) h w k n
  | .lneg => st_l st fun x r => K (pc + 1) lv (.long (-x) :: r) h w k n
  | .i2l => st_i st fun x r => K (pc + 1) lv (.long (x.toInt64) :: r) h w k n
  | .l2i => st_l st fun x r => K (pc + 1) lv (.int (x.toInt32) :: r) h w k n
  | .dup => st_v st fun x r => cond (Nat.beq x.category 1) (K (pc + 1) lv (x :: x :: r) h w k n) False
  | .pop => st_v st fun x r => cond (Nat.beq x.category 1) (K (pc + 1) lv r h w k n) False
  | .dup2 => st_v st fun x r => cond (Nat.beq x.category 2) (K (pc + 1) lv (x :: x :: r) h w k n) (st_v r fun y r => cond (Nat.beq x.category 1 && Nat.beq y.category 1) (K (pc + 1) lv (x :: y :: x :: y :: r) h w k n) False)
  | .dup_x1 => st_v st fun x r => st_v r fun y r => cond (Nat.beq x.category 1 && Nat.beq y.category 1) (K (pc + 1) lv (x :: y :: x :: r) h w k n) False
  | .ifCond .eq o => st_i st fun x r => hp_go pc o fun q => (x = 0 → K q lv r h w k n) ∧ (¬ x = 0 → K (pc + 3) lv r h w k n)
  | .ifCond .ne o => st_i st fun x r => hp_go pc o fun q => (¬ x = 0 → K q lv r h w k n) ∧ (x = 0 → K (pc + 3) lv r h w k n)
  | .ifCond .lt o => st_i st fun x r => hp_go pc o fun q => (x < 0 → K q lv r h w k n) ∧ (¬ x < 0 → K (pc + 3) lv r h w k n)
  | .ifCond .ge o => st_i st fun x r => hp_go pc o fun q => (0 ≤ x → K q lv r h w k n) ∧ (¬ 0 ≤ x → K (pc + 3) lv r h w k n)
  | .ifCond .gt o => st_i st fun x r => hp_go pc o fun q => (0 < x → K q lv r h w k n) ∧ (¬ 0 < x → K (pc + 3) lv r h w k n)
  | .ifCond .le o => st_i st fun x r => hp_go pc o fun q => (x ≤ 0 → K q lv r h w k n) ∧ (¬ x ≤ 0 → K (pc + 3) lv r h w k n)
  | .if_icmp .eq o => st_i st fun y r => st_i r fun x r => hp_go pc o fun q => (x = y → K q lv r h w k n) ∧ (¬ x = y → K (pc + 3) lv r h w k n)
  | .if_icmp .ne o => st_i st fun y r => st_i r fun x r => hp_go pc o fun q => (¬ x = y → K q lv r h w k n) ∧ (x = y → K (pc + 3) lv r h w k n)
  | .if_icmp .lt o => st_i st fun y r => st_i r fun x r => hp_go pc o fun q => (x < y → K q lv r h w k n) ∧ (¬ x < y → K (pc + 3) lv r h w k n)
  | .if_icmp .ge o => st_i st fun y r => st_i r fun x r => hp_go pc o fun q => (y ≤ x → K q lv r h w k n) ∧ (¬ y ≤ x → K (pc + 3) lv r h w k n)
  | .if_icmp .gt o => st_i st fun y r => st_i r fun x r => hp_go pc o fun q => (y < x → K q lv r h w k n) ∧ (¬ y < x → K (pc + 3) lv r h w k n)
  | .if_icmp .le o => st_i st fun y r => st_i r fun x r => hp_go pc o fun q => (x ≤ y → K q lv r h w k n) ∧ (¬ x ≤ y → K (pc + 3) lv r h w k n)
  | .goto o => hp_go pc o fun q => K q lv st h w k n
  | .getfield i => hp_with (hp_lk (t_fld T) i) fun f => st_a st fun a r => ∃ fs, h[a]? = some (.inr (f.1, fs)) ∧ K (pc + 3) lv (vp_V fs f.2 :: r) h w k n
  | .putfield i => hp_with (hp_lk (t_fld T) i) fun f => hp_with (classes[f.1]?) fun r0 => ((r0.2.1 f.2).2.2.2 = false ∨ ((r0.2.1 f.2).2.2.2 = true ∧ (y_nm Y).name = "<init>" ∧ (r0.2.1 f.2).1 = t_own T)) ∧ st_v st fun v r => st_a r fun a r => ∃ fs, h[a]? = some (.inr (f.1, fs)) ∧ f.2 < fs.length ∧ narrow (hp_fty f.1 f.2) v = v ∧ fits (hp_fty f.1 f.2) v = true ∧ K (pc + 3) lv r (h.set a (.inr (f.1, fs.set f.2 v))) false k n
  | .iaload => st_i st fun i r => st_a r fun a r => ∃ (ty : FieldType) (N : Nat) (f : Nat → Int32), (ty = .int ∨ ty = .float) ∧ h[a]? = some (.inl (ty, N, .inl f)) ∧ vp_in i N ∧ K (pc + 1) lv (.int (f i.toNatClampNeg) :: r) h w k n
  | .laload => st_i st fun i r => st_a r fun a r => ∃ (N : Nat) (f : Nat → Int64), h[a]? = some (.inl (.long, N, .inr (.inl f))) ∧ vp_in i N ∧ K (pc + 1) lv (.long (f i.toNatClampNeg) :: r) h w k n
  | .baload => st_i st fun i r => st_a r fun a r => ∃ (N : Nat) (f : Nat → Int32), h[a]? = some (.inl (.boolean, N, .inl f)) ∧ vp_in i N ∧ K (pc + 1) lv (.int (f i.toNatClampNeg) :: r) h w k n
  | .aaload => st_i st fun i r => st_a r fun a r => ∃ (t : FieldType) (N : Nat) (f : Nat → Option Nat), h[a]? = some (.inl (.array t, N, .inr (.inr (.inr (.inr f))))) ∧ vp_in i N ∧ K (pc + 1) lv (va_rf (f i.toNatClampNeg) :: r) h w k n
  | .iastore => st_i st fun x r => st_i r fun i r => st_a r fun a r => ∃ (N : Nat) (f : Nat → Int32), h[a]? = some (.inl (.int, N, .inl f)) ∧ vp_in i N ∧ K (pc + 1) lv r (h.set a (.inl (.int, N, .inl (upd f i.toNatClampNeg x)))) false k n
  | .lastore => st_l st fun x r => st_i r fun i r => st_a r fun a r => ∃ (N : Nat) (f : Nat → Int64), h[a]? = some (.inl (.long, N, .inr (.inl f))) ∧ vp_in i N ∧ K (pc + 1) lv r (h.set a (.inl (.long, N, .inr (.inl (vp_updL f i.toNatClampNeg x))))) false k n
  | .bastore => st_i st fun x r => st_i r fun i r => st_a r fun a r => ∃ (N : Nat) (f : Nat → Int32), h[a]? = some (.inl (.boolean, N, .inl f)) ∧ vp_in i N ∧ narrow .boolean (.int x) = .int x ∧ K (pc + 1) lv r (h.set a (.inl (.boolean, N, .inl (upd f i.toNatClampNeg x)))) false k n
  | .arraylength => st_a st fun a r => ∃ (ty : FieldType) (N : Nat) (x : hp_X), h[a]? = some (.inl (ty, N, x)) ∧ K (pc + 1) lv (.int (Int32.ofNat N) :: r) h w k n
  | .newarray t => st_i st fun x r => ∃ N, x.toNatClampNeg = N ∧ ¬ x < 0 ∧ N * componentBytes (newarray.typeOf t) ≤ 536870912 ∧ k + 1 ≤ dk ∧ n + N ≤ dn ∧ hp_aok (newarray.typeOf t) ∧ K (pc + 2) lv (.ref h.length :: r) (h ++ [.inl (newarray.typeOf t, N, hp_zero (newarray.typeOf t))]) w (k + 1) (n + N)
  | .ldc i => hp_with (hp_lk (t_int T) i) fun v => K (pc + 2) lv (.int v :: st) h w k n
  | .ldc2_w i => hp_with (hp_lk (t_long T) i) fun v => K (pc + 3) lv (.long v :: st) h w k n
  | .tableswitch d lo up os => cond (decide ((os.size : Int) = up - lo + 1)) (st_i st fun x r => ((x.toInt < lo ∨ up < x.toInt) → hp_go pc d fun q => K q lv r h w k n) ∧ hp_sw x lo os.toList fun o => hp_go pc o fun q => K q lv r h w k n) False
  | .new i => hp_with (hp_lk (t_new T) i) fun ci => hp_with (classes[ci]?) fun r0 => k + 1 ≤ dk ∧ n + r0.2.2 ≤ dn ∧ K (pc + 3) lv (.ref h.length :: st) (h ++ [.inr (ci, hp_new ci)]) w (k + 1) (n + r0.2.2)
  | .invokestatic i => hp_with (hp_lk (t_call T) i) fun q => cond (Nat.ble q.1 1) (hp_args (y_na q.2) st [] fun av rest => hp_ic l Y q.2 w0 dk dn Q K pc lv av rest h w k n) False
  | .invokevirtual i => hp_with (hp_lk (t_call T) i) fun q => cond (Nat.beq q.1 2 || Nat.beq q.1 3) (hp_args (y_na q.2) st [] fun av r => st_a r fun a rest => (∃ ci fs, h[a]? = some (.inr (ci, fs)) ∧ (classes[ci]?).map (fun c => c.1) = some (y_nm q.2).cls) ∧ hp_ic l Y q.2 w0 dk dn Q K pc lv (.ref a :: av) rest h w k n) False
  | .invokespecial i => hp_with (hp_lk (t_call T) i) fun q => cond (Nat.beq q.1 6) (cond (Nat.ble 1 (y_fr Y)) (st_a st fun a r => cond (Nat.ble ((r.map fun v => v.category).sum + 12) (y_lo Y)) (K (pc + 3) lv r h w k n) False) False) (cond (Nat.beq q.1 4 || Nat.beq q.1 5) (hp_args (y_na q.2) st [] fun av r => st_a r fun a rest => hp_ic l Y q.2 w0 dk dn Q K pc lv (.ref a :: av) rest h w k n) False)
  | .ireturn => st_i st fun x r => hp_with (y_rt Y) fun ty => r = [] ∧ narrow ty (.int x) = .int x ∧ hp_fin w0 w (Q (.inl (some (.int x))) h)
  | .lreturn => st_l st fun x r => r = [] ∧ y_rt Y = some .long ∧ hp_fin w0 w (Q (.inl (some (.long x))) h)
  | .return_ => st = [] ∧ y_rt Y = none ∧ hp_fin w0 w (Q (.inl none) h)
  | .areturn => st_a st fun x r => r = [] ∧ (∃ t, y_rt Y = some (.array t)) ∧ hp_fin w0 w (Q (.inl (some (.ref x))) h)
  | _ => False
/-- what stays the same while a method's body runs -/
def hp_ctx (T : hp_T) (Y : hp_Y) (l : Launch) (w0 : Bool) (dk dn : Nat) (Q : hp_R → hp_H → Prop) (G : hp_G) : Prop :=
  hp_B (y_cc Y) G ∧ hp_O (t_own T) G ∧ g_n G = y_mx Y ∧ g_R G = { frames := y_fr Y, cells := dk, slots := dn, locals := y_lo Y } ∧ g_l G = l ∧ g_w G = w0 ∧ g_Q G = Q ∧ (g_me G).sig.returnType = y_rt Y ∧ (g_me G).locks = false ∧ (g_me G).name = (y_nm Y).name ∧
    (g_c G).exceptionTable.toList.map (fun h => (h.startPc, h.endPc, h.handlerPc, h.catchType)) = y_hd Y ∧ hp_noT l ∧ hp_thr (g_z G) (g_s G)
def hp_len (i : Instr) : Nat := match i with
  | .tableswitch .. => 0
  | .lookupswitch .. => 0
  | .bipush _ | .iload _ | .lload _ | .aload _ | .istore _ | .lstore _ | .astore _ | .newarray _ | .ldc _ => 2
  | .sipush _ | .iinc .. | .ifCond .. | .if_icmp .. | .goto _ | .getfield _ | .putfield _ | .new _ | .invokestatic _ | .invokespecial _ | .invokevirtual _ | .ldc2_w _ | .anewarray _ | .ldc_w _ | .ifnull _ | .ifnonnull _ | .getstatic _ => 3
  | .multianewarray .. => 4
  | _ => 1
/-- what a call needs of the words, by its kind: static, static of a nest mate, virtual, virtual of a nest mate, constructor, constructor of a nest mate, Object's -/
def hp_vcall (own : String) (i kd : Nat) (Y : hp_Y) : Prop := match kd with
  | 0 => hp_cd Y ∈ hp_Ts ∧ Jvm.Cond.methodLink own i (y_nm Y) ∈ hp_Ts ∧ Jvm.Cond.static (y_nm Y) ∈ hp_Ts ∧ Jvm.Cond.initialized (y_nm Y).cls ∈ hp_Ts ∧ hp_notMH Y ∧ hp_np Y
  | 1 => ∃ host, hp_cd Y ∈ hp_Ts ∧ Jvm.Cond.methodLinkNest own i (y_nm Y) host ∈ hp_Ts ∧ Jvm.Cond.static (y_nm Y) ∈ hp_Ts ∧ Jvm.Cond.initialized (y_nm Y).cls ∈ hp_Ts ∧ hp_notMH Y ∧ hp_np Y
  | 2 => hp_cd Y ∈ hp_Ts ∧ Jvm.Cond.methodLink own i (y_nm Y) ∈ hp_Ts ∧ Jvm.Cond.instanceMethod (y_nm Y) ∈ hp_Ts ∧ Jvm.Cond.selects (y_nm Y).cls (y_nm Y) (y_nm Y) ∈ hp_Ts ∧ Jvm.Cond.initialized (y_nm Y).cls ∈ hp_Ts ∧ hp_notMH Y ∧ hp_np Y
  | 3 => ∃ host, hp_cd Y ∈ hp_Ts ∧ Jvm.Cond.methodLinkNest own i (y_nm Y) host ∈ hp_Ts ∧ Jvm.Cond.instanceMethod (y_nm Y) ∈ hp_Ts ∧ Jvm.Cond.selects (y_nm Y).cls (y_nm Y) (y_nm Y) ∈ hp_Ts ∧ Jvm.Cond.initialized (y_nm Y).cls ∈ hp_Ts ∧ hp_notMH Y ∧ hp_np Y
  | 4 => hp_cd Y ∈ hp_Ts ∧ y_hd Y = [] ∧ y_rt Y = none ∧ Jvm.Cond.methodLink own i (y_nm Y) ∈ hp_Ts ∧ Jvm.Cond.instanceMethod (y_nm Y) ∈ hp_Ts ∧ (y_nm Y).name = "<init>" ∧ Jvm.Cond.initialized (y_nm Y).cls ∈ hp_Ts ∧ hp_notMH Y ∧ hp_np Y
  | 5 => ∃ host, hp_cd Y ∈ hp_Ts ∧ y_hd Y = [] ∧ y_rt Y = none ∧ Jvm.Cond.methodLinkNest own i (y_nm Y) host ∈ hp_Ts ∧ Jvm.Cond.instanceMethod (y_nm Y) ∈ hp_Ts ∧ (y_nm Y).name = "<init>" ∧ Jvm.Cond.initialized (y_nm Y).cls ∈ hp_Ts ∧ hp_notMH Y ∧ hp_np Y
  | 6 => Jvm.Cond.methodLink own i Lib.objectInit ∈ hp_Ts ∧ Jvm.Cond.instanceMethod Lib.objectInit ∈ hp_Ts ∧ Jvm.Cond.code Lib.objectInit ⟨#[0xb1]⟩ 1 none ∈ hp_Ts
  | _ => False
theorem hp_recv {own : String} {G : hp_G} (O : hp_O own G) {σ : List Nat} {h : hp_H} {H : Heap} (a1 : hp_rep (g_D G) (g_z G) (g_s G) σ h H) {a ci : Nat} {fs : List Value} (ha : h[a]? = some (.inr (ci, fs))) {nm : String} (hcn : (classes[ci]?).map (fun c => c.1) = some nm) : ∃ cell : Cell, H[σ.getD a 0]? = some cell ∧ cell.vm.isStatics = false ∧ (g_s G).vm.findClass nm = some cell.cls := by
  obtain ⟨r, cell, c0, c1, c2, c3, c4⟩ := a1.2.1 a _ ha
  rw [c0] at hcn
  cases hcn
  exact ⟨cell, c1, by rw [c3]; rfl, by rw [c2]; exact (O.2.2.1.1 ci _ c0).2.1⟩
theorem hs_objInit {G : hp_G} {cc : ByteArray} {pc : Nat} {lv : hp_L} {st : List Value} {h : hp_H} {w : Bool} {k n : Nat} {K : hp_K} (C : hp_B cc G) (hK : ∀ pc lv st h w k n, K pc lv st h w k n → hp_W G pc lv st h w k n) {own : String} (O : hp_O own G) {idx : Nat} (v1 : Jvm.Cond.methodLink own idx Lib.objectInit ∈ hp_Ts) (v2 : Jvm.Cond.instanceMethod Lib.objectInit ∈ hp_Ts) (v3 : Jvm.Cond.code Lib.objectInit ⟨#[0xb1]⟩ 1 none ∈ hp_Ts)
    (hd : decode cc pc = .ok (.invokespecial idx, 3)) {a : Nat} {r : List Value} (hfr : 1 ≤ (g_R G).frames) (hlo : (r.map fun v => v.category).sum + 12 ≤ (g_R G).locals) (hst : st = .ref a :: r) (hi : K (pc + 3) lv r h w k n) : hp_W G pc lv st h w k n := by
  subst hst
  intro σ H locs ls a1 a2 a3 a4 a5 a6 a7 a8 a9
  obtain ⟨hts, hown, -, -⟩ := O
  have hcat : ((r.map (hp_cv σ)).map fun v => v.category) = r.map fun v => v.category := by
    rw [List.map_map]
    exact List.map_congr_left fun v _ => hp_cv_cat σ v
  exact W.objInit C.1 C.2.1 hown (hts _ v1) (hts _ v2) (hts _ v3) rfl (a6.1.trans C.2.2.symm) rfl hd hfr (by show 2 * 0 + ((r.map (hp_cv σ)).map fun v => v.category).sum + 12 ≤ _; rw [hcat]; omega)
    (hK _ _ _ _ _ _ _ hi σ H locs ls a1 a2 a3 a4 a5 a6 (fun v hv => a7 v (List.mem_cons_of_mem _ hv)) a8 a9)
/-- hp_ic is enough for a call -/
theorem hp_call_ic {G : hp_G} {l : Launch} {Y0 : hp_Y} {w0 : Bool} {dk0 dn0 : Nat} {Q : hp_R → hp_H → Prop} {cc : ByteArray} {pc : Nat} {lv : hp_L} {st : List Value} {h : hp_H} {w : Bool} {k n : Nat} {K : hp_K} (C : hp_B cc G) (hK : ∀ pc lv st h w k n, K pc lv st h w k n → hp_W G pc lv st h w k n) {own : String} (O : hp_O own G) (hnt : hp_noT l) (hth : hp_thr (g_z G) (g_s G)) {Y : hp_Y} {av rest : List Value}
    {ins : Instr} (hd : decode cc pc = .ok (ins, 3)) (hcd : hp_cd Y ∈ hp_Ts) (hini : Jvm.Cond.initialized (y_nm Y).cls ∈ hp_Ts) (hR : g_R G = { frames := y_fr Y0, cells := dk0, slots := dn0, locals := y_lo Y0 }) (hl : g_l G = l) (hw : g_w G = w0) (hQ : g_Q G = Q) (hlk : (g_me G).locks = false)
    (hex : (g_c G).exceptionTable.toList.map (fun h => (h.startPc, h.endPc, h.handlerPc, h.catchType)) = y_hd Y0) (hst : ∀ v ∈ rest, v ∈ st) (hav : ∀ v ∈ av, v ∈ st)
    (hinv : ∀ (σ : List Nat) (H : Heap) (ls : Array Slot), hp_rep (g_D G) (g_z G) (g_s G) σ h H → ls.size = g_n G → ∃ mk, (g_s G).methodNamed? (y_nm Y) = some mk ∧ hp_inv G pc ls H (st.map (hp_cv σ)) (rest.map (hp_cv σ)) mk (av.map (hp_cv σ)))
    (hi : hp_ic l Y0 Y w0 dk0 dn0 Q K pc lv av rest h w k n) : hp_W G pc lv st h w k n := by
  unfold hp_ic at hi
  cases hb : (Nat.ble (y_fr Y + 1) (y_fr Y0) && Nat.ble ((rest.map fun v => v.category).sum + (y_mx Y + 11) + y_lo Y) (y_lo Y0) && hp_nil (y_hd Y0)) with
  | false => rw [hb] at hi; exact False.elim hi
  | true =>
    rw [hb] at hi
    rw [Bool.and_eq_true, Bool.and_eq_true] at hb
    obtain ⟨wy, dk, dn, Qy, hM, hc1, hc2, hi⟩ := hi
    subst hl
    have hno : y_hd Y0 = [] := by
      have := hb.2
      cases hy : y_hd Y0 with
      | nil => rfl
      | cons q r => rw [hy] at this; cases this
    refine hp_call C hK O hnt hth hM hd hcd hini (by rw [hR]; exact Nat.le_of_ble_eq_true hb.1.1) (by rw [hR]; exact Nat.le_of_ble_eq_true hb.1.2) (by rw [hR]; exact hc1) (by rw [hR]; exact hc2) hst hav hinv (fun r h' hq => ?_)
    have h2 := hi r h' hq
    match r, h2 with
    | .inl v, h2 => exact h2
    | .inr ci, h2 =>
      refine hp_catch_out hlk (fun x hx => ?_) (by unfold hp_end; rw [hw, hQ]; exact h2)
      rw [hno] at hex
      rw [List.map_eq_nil_iff.mp hex] at hx
      cases hx
/-- the tables say what is so -/
def hp_val (T : hp_T) (Y : hp_Y) : Prop :=
  (∀ q ∈ t_code T, ∃ len, decode (y_cc Y) q.1 = .ok (q.2, len) ∧ (hp_len q.2 = 0 ∨ len = hp_len q.2)) ∧
  (∀ q ∈ t_fld T, ∃ r0 : vw_C, classes[q.2.1]? = some r0 ∧ q.2.2 < r0.2.2 ∧ Jvm.Cond.fieldLink (t_own T) q.1 (r0.2.1 q.2.2).1 (r0.2.1 q.2.2).2.1 (r0.2.1 q.2.2).2.2.1 ∈ hp_Ts) ∧
  (∀ q ∈ t_call T, hp_vcall (t_own T) q.1 q.2.1 q.2.2) ∧ (∀ q ∈ t_int T, Jvm.Cond.constant (t_own T) q.1 q.2 ∈ hp_Ts) ∧ (∀ q ∈ t_long T, Jvm.Cond.constantLong (t_own T) q.1 q.2 ∈ hp_Ts) ∧
  (∀ q ∈ t_new T, ∃ r0 : vw_C, classes[q.2]? = some r0 ∧ Jvm.Cond.classLink (t_own T) q.1 r0.1 ∈ hp_Ts)
set_option maxHeartbeats 4000000 in
theorem hp_i_sound {T : hp_T} {Y : hp_Y} {l : Launch} {w0 : Bool} {dk dn : Nat} {Q : hp_R → hp_H → Prop} {G : hp_G} (hco : hp_clsok) (V : hp_val T Y) (C : hp_ctx T Y l w0 dk dn Q G) {K : hp_K} (hK : ∀ pc lv st h w k n, K pc lv st h w k n → hp_W G pc lv st h w k n)
    {ins : Instr} {pc : Nat} {lv : hp_L} {st : List Value} {h : hp_H} {w : Bool} {k n : Nat} (hc : hp_lk (t_code T) pc = some ins) (hi : hp_i l T Y w0 dk dn Q K ins pc lv st h w k n) : hp_W G pc lv st h w k n := by
  obtain ⟨B, O, hn, hR, hl, hw, hQ, hrt, hlk, hnm, hex, hnt, hth⟩ := C
  obtain ⟨len, hdec, hlen⟩ := V.1 _ (hp_lk_mem _ _ _ hc)
  have hd : ∀ j, hp_len ins = j + 1 → decode (y_cc Y) pc = .ok (ins, j + 1) := fun j hj => by
    rcases hlen with e | e
    · rw [e] at hj; cases hj
    · rw [← hj, ← e]; exact hdec
  cases ins
  case iconst i =>
    exact hs_iconst B hK (hd _ rfl) hi
  case bipush i =>
    exact hs_bipush B hK (hd _ rfl) hi
  case sipush i =>
    exact hs_sipush B hK (hd _ rfl) hi
  case lconst i =>
    exact hs_lconst B hK (hd _ rfl) hi
  case aconst_null =>
    exact hs_aconst_null B hK (hd _ rfl) hi
  case iload i =>
    exact hs_iload B hK (hd _ rfl) hi
  case iload_n i =>
    exact hs_iload_n B hK (hd _ rfl) hi
  case lload i =>
    exact hs_lload B hK (hd _ rfl) hi
  case lload_n i =>
    exact hs_lload_n B hK (hd _ rfl) hi
  case aload i =>
    exact hs_aload B hK (hd _ rfl) hi
  case aload_n i =>
    exact hs_aload_n B hK (hd _ rfl) hi
  case istore i =>
    exact hs_istore B hK (hd _ rfl) (by rw [hn]; exact hi)
  case istore_n i =>
    exact hs_istore_n B hK (hd _ rfl) (by rw [hn]; exact hi)
  case lstore i =>
    exact hs_lstore B hK (hd _ rfl) (by rw [hn]; exact hi)
  case lstore_n i =>
    exact hs_lstore_n B hK (hd _ rfl) (by rw [hn]; exact hi)
  case astore i =>
    exact hs_astore B hK (hd _ rfl) (by rw [hn]; exact hi)
  case astore_n i =>
    exact hs_astore_n B hK (hd _ rfl) (by rw [hn]; exact hi)
  case iinc i c =>
    exact hs_iinc B hK (hd _ rfl) (by rw [hn]; exact hi)
  case iadd =>
    exact hs_iadd B hK (hd _ rfl) hi
  case isub =>
    exact hs_isub B hK (hd _ rfl) hi
  case imul =>
    exact hs_imul B hK (hd _ rfl) hi
  case iand =>
    exact hs_iand B hK (hd _ rfl) hi
  case ior =>
    exact hs_ior B hK (hd _ rfl) hi
  case ixor =>
    exact hs_ixor B hK (hd _ rfl) hi
  case ishl =>
    exact hs_ishl B hK (hd _ rfl) hi
  case ishr =>
    exact hs_ishr B hK (hd _ rfl) hi
  case ladd =>
    exact hs_ladd B hK (hd _ rfl) hi
  case lsub =>
    exact hs_lsub B hK (hd _ rfl) hi
  case lmul =>
    exact hs_lmul B hK (hd _ rfl) hi
  case land =>
    exact hs_land B hK (hd _ rfl) hi
  case lor =>
    exact hs_lor B hK (hd _ rfl) hi
  case lxor =>
    exact hs_lxor B hK (hd _ rfl) hi
  case idiv =>
    exact hs_idiv B hK (hd _ rfl) hi
  case irem =>
    exact hs_irem B hK (hd _ rfl) hi
  case iushr =>
    exact hs_iushr B hK (hd _ rfl) hi
  case lushr =>
    exact hs_lushr B hK (hd _ rfl) hi
  case lshl =>
    exact hs_lshl B hK (hd _ rfl) hi
  case lshr =>
    exact hs_lshr B hK (hd _ rfl) hi
  case lcmp =>
    exact hs_lcmp B hK (hd _ rfl) hi
  case ineg =>
    exact hs_ineg B hK (hd _ rfl) hi
  case lneg =>
    exact hs_lneg B hK (hd _ rfl) hi
  case i2l =>
    exact hs_i2l B hK (hd _ rfl) hi
  case l2i =>
    exact hs_l2i B hK (hd _ rfl) hi
  case dup =>
    exact hs_dup B hK (hd _ rfl) hi
  case pop =>
    exact hs_pop B hK (hd _ rfl) hi
  case dup2 =>
    exact hs_dup2 B hK (hd _ rfl) hi
  case dup_x1 =>
    exact hs_dup_x1 B hK (hd _ rfl) hi
  case ifCond c o =>
    cases c
    case eq => exact hs_if_eq B hK (hd _ rfl) hi
    case ne => exact hs_if_ne B hK (hd _ rfl) hi
    case lt => exact hs_if_lt B hK (hd _ rfl) hi
    case ge => exact hs_if_ge B hK (hd _ rfl) hi
    case gt => exact hs_if_gt B hK (hd _ rfl) hi
    case le => exact hs_if_le B hK (hd _ rfl) hi
  case if_icmp c o =>
    cases c
    case eq => exact hs_icmp_eq B hK (hd _ rfl) hi
    case ne => exact hs_icmp_ne B hK (hd _ rfl) hi
    case lt => exact hs_icmp_lt B hK (hd _ rfl) hi
    case ge => exact hs_icmp_ge B hK (hd _ rfl) hi
    case gt => exact hs_icmp_gt B hK (hd _ rfl) hi
    case le => exact hs_icmp_le B hK (hd _ rfl) hi
  case goto o =>
    exact hs_goto B hK (hd _ rfl) hi
  case getfield i =>
    obtain ⟨f, e1, hi1⟩ := hp_with_of hi
    obtain ⟨r0, f1, f2, f3⟩ := V.2.1 _ (hp_lk_mem _ _ _ e1)
    exact hs_getfield B hK O hco f1 f2 f3 (hd _ rfl) hi1
  case putfield i =>
    obtain ⟨f, e1, hi2⟩ := hp_with_of hi
    obtain ⟨r1, e2, f4, hi3⟩ := hp_with_of hi2
    obtain ⟨r0, f1, f2, f3⟩ := V.2.1 _ (hp_lk_mem _ _ _ e1)
    cases f1.symm.trans e2
    refine hs_putfield B hK O hco f1 f2 f3 ?_ (hd _ rfl) hi3
    rcases f4 with f4 | ⟨f4, f5, f6⟩
    · exact Or.inl f4
    · exact Or.inr ⟨f4, by rw [hnm]; exact f5, f6⟩
  case iaload =>
    obtain ⟨i, r, rfl, hi4⟩ := st_i_of hi
    obtain ⟨a, r, rfl, ty, N, f, hty, h1, h2, h3⟩ := st_a_of hi4
    rcases hty with rfl | rfl
    · exact hs_iaload B hK (hd _ rfl) rfl h1 h2 h3
    · exact hs_ialoadS B hK (hd _ rfl) rfl h1 h2 h3
  case laload =>
    obtain ⟨i, r, rfl, hi5⟩ := st_i_of hi
    obtain ⟨a, r, rfl, N, f, h1, h2, h3⟩ := st_a_of hi5
    exact hs_laload B hK (hd _ rfl) rfl h1 h2 h3
  case baload =>
    obtain ⟨i, r, rfl, hi6⟩ := st_i_of hi
    obtain ⟨a, r, rfl, N, f, h1, h2, h3⟩ := st_a_of hi6
    exact hs_zaload B hK (hd _ rfl) rfl h1 h2 h3
  case aaload =>
    obtain ⟨i, r, rfl, hi7⟩ := st_i_of hi
    obtain ⟨a, r, rfl, t, N, f, h1, h2, h3⟩ := st_a_of hi7
    exact hs_aaload B hK (hd _ rfl) rfl rfl rfl h1 h2 h3
  case iastore =>
    obtain ⟨x, r, rfl, hi8⟩ := st_i_of hi
    obtain ⟨i, r, rfl, hi9⟩ := st_i_of hi8
    obtain ⟨a, r, rfl, N, f, h1, h2, h3⟩ := st_a_of hi9
    exact hs_iastore B hK (hd _ rfl) rfl h1 h2 h3
  case lastore =>
    obtain ⟨x, r, rfl, hi10⟩ := st_l_of hi
    obtain ⟨i, r, rfl, hi11⟩ := st_i_of hi10
    obtain ⟨a, r, rfl, N, f, h1, h2, h3⟩ := st_a_of hi11
    exact hs_lastore B hK (hd _ rfl) rfl h1 h2 h3
  case bastore =>
    obtain ⟨x, r, rfl, hi12⟩ := st_i_of hi
    obtain ⟨i, r, rfl, hi13⟩ := st_i_of hi12
    obtain ⟨a, r, rfl, N, f, h1, h2, h3, h4⟩ := st_a_of hi13
    exact hs_zastore B hK (hd _ rfl) rfl h1 h2 h3 h4
  case arraylength =>
    obtain ⟨a, r, rfl, ty, N, x, h1, h2⟩ := st_a_of hi
    exact hs_arraylength B hK (hd _ rfl) rfl h1 h2
  case newarray t =>
    obtain ⟨x, r, rfl, N, h1, h2, h3, h4, h5, ⟨h6, h7⟩, h8⟩ := st_i_of hi
    exact hs_newarray B hK O rfl h6 h7 (hd _ rfl) rfl h2 h1 h3 (by rw [hR]; exact h4) (by rw [hR]; exact h5) h8
  case ldc i =>
    obtain ⟨v, e1, hi14⟩ := hp_with_of hi
    exact hs_ldc B hK O (V.2.2.2.1 _ (hp_lk_mem _ _ _ e1)) (hd _ rfl) hi14
  case ldc2_w i =>
    obtain ⟨v, e1, hi15⟩ := hp_with_of hi
    exact hs_ldc2 B hK O (V.2.2.2.2.1 _ (hp_lk_mem _ _ _ e1)) (hd _ rfl) hi15
  case tableswitch d lo up os =>
    exact hs_tableswitch B hK hdec hi
  case new i =>
    obtain ⟨ci, e1, hi16⟩ := hp_with_of hi
    obtain ⟨r1, e2, c1, c2, hi17⟩ := hp_with_of hi16
    obtain ⟨r0, f1, f2⟩ := V.2.2.2.2.2 _ (hp_lk_mem _ _ _ e1)
    cases f1.symm.trans e2
    exact hs_new B hK O hco f1 f2 (hd _ rfl) (by rw [hR]; exact c1) (by rw [hR]; exact c2) hi17
  case invokestatic i =>
    obtain ⟨q, e1, hi18⟩ := hp_with_of hi
    have hv := V.2.2.1 _ (hp_lk_mem _ _ _ e1)
    obtain ⟨kd, Y'⟩ := q
    match kd, hv, hi18 with
    | 0, hv, hi =>
      obtain ⟨as, rest, e2, rfl, hi19⟩ := hp_args_of _ _ _ _ hi
      rw [List.append_nil] at hi19
      obtain ⟨v1, v2, v3, v4, v5, v6⟩ := hv
      refine hp_call_ic B hK O hnt hth (hd _ rfl) v1 v4 hR hl hw hQ hlk hex (fun v hv => List.mem_append_right _ hv) (fun v hv => List.mem_append_left _ (List.mem_reverse.mpr hv)) (fun σ H ls a1 a2 => ?_) hi19
      rw [List.map_append, List.map_reverse]
      exact hp_inv_S B O v1 v2 v3 v4 v5 v6 (hd _ rfl) (by rw [List.length_map]; exact e2) ls H
    | 1, hv, hi =>
      obtain ⟨as, rest, e2, rfl, hi20⟩ := hp_args_of _ _ _ _ hi
      rw [List.append_nil] at hi20
      obtain ⟨host, v1, v2, v3, v4, v5, v6⟩ := hv
      refine hp_call_ic B hK O hnt hth (hd _ rfl) v1 v4 hR hl hw hQ hlk hex (fun v hv => List.mem_append_right _ hv) (fun v hv => List.mem_append_left _ (List.mem_reverse.mpr hv)) (fun σ H ls a1 a2 => ?_) hi20
      rw [List.map_append, List.map_reverse]
      exact hp_inv_SN B O v1 v2 v3 v4 v5 v6 (hd _ rfl) (by rw [List.length_map]; exact e2) ls H
    | _ + 2, hv, hi => exact False.elim hi
  case invokevirtual i =>
    obtain ⟨q, e1, hi21⟩ := hp_with_of hi
    have hv := V.2.2.1 _ (hp_lk_mem _ _ _ e1)
    obtain ⟨kd, Y'⟩ := q
    match kd, hv, hi21 with
    | 0, hv, hi => exact False.elim hi
    | 1, hv, hi => exact False.elim hi
    | 2, hv, hi =>
      obtain ⟨as, r, e2, rfl, hi22⟩ := hp_args_of _ _ _ _ hi
      rw [List.append_nil] at hi22
      obtain ⟨a, rest, rfl, ⟨ci, fs, ha, hcn⟩, hi23⟩ := st_a_of hi22
      obtain ⟨v1, v2, v3, v4, v5, v6, v7⟩ := hv
      refine hp_call_ic B hK O hnt hth (hd _ rfl) v1 v5 hR hl hw hQ hlk hex (fun v hv => List.mem_append_right _ (List.mem_cons_of_mem _ hv)) (fun v hv => by rcases List.mem_cons.mp hv with e | e; (rw [e]; exact List.mem_append_right _ List.mem_cons_self); exact List.mem_append_left _ (List.mem_reverse.mpr e)) (fun σ H ls a1 a2 => ?_) hi23
      rw [List.map_append, List.map_reverse]
      obtain ⟨cell, c1, c2, c3⟩ := hp_recv O a1 ha hcn
      exact hp_inv_V B O v1 v2 v3 v4 v6 v7 (hd _ rfl) (by rw [List.length_map]; exact e2) ls c1 c2 c3
    | 3, hv, hi =>
      obtain ⟨as, r, e2, rfl, hi24⟩ := hp_args_of _ _ _ _ hi
      rw [List.append_nil] at hi24
      obtain ⟨a, rest, rfl, ⟨ci, fs, ha, hcn⟩, hi25⟩ := st_a_of hi24
      obtain ⟨host, v1, v2, v3, v4, v5, v6, v7⟩ := hv
      refine hp_call_ic B hK O hnt hth (hd _ rfl) v1 v5 hR hl hw hQ hlk hex (fun v hv => List.mem_append_right _ (List.mem_cons_of_mem _ hv)) (fun v hv => by rcases List.mem_cons.mp hv with e | e; (rw [e]; exact List.mem_append_right _ List.mem_cons_self); exact List.mem_append_left _ (List.mem_reverse.mpr e)) (fun σ H ls a1 a2 => ?_) hi25
      rw [List.map_append, List.map_reverse]
      obtain ⟨cell, c1, c2, c3⟩ := hp_recv O a1 ha hcn
      exact hp_inv_VN B O v1 v2 v3 v4 v6 v7 (hd _ rfl) (by rw [List.length_map]; exact e2) ls c1 c2 c3
    | _ + 4, hv, hi => exact False.elim hi
  case invokespecial i =>
    obtain ⟨q, e1, hi26⟩ := hp_with_of hi
    have hv := V.2.2.1 _ (hp_lk_mem _ _ _ e1)
    obtain ⟨kd, Y'⟩ := q
    match kd, hv, hi26 with
    | 0, hv, hi => exact False.elim hi
    | 1, hv, hi => exact False.elim hi
    | 2, hv, hi => exact False.elim hi
    | 3, hv, hi => exact False.elim hi
    | 4, hv, hi =>
      obtain ⟨as, r, e2, rfl, hi27⟩ := hp_args_of _ _ _ _ hi
      rw [List.append_nil] at hi27
      obtain ⟨a, rest, rfl, hi28⟩ := st_a_of hi27
      obtain ⟨v1, u1, u2, v2, v3, v4, v5, v6, v7⟩ := hv
      refine hp_call_ic B hK O hnt hth (hd _ rfl) v1 v5 hR hl hw hQ hlk hex (fun v hv => List.mem_append_right _ (List.mem_cons_of_mem _ hv)) (fun v hv => by rcases List.mem_cons.mp hv with e | e; (rw [e]; exact List.mem_append_right _ List.mem_cons_self); exact List.mem_append_left _ (List.mem_reverse.mpr e)) (fun σ H ls a1 a2 => ?_) hi28
      rw [List.map_append, List.map_reverse]
      exact hp_inv_I B O v1 u1 u2 v2 v3 v4 v6 v7 (hd _ rfl) (by rw [List.length_map]; exact e2) ls
    | 5, hv, hi =>
      obtain ⟨as, r, e2, rfl, hi29⟩ := hp_args_of _ _ _ _ hi
      rw [List.append_nil] at hi29
      obtain ⟨a, rest, rfl, hi30⟩ := st_a_of hi29
      obtain ⟨host, v1, u1, u2, v2, v3, v4, v5, v6, v7⟩ := hv
      refine hp_call_ic B hK O hnt hth (hd _ rfl) v1 v5 hR hl hw hQ hlk hex (fun v hv => List.mem_append_right _ (List.mem_cons_of_mem _ hv)) (fun v hv => by rcases List.mem_cons.mp hv with e | e; (rw [e]; exact List.mem_append_right _ List.mem_cons_self); exact List.mem_append_left _ (List.mem_reverse.mpr e)) (fun σ H ls a1 a2 => ?_) hi30
      rw [List.map_append, List.map_reverse]
      exact hp_inv_IN B O v1 u1 u2 v2 v3 v4 v6 v7 (hd _ rfl) (by rw [List.length_map]; exact e2) ls
    | 6, hv, hi =>
      obtain ⟨v1, v2, v3⟩ := hv
      change cond (Nat.ble 1 (y_fr Y)) (st_a st fun a r => cond (Nat.ble ((r.map fun v => v.category).sum + 12) (y_lo Y)) (K (pc + 3) lv r h w k n) False) False at hi
      cases hb : Nat.ble 1 (y_fr Y) with
      | false => rw [hb] at hi; exact False.elim hi
      | true =>
        rw [hb] at hi
        obtain ⟨a, r, rfl, hi31⟩ := st_a_of hi
        cases hb2 : Nat.ble ((r.map fun v => v.category).sum + 12) (y_lo Y) with
        | false => rw [hb2] at hi31; exact False.elim hi31
        | true =>
          rw [hb2] at hi31
          exact hs_objInit B hK O v1 v2 v3 (hd _ rfl) (by rw [hR]; exact Nat.le_of_ble_eq_true hb) (by rw [hR]; exact Nat.le_of_ble_eq_true hb2) rfl hi31
    | _ + 7, hv, hi => exact False.elim hi
  case ireturn =>
    obtain ⟨x, r, rfl, hi32⟩ := st_i_of hi
    obtain ⟨ty, e1, rfl, h1, h2⟩ := hp_with_of hi32
    exact hs_ireturn B hK (hrt.trans e1) hlk (hd _ rfl) rfl ⟨h1, by unfold hp_end; rw [hw, hQ]; exact h2⟩
  case lreturn =>
    obtain ⟨x, r, rfl, rfl, e1, h2⟩ := st_l_of hi
    exact hs_lreturn B hK (hrt.trans e1) hlk (hd _ rfl) rfl (by unfold hp_end; rw [hw, hQ]; exact h2)
  case return_ =>
    obtain ⟨rfl, e1, h2⟩ := hi
    exact hs_return B hK (hrt.trans e1) hlk (hd _ rfl) rfl (by unfold hp_end; rw [hw, hQ]; exact h2)
  case areturn =>
    obtain ⟨x, r, rfl, rfl, ⟨t, e1⟩, h2⟩ := st_a_of hi
    exact hs_areturn B hK (hrt.trans e1) (Or.inr ⟨t, rfl⟩) hlk (hd _ rfl) rfl (by unfold hp_end; rw [hw, hQ]; exact h2)
  all_goals exact False.elim hi
def hp_in (i : Nat) (l : List Nat) : Bool := match l with
  | [] => false
  | q :: r => cond (Nat.beq q i) true (hp_in i r)
/-- a run of so many instructions, up to the places where it stops -/
def hp_run (l : Launch) (T : hp_T) (Y : hp_Y) (w0 : Bool) (dk dn : Nat) (Q : hp_R → hp_H → Prop) (stop : List Nat) (f : Nat) (K : hp_K) (pc : Nat) (lv : hp_L) (st : List Value) (h : hp_H) (w : Bool) (k n : Nat) : Prop := match f with
  | 0 => K pc lv st h w k n
  | f + 1 => hp_with (hp_lk (t_code T) pc) fun ins => hp_i l T Y w0 dk dn Q (fun pc lv st h w k n => cond (hp_in pc stop) (K pc lv st h w k n) (hp_run l T Y w0 dk dn Q stop f K pc lv st h w k n)) ins pc lv st h w k n
theorem hp_run_sound {T : hp_T} {Y : hp_Y} {l : Launch} {w0 : Bool} {dk dn : Nat} {Q : hp_R → hp_H → Prop} {G : hp_G} (hco : hp_clsok) (V : hp_val T Y) (C : hp_ctx T Y l w0 dk dn Q G) {K : hp_K} (hK : ∀ pc lv st h w k n, K pc lv st h w k n → hp_W G pc lv st h w k n) (stop : List Nat) :
    ∀ (f : Nat) (pc : Nat) (lv : hp_L) (st : List Value) (h : hp_H) (w : Bool) (k n : Nat), hp_run l T Y w0 dk dn Q stop f K pc lv st h w k n → hp_W G pc lv st h w k n
  | 0, pc, lv, st, h, w, k, n, hi => hK _ _ _ _ _ _ _ hi
  | f + 1, pc, lv, st, h, w, k, n, hi => by
    obtain ⟨ins, e1, hi⟩ := hp_with_of hi
    refine hp_i_sound hco V C (fun pc lv st h w k n hq => ?_) e1 hi
    cases hb : hp_in pc stop with
    | true => rw [hb] at hq; exact hK _ _ _ _ _ _ _ hq
    | false => rw [hb] at hq; exact hp_run_sound hco V C hK stop f pc lv st h w k n hq
/-! the start of a method -/
theorem hp_args_map (σ : List Nat) : ∀ (av : List Value) (i : Nat), lv_args i (av.map (hp_cv σ)) = (lv_args i av).map fun q => (q.1, hp_cv σ q.2)
  | [], i => rfl
  | v :: av, i => by
    simp only [List.map_cons, lv_args, hp_cv_cat]
    rw [hp_args_map σ av]
theorem hp_args_ok (σ : List Nat) : ∀ (av : List Value) (i : Nat), (∀ v ∈ av, hp_ok σ v) → ∀ q ∈ lv_args i av, hp_ok σ q.2
  | [], i, _, q, hq => by cases hq
  | v :: av, i, h, q, hq => by
    rcases List.mem_cons.mp hq with e | e
    · rw [e]; exact h v List.mem_cons_self
    · exact hp_args_ok σ av _ (fun v hv => h v (List.mem_cons_of_mem _ hv)) q e
theorem hp_start {T : hp_T} {Y : hp_Y} {l : Launch} {av : List Value} {h : hp_H} {w0 : Bool} {dk dn : Nat} {Q : hp_R → hp_H → Prop} (hy : plainFor (y_nm Y) = true) (hown : t_own T = (y_nm Y).cls) (hlen : ∀ σ, (lg_sl (av.map (hp_cv σ))).length ≤ y_mx Y)
    (body : ∀ G : hp_G, hp_ctx T Y l w0 dk dn Q G → hp_W G 0 (lv_args 0 av) [] h true 0 0) : hp_M l Y av h w0 dk dn Q := by
  intro hnt D z σ
  refine MetFree.of_bodySF (code := y_cc Y) (maxLocals := y_mx Y) (ret := y_rt Y) hy ?_ ?_
  · intro args s m hb hn
    obtain ⟨meth, c, h1, h2, h3, h4, h5, h6, -⟩ := hp_cd_spec hn (atoms_spec (ws := [hp_cd Y]) hb _ List.mem_cons_self)
    exact ⟨meth, c, h1, h2, h3, h4, h5, h6⟩
  · intro p e s m args below meth c s₁ B hml hP _
    obtain ⟨rfl, hav, hrep, hKn, hz, hth⟩ := hP
    obtain ⟨meth2, c2, h1, h2, h3, h4, h5, h6, h7, h8⟩ := hp_cd_spec B.named (atoms_spec (ws := [hp_cd Y]) B.pre _ List.mem_cons_self)
    cases B.method.symm.trans h1
    cases (Stand.of_body B).code.symm.trans h2
    have hh0 : s₁.heap = s.heap := by rw [B.state]; rfl
    have hts : ∀ w ∈ hp_Ts, w.before (av.map (hp_cv σ)).toArray s = true := fun w hw => (hth s (State.WarmedH.refl s) (fun _ _ => rfl)).1 w hw _
    have hW := body (p, l, e, { frames := y_fr Y, cells := dk, slots := dn, locals := y_lo Y }, s, m, (av.map (hp_cv σ)).toArray, below, meth, c, D, z, σ, y_mx Y, w0, Q)
      ⟨⟨B.exec, B.bytes, hml⟩, ⟨hts, by rw [hown]; exact findClass_of_methodNamed B.named, hKn, hz⟩, rfl, rfl, rfl, rfl, rfl, B.returns, B.notSynchronized, (name_of_methodNamed B.named B.method).1, h7, hnt, hth⟩
    have hl := lv_entry (av.map (hp_cv σ)) (n := y_mx Y) (hlen σ)
    have hlv : hp_lv σ (y_mx Y) (lv_args 0 av) ((lg_sl (av.map (hp_cv σ)) ++ List.replicate (y_mx Y - (lg_sl (av.map (hp_cv σ))).length) Slot.unset).toArray) := by
      refine ⟨hl.1, hl.2.1, fun q hq => ⟨hp_args_ok σ av 0 hav q hq, ?_⟩⟩
      refine hl.2.2 (q.1, hp_cv σ q.2) ?_
      rw [hp_args_map]
      exact List.mem_map.mpr ⟨q, hq, rfl⟩
    have hW2 := hW σ s.heap [] _ hrep hp_le_rf hp_fr_rf (fun q hq => by cases hq) (fun _ => rfl) hlv (fun v hv => by cases hv) (Nat.zero_le _) (Nat.zero_le _)
    obtain ⟨t, t1, o, t2, t3, t4⟩ := hW2 s₁ hh0 (Stand.of_body B)
    refine ⟨t, o, ?_, t2, t3, t4⟩
    rw [lg_entry_eq]
    exact t1
end
section
theorem hp_co : hp_clsok := by
  intro ci r h
  match ci, h with
  | 0, h => cases h; exact ⟨la_es, ty_es, nm_es, tm_in (List.mem_of_getElem? (i := 18) (by decide +kernel)), tm_in (List.mem_of_getElem? (i := 1) (by decide +kernel)), df_es, rfl⟩
  | 1, h => cases h; exact ⟨la_po, ty_po, nm_po, tm_in (List.mem_of_getElem? (i := 26) (by decide +kernel)), tm_in (List.mem_of_getElem? (i := 2) (by decide +kernel)), df_po, rfl⟩
  | 2, h => cases h; exact ⟨la_pa, ty_pa, nm_pa, tm_in (List.mem_of_getElem? (i := 57) (by decide +kernel)), tm_in (List.mem_of_getElem? (i := 3) (by decide +kernel)), df_pa, rfl⟩
  | 3, h => cases h; exact ⟨la_mo, ty_mo, nm_mo, tm_in (List.mem_of_getElem? (i := 589) (by decide +kernel)), tm_in (List.mem_of_getElem? (i := 5) (by decide +kernel)), df_mo, rfl⟩
  | k + 4, h => simp [classes] at h
/-- the code table, by a program -/
def hp_okc (cc : ByteArray) (l : List (Nat × Instr)) : Bool := l.all fun q => match decode cc q.1 with
  | .ok (i, len) => decide (i = q.2) && (Nat.beq (hp_len q.2) 0 || Nat.beq len (hp_len q.2))
  | _ => false
theorem hp_okc_of {cc : ByteArray} {l : List (Nat × Instr)} (h : hp_okc cc l = true) : ∀ q ∈ l, ∃ len, decode cc q.1 = .ok (q.2, len) ∧ (hp_len q.2 = 0 ∨ len = hp_len q.2) := by
  intro q hq
  have h1 := List.all_eq_true.mp h q hq
  split at h1
  next i len e =>
    rw [Bool.and_eq_true, Bool.or_eq_true] at h1
    have e1 : i = q.2 := of_decide_eq_true h1.1
    subst e1
    exact ⟨len, e, h1.2.imp Nat.eq_of_beq_eq_true Nat.eq_of_beq_eq_true⟩
  next => cases h1
/-! THE METHODS, printed: name, bytes, locals, type, handlers; frames and words below; arguments -/
def Y_es_init : hp_Y := (⟨"EdgeSweeps", "<init>", "(I)V"⟩, prog_1_method_1_code, 2, none, [], 2, 40, 1)
def Y_po_init : hp_Y := (⟨"EdgeSweeps$Polygons", "<init>", "()V"⟩, prog_4_method_1_code, 1, none, [], 1, 20, 0)
def Y_pa_init : hp_Y := (⟨"EdgeSweeps$Parts", "<init>", "()V"⟩, prog_3_method_1_code, 1, none, [], 1, 20, 0)
def Y_jm_max : hp_Y := (⟨"java/lang/Math", "max", "(II)I"⟩, prog_13_method_65_code, 2, some (.int), [], 0, 0, 2)
def Y_jm_min : hp_Y := (⟨"java/lang/Math", "min", "(II)I"⟩, prog_13_method_69_code, 2, some (.int), [], 0, 0, 2)
def Y_es_clear : hp_Y := (⟨"EdgeSweeps", "clear", "()V"⟩, prog_1_method_16_code, 1, none, [], 1, 20, 0)
def Y_po_forget : hp_Y := (⟨"EdgeSweeps$Polygons", "forget", "()V"⟩, prog_4_method_6_code, 1, none, [], 0, 0, 0)
def Y_la_cell : hp_Y := (⟨"EdgeSweepsLaw", "cell", "([II)I"⟩, method_2_code, 2, some (.int), [], 0, 0, 2)
def Y_la_polygon : hp_Y := (⟨"EdgeSweepsLaw", "polygon", "(LEdgeSweeps;I[J)I"⟩, method_3_code, 4, some (.int), [(0, 9, 12, 13), (0, 9, 15, 15)], 7, 111, 3)
def Y_es_polygon : hp_Y := (⟨"EdgeSweeps", "polygon", "(I)I"⟩, prog_1_method_2_code, 2, some (.int), [], 6, 90, 1)
def Y_es_isBase : hp_Y := (⟨"EdgeSweeps", "isBase", "(I)Z"⟩, prog_1_method_17_code, 2, some (.boolean), [], 0, 0, 1)
def Y_po_isFull : hp_Y := (⟨"EdgeSweeps$Polygons", "isFull", "()Z"⟩, prog_4_method_2_code, 1, some (.boolean), [], 0, 0, 0)
def Y_po_start : hp_Y := (⟨"EdgeSweeps$Polygons", "start", "(I)I"⟩, prog_4_method_5_code, 3, some (.int), [], 0, 0, 1)
def Y_la_corner : hp_Y := (⟨"EdgeSweepsLaw", "corner", "(LEdgeSweeps;IJJ[J)I"⟩, method_4_code, 8, some (.int), [(0, 20, 23, 13), (0, 20, 27, 15), (0, 20, 31, 21)], 7, 115, 5)
def Y_es_corner : hp_Y := (⟨"EdgeSweeps", "corner", "(IJJ)Z"⟩, prog_1_method_3_code, 6, some (.boolean), [], 6, 90, 3)
def Y_po_has : hp_Y := (⟨"EdgeSweeps$Polygons", "has", "(I)Z"⟩, prog_4_method_3_code, 2, some (.boolean), [], 0, 0, 1)
def Y_po_hasAllCorners : hp_Y := (⟨"EdgeSweeps$Polygons", "hasAllCorners", "(I)Z"⟩, prog_4_method_4_code, 2, some (.boolean), [], 0, 0, 1)
def Y_po_extend : hp_Y := (⟨"EdgeSweeps$Polygons", "extend", "(III)Z"⟩, prog_4_method_7_code, 5, some (.boolean), [], 1, 24, 3)
def Y_po_differInOne : hp_Y := (⟨"EdgeSweeps$Polygons", "differInOne", "(IIII)Z"⟩, prog_4_method_8_code, 5, some (.boolean), [], 0, 0, 4)
def Y_la_op : hp_Y := (⟨"EdgeSweepsLaw", "op", "(LEdgeSweeps;III[J)I"⟩, method_5_code, 6, some (.int), [(0, 12, 15, 13), (0, 12, 19, 15), (0, 12, 23, 21)], 9, 178, 5)
def Y_es_op : hp_Y := (⟨"EdgeSweeps", "op", "(III)I"⟩, prog_1_method_4_code, 7, some (.int), [], 8, 152, 3)
def Y_es_needLayer : hp_Y := (⟨"EdgeSweeps", "needLayer", "(I)V"⟩, prog_1_method_18_code, 2, none, [], 7, 111, 1)
def Y_es_needIndex : hp_Y := (⟨"EdgeSweeps", "needIndex", "(II)V"⟩, prog_1_method_19_code, 2, none, [], 6, 90, 2)
def Y_es_needRoomForLayer : hp_Y := (⟨"EdgeSweeps", "needRoomForLayer", "()V"⟩, prog_1_method_20_code, 1, none, [], 6, 90, 0)
def Y_es_areaOf : hp_Y := (⟨"EdgeSweeps", "areaOf", "(I[J)[J"⟩, prog_1_method_22_code, 4, some ((.array .long)), [], 3, 73, 2)
def Y_po_paint : hp_Y := (⟨"EdgeSweeps$Polygons", "paint", "(I[J)V"⟩, prog_4_method_10_code, 4, none, [], 2, 50, 2)
def Y_ja_fill : hp_Y := (⟨"java/util/Arrays", "fill", "([JJ)V"⟩, prog_18_method_101_code, 5, none, [], 0, 0, 2)
def Y_po_isOpen : hp_Y := (⟨"EdgeSweeps$Polygons", "isOpen", "(I)Z"⟩, prog_4_method_9_code, 3, some (.boolean), [], 1, 24, 1)
def Y_po_paintOne : hp_Y := (⟨"EdgeSweeps$Polygons", "paintOne", "(I[J)V"⟩, prog_4_method_11_code, 7, none, [], 1, 24, 2)
def Y_ro_leftOf : hp_Y := (⟨"EdgeSweeps$Rows", "leftOf", "(I)J"⟩, prog_5_method_3_code, 1, some (.long), [], 0, 0, 1)
def Y_ro_complement : hp_Y := (⟨"EdgeSweeps$Rows", "complement", "([J[J)V"⟩, prog_5_method_12_code, 3, none, [], 0, 0, 2)
def Y_pa_findShapes : hp_Y := (⟨"EdgeSweeps$Parts", "findShapes", "([J)V"⟩, prog_3_method_2_code, 3, none, [], 4, 108, 1)
def Y_pa_cutRuns : hp_Y := (⟨"EdgeSweeps$Parts", "cutRuns", "([J)V"⟩, prog_3_method_11_code, 7, none, [], 2, 42, 1)
def Y_ro_countRuns : hp_Y := (⟨"EdgeSweeps$Rows", "countRuns", "(J)I"⟩, prog_5_method_5_code, 2, some (.int), [], 1, 21, 1)
def Y_ro_starts : hp_Y := (⟨"EdgeSweeps$Rows", "starts", "(J)J"⟩, prog_5_method_4_code, 2, some (.long), [], 0, 0, 1)
def Y_jl_bitCount : hp_Y := (⟨"java/lang/Long", "bitCount", "(J)I"⟩, prog_12_method_50_code, 2, some (.int), [], 0, 0, 1)
def Y_ro_firstRun : hp_Y := (⟨"EdgeSweeps$Rows", "firstRun", "(J)J"⟩, prog_5_method_6_code, 2, some (.long), [], 0, 0, 1)
def Y_pa_joinRuns : hp_Y := (⟨"EdgeSweeps$Parts", "joinRuns", "([J[II)V"⟩, prog_3_method_12_code, 8, none, [], 3, 81, 3)
def Y_ro_widened : hp_Y := (⟨"EdgeSweeps$Rows", "widened", "(JI)J"⟩, prog_5_method_15_code, 7, some (.long), [], 1, 21, 2)
def Y_pa_joinContact : hp_Y := (⟨"EdgeSweeps$Parts", "joinContact", "(JJII[I)V"⟩, prog_3_method_13_code, 15, none, [], 2, 47, 5)
def Y_pa_join : hp_Y := (⟨"EdgeSweeps$Parts", "join", "(II[I)V"⟩, prog_3_method_14_code, 5, none, [], 1, 23, 3)
def Y_pa_headOf : hp_Y := (⟨"EdgeSweeps$Parts", "headOf", "(I[I)I"⟩, prog_3_method_15_code, 4, some (.int), [], 0, 0, 2)
def Y_pa_markMeeting : hp_Y := (⟨"EdgeSweeps$Parts", "markMeeting", "([J)V"⟩, prog_3_method_7_code, 4, none, [], 0, 0, 1)
def Y_pa_gather : hp_Y := (⟨"EdgeSweeps$Parts", "gather", "(Z[J)V"⟩, prog_3_method_9_code, 5, none, [], 0, 0, 2)
def Y_es_markTouching : hp_Y := (⟨"EdgeSweeps", "markTouching", "([J[J)V"⟩, prog_1_method_23_code, 3, none, [], 5, 130, 2)
def Y_ro_resize : hp_Y := (⟨"EdgeSweeps$Rows", "resize", "([J[JIIZ)V"⟩, prog_5_method_13_code, 5, none, [], 3, 70, 5)
def Y_ro_copy : hp_Y := (⟨"EdgeSweeps$Rows", "copy", "([J[J)V"⟩, prog_5_method_11_code, 2, none, [], 1, 40, 2)
def Y_ro_resizeAlongX : hp_Y := (⟨"EdgeSweeps$Rows", "resizeAlongX", "([JIZ)V"⟩, prog_5_method_14_code, 4, none, [], 2, 47, 3)
def Y_ro_narrowed : hp_Y := (⟨"EdgeSweeps$Rows", "narrowed", "(JI)J"⟩, prog_5_method_16_code, 7, some (.long), [], 1, 21, 2)
def Y_ro_turn : hp_Y := (⟨"EdgeSweeps$Rows", "turn", "([J)V"⟩, prog_5_method_17_code, 7, none, [], 1, 20, 1)
def Y_es_combine : hp_Y := (⟨"EdgeSweeps", "combine", "(I[J[J[J)V"⟩, prog_1_method_24_code, 5, none, [], 1, 24, 4)
def Y_es_combineRow : hp_Y := (⟨"EdgeSweeps", "combineRow", "(IJJ)J"⟩, prog_1_method_25_code, 5, some (.long), [], 0, 0, 3)
def Y_es_addMade : hp_Y := (⟨"EdgeSweeps", "addMade", "()I"⟩, prog_1_method_21_code, 2, some (.int), [], 0, 0, 0)
def Y_la_size : hp_Y := (⟨"EdgeSweepsLaw", "size", "(LEdgeSweeps;IJZ[J)I"⟩, method_6_code, 7, some (.int), [(0, 13, 16, 13), (0, 13, 20, 15), (0, 13, 24, 21)], 9, 161, 5)
def Y_es_size : hp_Y := (⟨"EdgeSweeps", "size", "(IJZ)I"⟩, prog_1_method_5_code, 10, some (.int), [], 8, 132, 3)
def Y_la_shapes : hp_Y := (⟨"EdgeSweepsLaw", "shapes", "(LEdgeSweeps;I[J)I"⟩, method_7_code, 4, some (.int), [(0, 9, 12, 13)], 9, 153, 3)
def Y_es_shapes : hp_Y := (⟨"EdgeSweeps", "shapes", "(I)I"⟩, prog_1_method_6_code, 2, some (.int), [], 8, 132, 1)
def Y_pa_countShapes : hp_Y := (⟨"EdgeSweeps$Parts", "countShapes", "()I"⟩, prog_3_method_4_code, 1, some (.int), [], 0, 0, 0)
def Y_la_at : hp_Y := (⟨"EdgeSweepsLaw", "at", "(LEdgeSweeps;IIII[J)I"⟩, method_8_code, 7, some (.int), [(0, 13, 16, 13)], 9, 156, 6)
def Y_es_at : hp_Y := (⟨"EdgeSweeps", "at", "(IIII)J"⟩, prog_1_method_7_code, 5, some (.long), [], 8, 132, 4)
def Y_pa_copyShape : hp_Y := (⟨"EdgeSweeps$Parts", "copyShape", "(I[J)V"⟩, prog_3_method_10_code, 5, none, [], 0, 0, 2)
def Y_li_cornerFact : hp_Y := (⟨"EdgeSweeps$Lines", "cornerFact", "([JII)I"⟩, prog_2_method_13_code, 13, some (.int), [], 6, 90, 3)
def Y_ro_row : hp_Y := (⟨"EdgeSweeps$Rows", "row", "([JI)J"⟩, prog_5_method_2_code, 2, some (.long), [], 0, 0, 2)
def Y_li_cornersBetween : hp_Y := (⟨"EdgeSweeps$Lines", "cornersBetween", "(JJ)J"⟩, prog_2_method_14_code, 8, some (.long), [], 0, 0, 2)
def Y_ro_placeOf : hp_Y := (⟨"EdgeSweeps$Rows", "placeOf", "(JI)I"⟩, prog_5_method_8_code, 6, some (.int), [], 2, 42, 2)
def Y_ro_firstPlace : hp_Y := (⟨"EdgeSweeps$Rows", "firstPlace", "(J)I"⟩, prog_5_method_7_code, 2, some (.int), [], 1, 21, 1)
def Y_la_in : hp_Y := (⟨"EdgeSweepsLaw", "in", "(LEdgeSweeps;IJJ[J)I"⟩, method_9_code, 8, some (.int), [(0, 20, 23, 13)], 9, 159, 5)
def Y_es_in : hp_Y := (⟨"EdgeSweeps", "in", "(IJJ)Z"⟩, prog_1_method_8_code, 8, some (.boolean), [], 8, 132, 3)
def Y_la_area2 : hp_Y := (⟨"EdgeSweepsLaw", "area2", "(LEdgeSweeps;II[J)I"⟩, method_10_code, 5, some (.int), [(0, 9, 12, 13)], 9, 155, 4)
def Y_es_area2 : hp_Y := (⟨"EdgeSweeps", "area2", "(II)J"⟩, prog_1_method_9_code, 4, some (.long), [], 8, 132, 2)
def Y_ro_countSquares : hp_Y := (⟨"EdgeSweeps$Rows", "countSquares", "([J)I"⟩, prog_5_method_10_code, 3, some (.int), [], 1, 21, 1)
def Y_li_totalLength : hp_Y := (⟨"EdgeSweeps$Lines", "totalLength", "([J)I"⟩, prog_2_method_6_code, 5, some (.int), [], 2, 42, 1)
def Y_la_touching : hp_Y := (⟨"EdgeSweepsLaw", "touching", "(LEdgeSweeps;III[J)I"⟩, method_11_code, 6, some (.int), [(0, 12, 15, 13)], 9, 175, 5)
def Y_es_touching : hp_Y := (⟨"EdgeSweeps", "touching", "(III)I"⟩, prog_1_method_10_code, 4, some (.int), [], 8, 152, 3)
def Y_pa_markedShape : hp_Y := (⟨"EdgeSweeps$Parts", "markedShape", "(I)I"⟩, prog_3_method_8_code, 4, some (.int), [], 0, 0, 1)
def Y_la_nets : hp_Y := (⟨"EdgeSweepsLaw", "nets", "(LEdgeSweeps;I[J)I"⟩, method_12_code, 4, some (.int), [(0, 9, 12, 13)], 9, 154, 3)
def Y_es_nets : hp_Y := (⟨"EdgeSweeps", "nets", "(I)I"⟩, prog_1_method_11_code, 3, some (.int), [], 8, 132, 1)
def Y_pa_findNets : hp_Y := (⟨"EdgeSweeps$Parts", "findNets", "([J)V"⟩, prog_3_method_3_code, 2, none, [], 4, 108, 1)
def Y_pa_countNets : hp_Y := (⟨"EdgeSweeps$Parts", "countNets", "()I"⟩, prog_3_method_5_code, 3, some (.int), [], 0, 0, 0)
def Y_la_netOf : hp_Y := (⟨"EdgeSweepsLaw", "netOf", "(LEdgeSweeps;II[J)I"⟩, method_13_code, 5, some (.int), [(0, 10, 13, 13)], 9, 155, 4)
def Y_es_netOf : hp_Y := (⟨"EdgeSweeps", "netOf", "(II)I"⟩, prog_1_method_12_code, 4, some (.int), [], 8, 132, 2)
def Y_pa_leastOfNet : hp_Y := (⟨"EdgeSweeps$Parts", "leastOfNet", "(I)I"⟩, prog_3_method_6_code, 3, some (.int), [], 0, 0, 1)
def Y_la_strips : hp_Y := (⟨"EdgeSweepsLaw", "strips", "(LEdgeSweeps;I[J)I"⟩, method_14_code, 4, some (.int), [(0, 9, 12, 13)], 7, 112, 3)
def Y_es_strips : hp_Y := (⟨"EdgeSweeps", "strips", "(I)I"⟩, prog_1_method_13_code, 3, some (.int), [], 6, 90, 1)
def Y_la_edge : hp_Y := (⟨"EdgeSweepsLaw", "edge", "(LEdgeSweeps;III[J)I"⟩, method_15_code, 6, some (.int), [(0, 12, 15, 13)], 9, 157, 5)
def Y_es_edge : hp_Y := (⟨"EdgeSweeps", "edge", "(III)I"⟩, prog_1_method_14_code, 6, some (.int), [], 8, 132, 3)
def Y_li_countLying : hp_Y := (⟨"EdgeSweeps$Lines", "countLying", "([J)I"⟩, prog_2_method_5_code, 3, some (.int), [], 3, 63, 1)
def Y_li_lyingStarts : hp_Y := (⟨"EdgeSweeps$Lines", "lyingStarts", "([JI)J"⟩, prog_2_method_4_code, 2, some (.long), [], 2, 42, 2)
def Y_li_areaAbove : hp_Y := (⟨"EdgeSweeps$Lines", "areaAbove", "([JI)J"⟩, prog_2_method_2_code, 2, some (.long), [], 1, 21, 2)
def Y_li_areaBelow : hp_Y := (⟨"EdgeSweeps$Lines", "areaBelow", "([JI)J"⟩, prog_2_method_3_code, 2, some (.long), [], 1, 21, 2)
def Y_li_lyingFact : hp_Y := (⟨"EdgeSweeps$Lines", "lyingFact", "([JII)I"⟩, prog_2_method_7_code, 8, some (.int), [], 6, 90, 3)
def Y_li_lyingFactAt : hp_Y := (⟨"EdgeSweeps$Lines", "lyingFactAt", "([JIII)I"⟩, prog_2_method_8_code, 7, some (.int), [], 3, 64, 4)
def Y_ro_runEnd : hp_Y := (⟨"EdgeSweeps$Rows", "runEnd", "(JI)I"⟩, prog_5_method_9_code, 3, some (.int), [], 2, 42, 2)
def Y_li_turnedFact : hp_Y := (⟨"EdgeSweeps$Lines", "turnedFact", "(I)I"⟩, prog_2_method_9_code, 1, some (.int), [], 0, 0, 1)
def Y_la_trapezoid : hp_Y := (⟨"EdgeSweepsLaw", "trapezoid", "(LEdgeSweeps;III[J)I"⟩, method_16_code, 6, some (.int), [(0, 12, 15, 13)], 9, 155, 5)
def Y_es_trapezoid : hp_Y := (⟨"EdgeSweeps", "trapezoid", "(III)I"⟩, prog_1_method_15_code, 4, some (.int), [], 8, 132, 3)
def Y_li_boxFact : hp_Y := (⟨"EdgeSweeps$Lines", "boxFact", "([JII)I"⟩, prog_2_method_10_code, 8, some (.int), [], 6, 90, 3)
def Y_li_boxFactAt : hp_Y := (⟨"EdgeSweeps$Lines", "boxFactAt", "([JIII)I"⟩, prog_2_method_11_code, 4, some (.int), [], 3, 64, 4)
def Y_li_sameRowsEnd : hp_Y := (⟨"EdgeSweeps$Lines", "sameRowsEnd", "([JI)I"⟩, prog_2_method_12_code, 3, some (.int), [], 0, 0, 2)
def Y_mo_init : hp_Y := (⟨"EdgeSweepsModel", "<init>", "(I)V"⟩, prog_7_method_1_code, 2, none, [], 1, 20, 1)
def Y_mo_thrown : hp_Y := (⟨"EdgeSweepsModel", "thrown", "()I"⟩, prog_7_method_2_code, 1, some (.int), [], 0, 0, 0)
def Y_mo_polygon : hp_Y := (⟨"EdgeSweepsModel", "polygon", "(I)I"⟩, prog_7_method_4_code, 2, some (.int), [], 0, 0, 1)
def Y_mo_corner : hp_Y := (⟨"EdgeSweepsModel", "corner", "(IJJ)Z"⟩, prog_7_method_5_code, 7, some (.boolean), [], 0, 0, 3)
def Y_mo_clear : hp_Y := (⟨"EdgeSweepsModel", "clear", "()V"⟩, prog_7_method_6_code, 1, none, [], 0, 0, 0)
def Y_mo_strips : hp_Y := (⟨"EdgeSweepsModel", "strips", "(I)I"⟩, prog_7_method_7_code, 3, some (.int), [], 0, 0, 1)
def Y_mo_op : hp_Y := (⟨"EdgeSweepsModel", "op", "(III)I"⟩, prog_7_method_18_code, 9, some (.int), [], 4, 92, 3)
def Y_mo_isLayer : hp_Y := (⟨"EdgeSweepsModel", "isLayer", "(I)Z"⟩, prog_7_method_3_code, 2, some (.boolean), [], 0, 0, 1)
def Y_mo_load : hp_Y := (⟨"EdgeSweepsModel", "load", "(IZ)V"⟩, prog_7_method_11_code, 8, none, [], 1, 30, 2)
def Y_mo_isClosed : hp_Y := (⟨"EdgeSweepsModel", "isClosed", "(I)Z"⟩, prog_7_method_8_code, 4, some (.boolean), [], 0, 0, 1)
def Y_mo_isIn : hp_Y := (⟨"EdgeSweepsModel", "isIn", "(III)Z"⟩, prog_7_method_9_code, 11, some (.boolean), [], 0, 0, 3)
def Y_mo_relate : hp_Y := (⟨"EdgeSweepsModel", "relate", "()V"⟩, prog_7_method_16_code, 3, none, [], 3, 70, 0)
def Y_mo_label : hp_Y := (⟨"EdgeSweepsModel", "label", "()V"⟩, prog_7_method_14_code, 7, none, [], 2, 44, 0)
def Y_mo_isOne : hp_Y := (⟨"EdgeSweepsModel", "isOne", "(II)Z"⟩, prog_7_method_12_code, 3, some (.boolean), [], 1, 22, 2)
def Y_mo_bit : hp_Y := (⟨"EdgeSweepsModel", "bit", "(JI)Z"⟩, prog_7_method_10_code, 3, some (.boolean), [], 0, 0, 2)
def Y_mo_isTwo : hp_Y := (⟨"EdgeSweepsModel", "isTwo", "(II)Z"⟩, prog_7_method_13_code, 3, some (.boolean), [], 1, 22, 2)
def Y_mo_isTouched : hp_Y := (⟨"EdgeSweepsModel", "isTouched", "(II)Z"⟩, prog_7_method_15_code, 6, some (.boolean), [], 2, 44, 2)
def Y_mo_keep : hp_Y := (⟨"EdgeSweepsModel", "keep", "()I"⟩, prog_7_method_17_code, 2, some (.int), [], 0, 0, 0)
def Y_mo_size : hp_Y := (⟨"EdgeSweepsModel", "size", "(IJZ)I"⟩, prog_7_method_20_code, 12, some (.int), [], 3, 74, 3)
def Y_mo_isRound : hp_Y := (⟨"EdgeSweepsModel", "isRound", "(IIIIZ)Z"⟩, prog_7_method_19_code, 11, some (.boolean), [], 2, 44, 5)
def Y_mo_shapes : hp_Y := (⟨"EdgeSweepsModel", "shapes", "(I)I"⟩, prog_7_method_22_code, 2, some (.int), [], 4, 91, 1)
def Y_mo_isReady : hp_Y := (⟨"EdgeSweepsModel", "isReady", "(I)Z"⟩, prog_7_method_21_code, 2, some (.boolean), [], 3, 70, 1)
def Y_mo_at : hp_Y := (⟨"EdgeSweepsModel", "at", "(IIII)J"⟩, prog_7_method_25_code, 8, some (.long), [], 4, 91, 4)
def Y_mo_isCorner : hp_Y := (⟨"EdgeSweepsModel", "isCorner", "(III)Z"⟩, prog_7_method_24_code, 9, some (.boolean), [], 1, 23, 3)
def Y_mo_isOf : hp_Y := (⟨"EdgeSweepsModel", "isOf", "(III)Z"⟩, prog_7_method_23_code, 4, some (.boolean), [], 0, 0, 3)
def Y_mo_in : hp_Y := (⟨"EdgeSweepsModel", "in", "(IJJ)Z"⟩, prog_7_method_26_code, 6, some (.boolean), [], 2, 57, 3)
def Y_mo_touching : hp_Y := (⟨"EdgeSweepsModel", "touching", "(III)I"⟩, prog_7_method_27_code, 6, some (.int), [], 4, 92, 3)
def Y_mo_nets : hp_Y := (⟨"EdgeSweepsModel", "nets", "(I)I"⟩, prog_7_method_29_code, 4, some (.int), [], 4, 91, 1)
def Y_mo_join : hp_Y := (⟨"EdgeSweepsModel", "join", "()V"⟩, prog_7_method_28_code, 9, none, [], 2, 44, 0)
def Y_mo_netOf : hp_Y := (⟨"EdgeSweepsModel", "netOf", "(II)I"⟩, prog_7_method_30_code, 3, some (.int), [], 4, 91, 2)
def Y_mo_edge : hp_Y := (⟨"EdgeSweepsModel", "edge", "(III)I"⟩, prog_7_method_34_code, 6, some (.int), [], 4, 95, 3)
def Y_mo_findEdge : hp_Y := (⟨"EdgeSweepsModel", "findEdge", "(IZ)I"⟩, prog_7_method_33_code, 8, some (.int), [], 3, 68, 2)
def Y_mo_lying : hp_Y := (⟨"EdgeSweepsModel", "lying", "(II)I"⟩, prog_7_method_31_code, 5, some (.int), [], 2, 44, 2)
def Y_mo_standing : hp_Y := (⟨"EdgeSweepsModel", "standing", "(II)I"⟩, prog_7_method_32_code, 5, some (.int), [], 2, 44, 2)
def Y_mo_area2 : hp_Y := (⟨"EdgeSweepsModel", "area2", "(II)J"⟩, prog_7_method_35_code, 9, some (.long), [], 3, 68, 2)
def Y_mo_trapezoid : hp_Y := (⟨"EdgeSweepsModel", "trapezoid", "(III)I"⟩, prog_7_method_37_code, 9, some (.int), [], 4, 91, 3)
def Y_mo_isLine : hp_Y := (⟨"EdgeSweepsModel", "isLine", "(I)Z"⟩, prog_7_method_36_code, 4, some (.boolean), [], 3, 68, 1)
theorem cd_es_init : hp_cd Y_es_init ∈ hp_Ts := tm_in (List.mem_of_getElem? (i := 21) (by decide +kernel))
theorem cd_po_init : hp_cd Y_po_init ∈ hp_Ts := tm_in (List.mem_of_getElem? (i := 29) (by decide +kernel))
theorem cd_pa_init : hp_cd Y_pa_init ∈ hp_Ts := tm_in (List.mem_of_getElem? (i := 60) (by decide +kernel))
theorem cd_jm_max : hp_cd Y_jm_max ∈ hp_Ts := tm_in (List.mem_of_getElem? (i := 90) (by decide +kernel))
theorem cd_jm_min : hp_cd Y_jm_min ∈ hp_Ts := tm_in (List.mem_of_getElem? (i := 94) (by decide +kernel))
theorem cd_es_clear : hp_cd Y_es_clear ∈ hp_Ts := tm_in (List.mem_of_getElem? (i := 126) (by decide +kernel))
theorem cd_po_forget : hp_cd Y_po_forget ∈ hp_Ts := tm_in (List.mem_of_getElem? (i := 130) (by decide +kernel))
theorem cd_la_cell : hp_cd Y_la_cell ∈ hp_Ts := tm_in (List.mem_of_getElem? (i := 133) (by decide +kernel))
theorem cd_la_polygon : hp_cd Y_la_polygon ∈ hp_Ts := tm_in (List.mem_of_getElem? (i := 136) (by decide +kernel))
theorem cd_es_polygon : hp_cd Y_es_polygon ∈ hp_Ts := tm_in (List.mem_of_getElem? (i := 142) (by decide +kernel))
theorem cd_es_isBase : hp_cd Y_es_isBase ∈ hp_Ts := tm_in (List.mem_of_getElem? (i := 146) (by decide +kernel))
theorem cd_po_isFull : hp_cd Y_po_isFull ∈ hp_Ts := tm_in (List.mem_of_getElem? (i := 218) (by decide +kernel))
theorem cd_po_start : hp_cd Y_po_start ∈ hp_Ts := tm_in (List.mem_of_getElem? (i := 238) (by decide +kernel))
theorem cd_la_corner : hp_cd Y_la_corner ∈ hp_Ts := tm_in (List.mem_of_getElem? (i := 241) (by decide +kernel))
theorem cd_es_corner : hp_cd Y_es_corner ∈ hp_Ts := tm_in (List.mem_of_getElem? (i := 246) (by decide +kernel))
theorem cd_po_has : hp_cd Y_po_has ∈ hp_Ts := tm_in (List.mem_of_getElem? (i := 250) (by decide +kernel))
theorem cd_po_hasAllCorners : hp_cd Y_po_hasAllCorners ∈ hp_Ts := tm_in (List.mem_of_getElem? (i := 255) (by decide +kernel))
theorem cd_po_extend : hp_cd Y_po_extend ∈ hp_Ts := tm_in (List.mem_of_getElem? (i := 277) (by decide +kernel))
theorem cd_po_differInOne : hp_cd Y_po_differInOne ∈ hp_Ts := tm_in (List.mem_of_getElem? (i := 281) (by decide +kernel))
theorem cd_la_op : hp_cd Y_la_op ∈ hp_Ts := tm_in (List.mem_of_getElem? (i := 284) (by decide +kernel))
theorem cd_es_op : hp_cd Y_es_op ∈ hp_Ts := tm_in (List.mem_of_getElem? (i := 288) (by decide +kernel))
theorem cd_es_needLayer : hp_cd Y_es_needLayer ∈ hp_Ts := tm_in (List.mem_of_getElem? (i := 292) (by decide +kernel))
theorem cd_es_needIndex : hp_cd Y_es_needIndex ∈ hp_Ts := tm_in (List.mem_of_getElem? (i := 295) (by decide +kernel))
theorem cd_es_needRoomForLayer : hp_cd Y_es_needRoomForLayer ∈ hp_Ts := tm_in (List.mem_of_getElem? (i := 300) (by decide +kernel))
theorem cd_es_areaOf : hp_cd Y_es_areaOf ∈ hp_Ts := tm_in (List.mem_of_getElem? (i := 306) (by decide +kernel))
theorem cd_po_paint : hp_cd Y_po_paint ∈ hp_Ts := tm_in (List.mem_of_getElem? (i := 310) (by decide +kernel))
theorem cd_ja_fill : hp_cd Y_ja_fill ∈ hp_Ts := tm_in (List.mem_of_getElem? (i := 313) (by decide +kernel))
theorem cd_po_isOpen : hp_cd Y_po_isOpen ∈ hp_Ts := tm_in (List.mem_of_getElem? (i := 317) (by decide +kernel))
theorem cd_po_paintOne : hp_cd Y_po_paintOne ∈ hp_Ts := tm_in (List.mem_of_getElem? (i := 321) (by decide +kernel))
theorem cd_ro_leftOf : hp_cd Y_ro_leftOf ∈ hp_Ts := tm_in (List.mem_of_getElem? (i := 324) (by decide +kernel))
theorem cd_ro_complement : hp_cd Y_ro_complement ∈ hp_Ts := tm_in (List.mem_of_getElem? (i := 328) (by decide +kernel))
theorem cd_pa_findShapes : hp_cd Y_pa_findShapes ∈ hp_Ts := tm_in (List.mem_of_getElem? (i := 332) (by decide +kernel))
theorem cd_pa_cutRuns : hp_cd Y_pa_cutRuns ∈ hp_Ts := tm_in (List.mem_of_getElem? (i := 336) (by decide +kernel))
theorem cd_ro_countRuns : hp_cd Y_ro_countRuns ∈ hp_Ts := tm_in (List.mem_of_getElem? (i := 339) (by decide +kernel))
theorem cd_ro_starts : hp_cd Y_ro_starts ∈ hp_Ts := tm_in (List.mem_of_getElem? (i := 342) (by decide +kernel))
theorem cd_jl_bitCount : hp_cd Y_jl_bitCount ∈ hp_Ts := tm_in (List.mem_of_getElem? (i := 345) (by decide +kernel))
theorem cd_ro_firstRun : hp_cd Y_ro_firstRun ∈ hp_Ts := tm_in (List.mem_of_getElem? (i := 352) (by decide +kernel))
theorem cd_pa_joinRuns : hp_cd Y_pa_joinRuns ∈ hp_Ts := tm_in (List.mem_of_getElem? (i := 356) (by decide +kernel))
theorem cd_ro_widened : hp_cd Y_ro_widened ∈ hp_Ts := tm_in (List.mem_of_getElem? (i := 359) (by decide +kernel))
theorem cd_pa_joinContact : hp_cd Y_pa_joinContact ∈ hp_Ts := tm_in (List.mem_of_getElem? (i := 363) (by decide +kernel))
theorem cd_pa_join : hp_cd Y_pa_join ∈ hp_Ts := tm_in (List.mem_of_getElem? (i := 368) (by decide +kernel))
theorem cd_pa_headOf : hp_cd Y_pa_headOf ∈ hp_Ts := tm_in (List.mem_of_getElem? (i := 371) (by decide +kernel))
theorem cd_pa_markMeeting : hp_cd Y_pa_markMeeting ∈ hp_Ts := tm_in (List.mem_of_getElem? (i := 376) (by decide +kernel))
theorem cd_pa_gather : hp_cd Y_pa_gather ∈ hp_Ts := tm_in (List.mem_of_getElem? (i := 380) (by decide +kernel))
theorem cd_es_markTouching : hp_cd Y_es_markTouching ∈ hp_Ts := tm_in (List.mem_of_getElem? (i := 384) (by decide +kernel))
theorem cd_ro_resize : hp_cd Y_ro_resize ∈ hp_Ts := tm_in (List.mem_of_getElem? (i := 387) (by decide +kernel))
theorem cd_ro_copy : hp_cd Y_ro_copy ∈ hp_Ts := tm_in (List.mem_of_getElem? (i := 390) (by decide +kernel))
theorem cd_ro_resizeAlongX : hp_cd Y_ro_resizeAlongX ∈ hp_Ts := tm_in (List.mem_of_getElem? (i := 396) (by decide +kernel))
theorem cd_ro_narrowed : hp_cd Y_ro_narrowed ∈ hp_Ts := tm_in (List.mem_of_getElem? (i := 400) (by decide +kernel))
theorem cd_ro_turn : hp_cd Y_ro_turn ∈ hp_Ts := tm_in (List.mem_of_getElem? (i := 403) (by decide +kernel))
theorem cd_es_combine : hp_cd Y_es_combine ∈ hp_Ts := tm_in (List.mem_of_getElem? (i := 407) (by decide +kernel))
theorem cd_es_combineRow : hp_cd Y_es_combineRow ∈ hp_Ts := tm_in (List.mem_of_getElem? (i := 410) (by decide +kernel))
theorem cd_es_addMade : hp_cd Y_es_addMade ∈ hp_Ts := tm_in (List.mem_of_getElem? (i := 415) (by decide +kernel))
theorem cd_la_size : hp_cd Y_la_size ∈ hp_Ts := tm_in (List.mem_of_getElem? (i := 418) (by decide +kernel))
theorem cd_es_size : hp_cd Y_es_size ∈ hp_Ts := tm_in (List.mem_of_getElem? (i := 422) (by decide +kernel))
theorem cd_la_shapes : hp_cd Y_la_shapes ∈ hp_Ts := tm_in (List.mem_of_getElem? (i := 427) (by decide +kernel))
theorem cd_es_shapes : hp_cd Y_es_shapes ∈ hp_Ts := tm_in (List.mem_of_getElem? (i := 431) (by decide +kernel))
theorem cd_pa_countShapes : hp_cd Y_pa_countShapes ∈ hp_Ts := tm_in (List.mem_of_getElem? (i := 435) (by decide +kernel))
theorem cd_la_at : hp_cd Y_la_at ∈ hp_Ts := tm_in (List.mem_of_getElem? (i := 438) (by decide +kernel))
theorem cd_es_at : hp_cd Y_es_at ∈ hp_Ts := tm_in (List.mem_of_getElem? (i := 442) (by decide +kernel))
theorem cd_pa_copyShape : hp_cd Y_pa_copyShape ∈ hp_Ts := tm_in (List.mem_of_getElem? (i := 446) (by decide +kernel))
theorem cd_li_cornerFact : hp_cd Y_li_cornerFact ∈ hp_Ts := tm_in (List.mem_of_getElem? (i := 449) (by decide +kernel))
theorem cd_ro_row : hp_cd Y_ro_row ∈ hp_Ts := tm_in (List.mem_of_getElem? (i := 452) (by decide +kernel))
theorem cd_li_cornersBetween : hp_cd Y_li_cornersBetween ∈ hp_Ts := tm_in (List.mem_of_getElem? (i := 455) (by decide +kernel))
theorem cd_ro_placeOf : hp_cd Y_ro_placeOf ∈ hp_Ts := tm_in (List.mem_of_getElem? (i := 459) (by decide +kernel))
theorem cd_ro_firstPlace : hp_cd Y_ro_firstPlace ∈ hp_Ts := tm_in (List.mem_of_getElem? (i := 462) (by decide +kernel))
theorem cd_la_in : hp_cd Y_la_in ∈ hp_Ts := tm_in (List.mem_of_getElem? (i := 468) (by decide +kernel))
theorem cd_es_in : hp_cd Y_es_in ∈ hp_Ts := tm_in (List.mem_of_getElem? (i := 472) (by decide +kernel))
theorem cd_la_area2 : hp_cd Y_la_area2 ∈ hp_Ts := tm_in (List.mem_of_getElem? (i := 476) (by decide +kernel))
theorem cd_es_area2 : hp_cd Y_es_area2 ∈ hp_Ts := tm_in (List.mem_of_getElem? (i := 480) (by decide +kernel))
theorem cd_ro_countSquares : hp_cd Y_ro_countSquares ∈ hp_Ts := tm_in (List.mem_of_getElem? (i := 484) (by decide +kernel))
theorem cd_li_totalLength : hp_cd Y_li_totalLength ∈ hp_Ts := tm_in (List.mem_of_getElem? (i := 487) (by decide +kernel))
theorem cd_la_touching : hp_cd Y_la_touching ∈ hp_Ts := tm_in (List.mem_of_getElem? (i := 491) (by decide +kernel))
theorem cd_es_touching : hp_cd Y_es_touching ∈ hp_Ts := tm_in (List.mem_of_getElem? (i := 495) (by decide +kernel))
theorem cd_pa_markedShape : hp_cd Y_pa_markedShape ∈ hp_Ts := tm_in (List.mem_of_getElem? (i := 500) (by decide +kernel))
theorem cd_la_nets : hp_cd Y_la_nets ∈ hp_Ts := tm_in (List.mem_of_getElem? (i := 503) (by decide +kernel))
theorem cd_es_nets : hp_cd Y_es_nets ∈ hp_Ts := tm_in (List.mem_of_getElem? (i := 507) (by decide +kernel))
theorem cd_pa_findNets : hp_cd Y_pa_findNets ∈ hp_Ts := tm_in (List.mem_of_getElem? (i := 511) (by decide +kernel))
theorem cd_pa_countNets : hp_cd Y_pa_countNets ∈ hp_Ts := tm_in (List.mem_of_getElem? (i := 515) (by decide +kernel))
theorem cd_la_netOf : hp_cd Y_la_netOf ∈ hp_Ts := tm_in (List.mem_of_getElem? (i := 518) (by decide +kernel))
theorem cd_es_netOf : hp_cd Y_es_netOf ∈ hp_Ts := tm_in (List.mem_of_getElem? (i := 522) (by decide +kernel))
theorem cd_pa_leastOfNet : hp_cd Y_pa_leastOfNet ∈ hp_Ts := tm_in (List.mem_of_getElem? (i := 526) (by decide +kernel))
theorem cd_la_strips : hp_cd Y_la_strips ∈ hp_Ts := tm_in (List.mem_of_getElem? (i := 529) (by decide +kernel))
theorem cd_es_strips : hp_cd Y_es_strips ∈ hp_Ts := tm_in (List.mem_of_getElem? (i := 533) (by decide +kernel))
theorem cd_la_edge : hp_cd Y_la_edge ∈ hp_Ts := tm_in (List.mem_of_getElem? (i := 537) (by decide +kernel))
theorem cd_es_edge : hp_cd Y_es_edge ∈ hp_Ts := tm_in (List.mem_of_getElem? (i := 541) (by decide +kernel))
theorem cd_li_countLying : hp_cd Y_li_countLying ∈ hp_Ts := tm_in (List.mem_of_getElem? (i := 544) (by decide +kernel))
theorem cd_li_lyingStarts : hp_cd Y_li_lyingStarts ∈ hp_Ts := tm_in (List.mem_of_getElem? (i := 547) (by decide +kernel))
theorem cd_li_areaAbove : hp_cd Y_li_areaAbove ∈ hp_Ts := tm_in (List.mem_of_getElem? (i := 550) (by decide +kernel))
theorem cd_li_areaBelow : hp_cd Y_li_areaBelow ∈ hp_Ts := tm_in (List.mem_of_getElem? (i := 555) (by decide +kernel))
theorem cd_li_lyingFact : hp_cd Y_li_lyingFact ∈ hp_Ts := tm_in (List.mem_of_getElem? (i := 558) (by decide +kernel))
theorem cd_li_lyingFactAt : hp_cd Y_li_lyingFactAt ∈ hp_Ts := tm_in (List.mem_of_getElem? (i := 561) (by decide +kernel))
theorem cd_ro_runEnd : hp_cd Y_ro_runEnd ∈ hp_Ts := tm_in (List.mem_of_getElem? (i := 564) (by decide +kernel))
theorem cd_li_turnedFact : hp_cd Y_li_turnedFact ∈ hp_Ts := tm_in (List.mem_of_getElem? (i := 570) (by decide +kernel))
theorem cd_la_trapezoid : hp_cd Y_la_trapezoid ∈ hp_Ts := tm_in (List.mem_of_getElem? (i := 573) (by decide +kernel))
theorem cd_es_trapezoid : hp_cd Y_es_trapezoid ∈ hp_Ts := tm_in (List.mem_of_getElem? (i := 577) (by decide +kernel))
theorem cd_li_boxFact : hp_cd Y_li_boxFact ∈ hp_Ts := tm_in (List.mem_of_getElem? (i := 580) (by decide +kernel))
theorem cd_li_boxFactAt : hp_cd Y_li_boxFactAt ∈ hp_Ts := tm_in (List.mem_of_getElem? (i := 583) (by decide +kernel))
theorem cd_li_sameRowsEnd : hp_cd Y_li_sameRowsEnd ∈ hp_Ts := tm_in (List.mem_of_getElem? (i := 586) (by decide +kernel))
theorem cd_mo_init : hp_cd Y_mo_init ∈ hp_Ts := tm_in (List.mem_of_getElem? (i := 592) (by decide +kernel))
theorem cd_mo_thrown : hp_cd Y_mo_thrown ∈ hp_Ts := tm_in (List.mem_of_getElem? (i := 668) (by decide +kernel))
theorem cd_mo_polygon : hp_cd Y_mo_polygon ∈ hp_Ts := tm_in (List.mem_of_getElem? (i := 672) (by decide +kernel))
theorem cd_mo_corner : hp_cd Y_mo_corner ∈ hp_Ts := tm_in (List.mem_of_getElem? (i := 676) (by decide +kernel))
theorem cd_mo_clear : hp_cd Y_mo_clear ∈ hp_Ts := tm_in (List.mem_of_getElem? (i := 681) (by decide +kernel))
theorem cd_mo_strips : hp_cd Y_mo_strips ∈ hp_Ts := tm_in (List.mem_of_getElem? (i := 685) (by decide +kernel))
theorem cd_mo_op : hp_cd Y_mo_op ∈ hp_Ts := tm_in (List.mem_of_getElem? (i := 689) (by decide +kernel))
theorem cd_mo_isLayer : hp_cd Y_mo_isLayer ∈ hp_Ts := tm_in (List.mem_of_getElem? (i := 693) (by decide +kernel))
theorem cd_mo_load : hp_cd Y_mo_load ∈ hp_Ts := tm_in (List.mem_of_getElem? (i := 697) (by decide +kernel))
theorem cd_mo_isClosed : hp_cd Y_mo_isClosed ∈ hp_Ts := tm_in (List.mem_of_getElem? (i := 701) (by decide +kernel))
theorem cd_mo_isIn : hp_cd Y_mo_isIn ∈ hp_Ts := tm_in (List.mem_of_getElem? (i := 705) (by decide +kernel))
theorem cd_mo_relate : hp_cd Y_mo_relate ∈ hp_Ts := tm_in (List.mem_of_getElem? (i := 709) (by decide +kernel))
theorem cd_mo_label : hp_cd Y_mo_label ∈ hp_Ts := tm_in (List.mem_of_getElem? (i := 713) (by decide +kernel))
theorem cd_mo_isOne : hp_cd Y_mo_isOne ∈ hp_Ts := tm_in (List.mem_of_getElem? (i := 717) (by decide +kernel))
theorem cd_mo_bit : hp_cd Y_mo_bit ∈ hp_Ts := tm_in (List.mem_of_getElem? (i := 720) (by decide +kernel))
theorem cd_mo_isTwo : hp_cd Y_mo_isTwo ∈ hp_Ts := tm_in (List.mem_of_getElem? (i := 724) (by decide +kernel))
theorem cd_mo_isTouched : hp_cd Y_mo_isTouched ∈ hp_Ts := tm_in (List.mem_of_getElem? (i := 728) (by decide +kernel))
theorem cd_mo_keep : hp_cd Y_mo_keep ∈ hp_Ts := tm_in (List.mem_of_getElem? (i := 733) (by decide +kernel))
theorem cd_mo_size : hp_cd Y_mo_size ∈ hp_Ts := tm_in (List.mem_of_getElem? (i := 737) (by decide +kernel))
theorem cd_mo_isRound : hp_cd Y_mo_isRound ∈ hp_Ts := tm_in (List.mem_of_getElem? (i := 742) (by decide +kernel))
theorem cd_mo_shapes : hp_cd Y_mo_shapes ∈ hp_Ts := tm_in (List.mem_of_getElem? (i := 746) (by decide +kernel))
theorem cd_mo_isReady : hp_cd Y_mo_isReady ∈ hp_Ts := tm_in (List.mem_of_getElem? (i := 750) (by decide +kernel))
theorem cd_mo_at : hp_cd Y_mo_at ∈ hp_Ts := tm_in (List.mem_of_getElem? (i := 754) (by decide +kernel))
theorem cd_mo_isCorner : hp_cd Y_mo_isCorner ∈ hp_Ts := tm_in (List.mem_of_getElem? (i := 758) (by decide +kernel))
theorem cd_mo_isOf : hp_cd Y_mo_isOf ∈ hp_Ts := tm_in (List.mem_of_getElem? (i := 762) (by decide +kernel))
theorem cd_mo_in : hp_cd Y_mo_in ∈ hp_Ts := tm_in (List.mem_of_getElem? (i := 766) (by decide +kernel))
theorem cd_mo_touching : hp_cd Y_mo_touching ∈ hp_Ts := tm_in (List.mem_of_getElem? (i := 770) (by decide +kernel))
theorem cd_mo_nets : hp_cd Y_mo_nets ∈ hp_Ts := tm_in (List.mem_of_getElem? (i := 774) (by decide +kernel))
theorem cd_mo_join : hp_cd Y_mo_join ∈ hp_Ts := tm_in (List.mem_of_getElem? (i := 778) (by decide +kernel))
theorem cd_mo_netOf : hp_cd Y_mo_netOf ∈ hp_Ts := tm_in (List.mem_of_getElem? (i := 782) (by decide +kernel))
theorem cd_mo_edge : hp_cd Y_mo_edge ∈ hp_Ts := tm_in (List.mem_of_getElem? (i := 786) (by decide +kernel))
theorem cd_mo_findEdge : hp_cd Y_mo_findEdge ∈ hp_Ts := tm_in (List.mem_of_getElem? (i := 790) (by decide +kernel))
theorem cd_mo_lying : hp_cd Y_mo_lying ∈ hp_Ts := tm_in (List.mem_of_getElem? (i := 794) (by decide +kernel))
theorem cd_mo_standing : hp_cd Y_mo_standing ∈ hp_Ts := tm_in (List.mem_of_getElem? (i := 798) (by decide +kernel))
theorem cd_mo_area2 : hp_cd Y_mo_area2 ∈ hp_Ts := tm_in (List.mem_of_getElem? (i := 802) (by decide +kernel))
theorem cd_mo_trapezoid : hp_cd Y_mo_trapezoid ∈ hp_Ts := tm_in (List.mem_of_getElem? (i := 807) (by decide +kernel))
theorem cd_mo_isLine : hp_cd Y_mo_isLine ∈ hp_Ts := tm_in (List.mem_of_getElem? (i := 811) (by decide +kernel))
end
section
/-! THROWS. 'throw new E("text")': new; dup; ldc; invokespecial; athrow. Nothing has been written or made in this method yet. -/
theorem hp_rep_grow {D : va_G} {z : Nat} {u U : State} (hvm : u.vm.Alike U.vm) {σ : List Nat} {h : hp_H} {H H1 : Heap} (r : hp_rep D z u σ h H) (ho : ∀ q, q < H.size → H1[q]? = H[q]?) (hs : ∀ (q : Nat) (cell : Cell), H.size ≤ q → H1[q]? = some cell → cell.vm.isStatics = false) : hp_rep D z U σ h H1 := by
  have hlt := fun k hk => hp_rep_lt r (k := k) hk
  obtain ⟨r1, r2, r3, r4, r5⟩ := hp_rep_moved hvm r
  refine ⟨r1, fun k c hk => ?_, r3, r4, fun q cell hq hc => ?_⟩
  · exact hp_at_to hp_le_rf (ho _ (hlt k (by rw [r1]; exact (List.getElem?_eq_some_iff.mp hk).1))) (r2 k c hk)
  · rcases Nat.lt_or_ge q H.size with hq' | hq'
    · rw [ho q hq'] at hc
      exact r5 q cell hq hc
    · exact hs q cell hq' hc
theorem hp_same_nil {s U : State} {k n : Nat} (h : s.sameButNew ({ U with vm := s.vm } : State) [] k n) : s.heap.size ≤ U.heap.size ∧ U.heap.size ≤ s.heap.size + k ∧ ∀ q : Nat, q < s.heap.size → U.heap[q]? = s.heap[q]? := by
  obtain ⟨-, h2, h3, -, -, h6⟩ := h
  refine ⟨h2, h3, fun q hq => ?_⟩
  obtain ⟨c9, e1, e2, e3, e4⟩ := h6 q _ (Array.getElem?_eq_getElem hq)
  have hs : c9.slots = (s.heap[q]).slots := Array.ext_getElem? fun i => e4 i (fun hm => by cases hm)
  have h9 : c9 = s.heap[q] := by
    rw [hs] at e2
    exact e2
  have e5 : U.heap[q]? = some c9 := e1
  rw [e5, h9, Array.getElem?_eq_getElem hq]
def hp_ups : List String := ["java/lang/RuntimeException", "java/lang/Exception"]
set_option maxHeartbeats 4000000 in
theorem hs_throw {T : hp_T} {Y : hp_Y} {l : Launch} {w0 : Bool} {dk dn : Nat} {Q : hp_R → hp_H → Prop} {G : hp_G} (C : hp_ctx T Y l w0 dk dn Q G) {ik is ic ci pc : Nat} {text : String} {lv : hp_L} {st : List Value} {h : hp_H}
    (hfit : Bundle.fit (hp_exn ci) = true) (hk : Jvm.Cond.classLink (t_own T) ik (hp_exn ci) ∈ hp_Ts) (hini : Jvm.Cond.initialized (hp_exn ci) ∈ hp_Ts) (hstr : (t_own T, is, text) ∈ hp_strs) (hat : ∀ w ∈ Bundle.ownAtoms (t_own T) ic (hp_exn ci) hp_ups, w ∈ hp_Ts)
    (d0 : decode (y_cc Y) pc = .ok (.new ik, 3)) (d3 : decode (y_cc Y) (pc + 3) = .ok (.dup, 1)) (d4 : decode (y_cc Y) (pc + 4) = .ok (.ldc is, 2)) (d6 : decode (y_cc Y) (pc + 6) = .ok (.invokespecial ic, 3)) (d9 : decode (y_cc Y) (pc + 9) = .ok (.athrow, 1))
    (hnil : y_hd Y = []) (hfr : 5 < y_fr Y) (hlo : (st.map fun v => v.category).sum + 82 ≤ y_lo Y) (hdk : 1 ≤ dk) (hdn : 6 ≤ dn) (hi : Q (.inr ci) h) : hp_W G pc lv st h true 0 0 := by
  obtain ⟨B, O, hn, hR, hl, hw, hQ, hrt, hlk, hnm, hex, hnt, hth⟩ := C
  intro σ H locs ls a1 a2 a3 a4 a5 a6 a7 a8 a9 T0 hT X
  have e0 : locs = [] := a5 rfl
  subst e0
  have hheap : T0.heap = (g_s G).heap := by rw [X.home]; rfl
  have hH : H = (g_s G).heap := by rw [← hT]; exact hheap
  obtain ⟨hts, hown, hKn, hzs⟩ := O
  obtain ⟨-, hstrs, -⟩ := hth (g_s G) (State.WarmedH.refl _) (fun _ _ => rfl)
  obtain ⟨sa, hsa1, hsa2⟩ := hstrs _ hstr
  have htr : (g_e G).platform.stackTraces = false := hnt _ (by rw [← hl]; exact X.admits)
  have hins : Jvm.Cond.instantiable (hp_exn ci) 6 ∈ hp_Ts := hat _ (by simp [Bundle.ownAtoms])
  have hcat : ((st.map (hp_cv σ)).map fun v => v.category) = st.map fun v => v.category := by
    rw [List.map_map]
    exact List.map_congr_left fun v _ => hp_cv_cat σ v
  have hnoh : (g_c G).exceptionTable.toList = [] := by
    rw [hnil] at hex
    exact List.map_eq_nil_iff.mp hex
  obtain ⟨vm₁, cX, kX, hfX, hkX, -, -, X₁, st1⟩ := X.newCold B.1 (own := t_own T) (C := hp_exn ci) (index := ik) (n := 6) hown (hts _ hk) (hts _ hins) (hts _ hini)
    (g := F0 (g_m G) pc ls (st.map (hp_cv σ))) rfl (by rw [B.2.1]; exact d0) (by rw [hR]; show 0 + 1 ≤ dk; omega) (by rw [hR]; show 0 + 6 ≤ dn; omega)
  generalize hT1 : (T0.setVm vm₁).pushCell { cls := cX, slots := kX.instanceTypes.map defaultValue, vm := .none } = T1 at X₁ st1
  have hcatr : (Value.ref T0.heap.size).category = 1 := rfl
  have hcellA : T1.heap[T0.heap.size]? = some (freshCell cX kX) := by rw [← hT1]; exact State.heap_pushCell_size _ _
  have d3' : decode (g_c G).code (pc + 3) = .ok (.dup, 1) := by rw [B.2.1]; exact d3
  have d4' : decode (g_c G).code (pc + 4) = .ok (.ldc is, 2) := by rw [B.2.1]; exact d4
  obtain ⟨U, hsteps, hrun, hend, hW, hsame, ce, hce, hO⟩ := X₁.ctorThrowS B.1 htr (own := t_own T) (cls := hp_exn ci) (names := hp_ups) (ic := ic) hown hfit (by decide) (fun w hw => hts _ (hat w hw)) (fun x hx => nomatch hx) hfX hkX hcellA (by rw [hheap]; exact Nat.le_refl _) (msg := .ref sa) rfl
    (g := { method := g_m G, pc := pc + 6, locals := ls, stack := .ref sa :: .ref T0.heap.size :: .ref T0.heap.size :: st.map (hp_cv σ), locked := none }) rfl (a6.1.trans B.2.2.symm) rfl rfl (rest := st.map (hp_cv σ)) rfl
    (by rw [B.2.1]; exact d6) (by rw [B.2.1]; exact d9) (fun x hx => by rw [hnoh] at hx; cases hx) (by rw [hR]; exact hfr) (by rw [hR]; simp only [List.map_cons, List.sum_cons, hcatr, hcat]; show 2 * 0 + _ + (13 * (2 + 1) + 42) ≤ y_lo Y; omega) hlk
  obtain ⟨f1, f2, f3⟩ := hp_same_nil hsame
  have hcl : U.vm.findClass (hp_exn ci) = some ce.cls := by
    rw [hW.alike.findClass]
    exact hO.cls
  refine ⟨U, st1 _ ?_, .threw T0.heap.size, hrun, hend, .inr ci, h, σ, a2, ⟨T0.heap.size, ce, rfl, hce, hO.vm, hcl⟩, ?_, ?_, (by rw [hQ]; exact hi), hW, [], ?_, (fun q hq => by cases hq), fun _ => rfl⟩
  · show Steps (g_p G).tables (g_e G) (g_b G) (T1.setTop { method := g_m G, pc := pc + 3, locals := ls, stack := .ref T0.heap.size :: st.map (hp_cv σ), locked := none }) _
    have hx := B.1
    jvm_step X₁.here [X₁.here.top, hx, d3', Value.category]
    exact X₁.ldcString B.1 (own := t_own T) (text := text) (index := is) (a := sa) hown hsa1 hsa2
      (g := { method := g_m G, pc := pc + 4, locals := ls, stack := .ref T0.heap.size :: .ref T0.heap.size :: st.map (hp_cv σ), locked := none }) rfl d4' _ hsteps
  · rw [hH] at a1
    refine hp_rep_grow hW.alike a1 f3 (fun q cell hq hc => ?_)
    have hql := (Array.getElem?_eq_some_iff.mp hc).1
    have e : q = T0.heap.size := by rw [hheap]; omega
    subst e
    rw [hce] at hc
    cases hc
    rw [hO.vm]; rfl
  · exact ⟨f1, fun q hq => f3 q (Nat.lt_of_lt_of_le hq hzs)⟩
  · rw [hR]
    exact State.sameButNew.mono hsame (by show 0 + 1 ≤ dk; omega) (by show 0 + 6 ≤ dn; omega)
end
section
/-! the tables of java/lang/Long -/
def fl_jl : List (Nat × Nat × Nat) := []
theorem fv_jl : ∀ q ∈ fl_jl, ∃ r0 : vw_C, classes[q.2.1]? = some r0 ∧ q.2.2 < r0.2.2 ∧ Jvm.Cond.fieldLink "java/lang/Long" q.1 (r0.2.1 q.2.2).1 (r0.2.1 q.2.2).2.1 (r0.2.1 q.2.2).2.2.1 ∈ hp_Ts := (fun _ h => absurd h List.not_mem_nil)
def cl_jl : List (Nat × Nat × hp_Y) := []
theorem cv_jl : ∀ q ∈ cl_jl, hp_vcall "java/lang/Long" q.1 q.2.1 q.2.2 := (fun _ h => absurd h List.not_mem_nil)
def it_jl : List (Nat × Int32) := []
theorem iv_jl : ∀ q ∈ it_jl, Jvm.Cond.constant "java/lang/Long" q.1 q.2 ∈ hp_Ts := (fun _ h => absurd h List.not_mem_nil)
def lo_jl : List (Nat × Int64) := [(314, 6148914691236517205), (316, 3689348814741910323), (318, 1085102592571150095)]
theorem lv_jl : ∀ q ∈ lo_jl, Jvm.Cond.constantLong "java/lang/Long" q.1 q.2 ∈ hp_Ts := List.forall_mem_cons.mpr ⟨tm_in (List.mem_of_getElem? (i := 346) (by decide +kernel)), List.forall_mem_cons.mpr ⟨tm_in (List.mem_of_getElem? (i := 347) (by decide +kernel)), List.forall_mem_cons.mpr ⟨tm_in (List.mem_of_getElem? (i := 348) (by decide +kernel)), (fun _ h => absurd h List.not_mem_nil)⟩⟩⟩
def ne_jl : List (Nat × Nat) := []
theorem nv_jl : ∀ q ∈ ne_jl, ∃ r0 : vw_C, classes[q.2]? = some r0 ∧ Jvm.Cond.classLink "java/lang/Long" q.1 r0.1 ∈ hp_Ts := (fun _ h => absurd h List.not_mem_nil)
def ex_jl : List (Nat × Nat) := []
def K_jl_bitCount : List (Nat × Instr) := [(0, .lload_n 0), (1, .lload_n 0), (2, .iconst 1), (3, .lushr), (4, .ldc2_w 314), (7, .land), (8, .lsub), (9, .lstore_n 0), (10, .lload_n 0), (11, .ldc2_w 316), (14, .land), (15, .lload_n 0), (16, .iconst 2), (17, .lushr), (18, .ldc2_w 316), (21, .land), (22, .ladd), (23, .lstore_n 0), (24, .lload_n 0), (25, .lload_n 0), (26, .iconst 4), (27, .lushr), (28, .ladd), (29, .ldc2_w 318), (32, .land), (33, .lstore_n 0), (34, .lload_n 0), (35, .lload_n 0), (36, .bipush (8)), (38, .lushr), (39, .ladd), (40, .lstore_n 0), (41, .lload_n 0), (42, .lload_n 0), (43, .bipush (16)), (45, .lushr), (46, .ladd), (47, .lstore_n 0), (48, .lload_n 0), (49, .lload_n 0), (50, .bipush (32)), (52, .lushr), (53, .ladd), (54, .lstore_n 0), (55, .lload_n 0), (56, .l2i), (57, .bipush (127)), (59, .iand), (60, .ireturn)]
def T_jl_bitCount : hp_T := ("java/lang/Long", K_jl_bitCount, fl_jl, cl_jl, ne_jl, ex_jl, it_jl, lo_jl)
theorem V_jl_bitCount : hp_val T_jl_bitCount Y_jl_bitCount := ⟨hp_okc_of (by decide +kernel), fv_jl, cv_jl, iv_jl, lv_jl, nv_jl⟩
end
section
/-! the tables of java/lang/Math -/
def fl_jm : List (Nat × Nat × Nat) := []
theorem fv_jm : ∀ q ∈ fl_jm, ∃ r0 : vw_C, classes[q.2.1]? = some r0 ∧ q.2.2 < r0.2.2 ∧ Jvm.Cond.fieldLink "java/lang/Math" q.1 (r0.2.1 q.2.2).1 (r0.2.1 q.2.2).2.1 (r0.2.1 q.2.2).2.2.1 ∈ hp_Ts := (fun _ h => absurd h List.not_mem_nil)
def cl_jm : List (Nat × Nat × hp_Y) := []
theorem cv_jm : ∀ q ∈ cl_jm, hp_vcall "java/lang/Math" q.1 q.2.1 q.2.2 := (fun _ h => absurd h List.not_mem_nil)
def it_jm : List (Nat × Int32) := []
theorem iv_jm : ∀ q ∈ it_jm, Jvm.Cond.constant "java/lang/Math" q.1 q.2 ∈ hp_Ts := (fun _ h => absurd h List.not_mem_nil)
def lo_jm : List (Nat × Int64) := []
theorem lv_jm : ∀ q ∈ lo_jm, Jvm.Cond.constantLong "java/lang/Math" q.1 q.2 ∈ hp_Ts := (fun _ h => absurd h List.not_mem_nil)
def ne_jm : List (Nat × Nat) := []
theorem nv_jm : ∀ q ∈ ne_jm, ∃ r0 : vw_C, classes[q.2]? = some r0 ∧ Jvm.Cond.classLink "java/lang/Math" q.1 r0.1 ∈ hp_Ts := (fun _ h => absurd h List.not_mem_nil)
def ex_jm : List (Nat × Nat) := []
def K_jm_max : List (Nat × Instr) := [(0, .iload_n 0), (1, .iload_n 1), (2, .if_icmp .lt (7)), (5, .iload_n 0), (6, .goto (4)), (9, .iload_n 1), (10, .ireturn)]
def T_jm_max : hp_T := ("java/lang/Math", K_jm_max, fl_jm, cl_jm, ne_jm, ex_jm, it_jm, lo_jm)
theorem V_jm_max : hp_val T_jm_max Y_jm_max := ⟨hp_okc_of (by decide +kernel), fv_jm, cv_jm, iv_jm, lv_jm, nv_jm⟩
def K_jm_min : List (Nat × Instr) := [(0, .iload_n 0), (1, .iload_n 1), (2, .if_icmp .gt (7)), (5, .iload_n 0), (6, .goto (4)), (9, .iload_n 1), (10, .ireturn)]
def T_jm_min : hp_T := ("java/lang/Math", K_jm_min, fl_jm, cl_jm, ne_jm, ex_jm, it_jm, lo_jm)
theorem V_jm_min : hp_val T_jm_min Y_jm_min := ⟨hp_okc_of (by decide +kernel), fv_jm, cv_jm, iv_jm, lv_jm, nv_jm⟩
end
section
/-! the tables of java/util/Arrays -/
def fl_ja : List (Nat × Nat × Nat) := []
theorem fv_ja : ∀ q ∈ fl_ja, ∃ r0 : vw_C, classes[q.2.1]? = some r0 ∧ q.2.2 < r0.2.2 ∧ Jvm.Cond.fieldLink "java/util/Arrays" q.1 (r0.2.1 q.2.2).1 (r0.2.1 q.2.2).2.1 (r0.2.1 q.2.2).2.2.1 ∈ hp_Ts := (fun _ h => absurd h List.not_mem_nil)
def cl_ja : List (Nat × Nat × hp_Y) := []
theorem cv_ja : ∀ q ∈ cl_ja, hp_vcall "java/util/Arrays" q.1 q.2.1 q.2.2 := (fun _ h => absurd h List.not_mem_nil)
def it_ja : List (Nat × Int32) := []
theorem iv_ja : ∀ q ∈ it_ja, Jvm.Cond.constant "java/util/Arrays" q.1 q.2 ∈ hp_Ts := (fun _ h => absurd h List.not_mem_nil)
def lo_ja : List (Nat × Int64) := []
theorem lv_ja : ∀ q ∈ lo_ja, Jvm.Cond.constantLong "java/util/Arrays" q.1 q.2 ∈ hp_Ts := (fun _ h => absurd h List.not_mem_nil)
def ne_ja : List (Nat × Nat) := []
theorem nv_ja : ∀ q ∈ ne_ja, ∃ r0 : vw_C, classes[q.2]? = some r0 ∧ Jvm.Cond.classLink "java/util/Arrays" q.1 r0.1 ∈ hp_Ts := (fun _ h => absurd h List.not_mem_nil)
def ex_ja : List (Nat × Nat) := []
def K_ja_fill : List (Nat × Instr) := [(0, .iconst 0), (1, .istore_n 3), (2, .aload_n 0), (3, .arraylength), (4, .istore 4), (6, .iload_n 3), (7, .iload 4), (9, .if_icmp .ge (13)), (12, .aload_n 0), (13, .iload_n 3), (14, .lload_n 1), (15, .lastore), (16, .iinc 3 (1)), (19, .goto (-13)), (22, .return_)]
def T_ja_fill : hp_T := ("java/util/Arrays", K_ja_fill, fl_ja, cl_ja, ne_ja, ex_ja, it_ja, lo_ja)
theorem V_ja_fill : hp_val T_ja_fill Y_ja_fill := ⟨hp_okc_of (by decide +kernel), fv_ja, cv_ja, iv_ja, lv_ja, nv_ja⟩
end
section
/-! the tables of EdgeSweeps$Rows -/
def fl_ro : List (Nat × Nat × Nat) := []
theorem fv_ro : ∀ q ∈ fl_ro, ∃ r0 : vw_C, classes[q.2.1]? = some r0 ∧ q.2.2 < r0.2.2 ∧ Jvm.Cond.fieldLink "EdgeSweeps$Rows" q.1 (r0.2.1 q.2.2).1 (r0.2.1 q.2.2).2.1 (r0.2.1 q.2.2).2.2.1 ∈ hp_Ts := (fun _ h => absurd h List.not_mem_nil)
def cl_ro : List (Nat × Nat × hp_Y) := [(11, 0, Y_ro_starts), (17, 0, Y_jl_bitCount), (23, 0, Y_ro_firstPlace), (32, 0, Y_ro_copy), (36, 0, Y_ro_resizeAlongX), (40, 0, Y_ro_turn), (44, 0, Y_ro_widened), (48, 0, Y_ro_narrowed), (51, 0, Y_jm_min), (57, 0, Y_ro_leftOf)]
theorem cv_ro_11 : hp_vcall "EdgeSweeps$Rows" 11 0 Y_ro_starts := ⟨cd_ro_starts, tm_in (List.mem_of_getElem? (i := 340) (by decide +kernel)), tm_in (List.mem_of_getElem? (i := 341) (by decide +kernel)), tm_in (List.mem_of_getElem? (i := 13) (by decide +kernel)), ⟨by decide, by decide⟩, (by unfold hp_np; decide +kernel)⟩
theorem cv_ro_17 : hp_vcall "EdgeSweeps$Rows" 17 0 Y_jl_bitCount := ⟨cd_jl_bitCount, tm_in (List.mem_of_getElem? (i := 343) (by decide +kernel)), tm_in (List.mem_of_getElem? (i := 344) (by decide +kernel)), tm_in (List.mem_of_getElem? (i := 14) (by decide +kernel)), ⟨by decide, by decide⟩, (by unfold hp_np; decide +kernel)⟩
theorem cv_ro_23 : hp_vcall "EdgeSweeps$Rows" 23 0 Y_ro_firstPlace := ⟨cd_ro_firstPlace, tm_in (List.mem_of_getElem? (i := 460) (by decide +kernel)), tm_in (List.mem_of_getElem? (i := 461) (by decide +kernel)), tm_in (List.mem_of_getElem? (i := 13) (by decide +kernel)), ⟨by decide, by decide⟩, (by unfold hp_np; decide +kernel)⟩
theorem cv_ro_32 : hp_vcall "EdgeSweeps$Rows" 32 0 Y_ro_copy := ⟨cd_ro_copy, tm_in (List.mem_of_getElem? (i := 388) (by decide +kernel)), tm_in (List.mem_of_getElem? (i := 389) (by decide +kernel)), tm_in (List.mem_of_getElem? (i := 13) (by decide +kernel)), ⟨by decide, by decide⟩, (by unfold hp_np; decide +kernel)⟩
theorem cv_ro_36 : hp_vcall "EdgeSweeps$Rows" 36 0 Y_ro_resizeAlongX := ⟨cd_ro_resizeAlongX, tm_in (List.mem_of_getElem? (i := 394) (by decide +kernel)), tm_in (List.mem_of_getElem? (i := 395) (by decide +kernel)), tm_in (List.mem_of_getElem? (i := 13) (by decide +kernel)), ⟨by decide, by decide⟩, (by unfold hp_np; decide +kernel)⟩
theorem cv_ro_40 : hp_vcall "EdgeSweeps$Rows" 40 0 Y_ro_turn := ⟨cd_ro_turn, tm_in (List.mem_of_getElem? (i := 401) (by decide +kernel)), tm_in (List.mem_of_getElem? (i := 402) (by decide +kernel)), tm_in (List.mem_of_getElem? (i := 13) (by decide +kernel)), ⟨by decide, by decide⟩, (by unfold hp_np; decide +kernel)⟩
theorem cv_ro_44 : hp_vcall "EdgeSweeps$Rows" 44 0 Y_ro_widened := ⟨cd_ro_widened, tm_in (List.mem_of_getElem? (i := 397) (by decide +kernel)), tm_in (List.mem_of_getElem? (i := 358) (by decide +kernel)), tm_in (List.mem_of_getElem? (i := 13) (by decide +kernel)), ⟨by decide, by decide⟩, (by unfold hp_np; decide +kernel)⟩
theorem cv_ro_48 : hp_vcall "EdgeSweeps$Rows" 48 0 Y_ro_narrowed := ⟨cd_ro_narrowed, tm_in (List.mem_of_getElem? (i := 398) (by decide +kernel)), tm_in (List.mem_of_getElem? (i := 399) (by decide +kernel)), tm_in (List.mem_of_getElem? (i := 13) (by decide +kernel)), ⟨by decide, by decide⟩, (by unfold hp_np; decide +kernel)⟩
theorem cv_ro_51 : hp_vcall "EdgeSweeps$Rows" 51 0 Y_jm_min := ⟨cd_jm_min, tm_in (List.mem_of_getElem? (i := 360) (by decide +kernel)), tm_in (List.mem_of_getElem? (i := 93) (by decide +kernel)), tm_in (List.mem_of_getElem? (i := 4) (by decide +kernel)), ⟨by decide, by decide⟩, (by unfold hp_np; decide +kernel)⟩
theorem cv_ro_57 : hp_vcall "EdgeSweeps$Rows" 57 0 Y_ro_leftOf := ⟨cd_ro_leftOf, tm_in (List.mem_of_getElem? (i := 404) (by decide +kernel)), tm_in (List.mem_of_getElem? (i := 323) (by decide +kernel)), tm_in (List.mem_of_getElem? (i := 13) (by decide +kernel)), ⟨by decide, by decide⟩, (by unfold hp_np; decide +kernel)⟩
theorem cv_ro : ∀ q ∈ cl_ro, hp_vcall "EdgeSweeps$Rows" q.1 q.2.1 q.2.2 := List.forall_mem_cons.mpr ⟨cv_ro_11, List.forall_mem_cons.mpr ⟨cv_ro_17, List.forall_mem_cons.mpr ⟨cv_ro_23, List.forall_mem_cons.mpr ⟨cv_ro_32, List.forall_mem_cons.mpr ⟨cv_ro_36, List.forall_mem_cons.mpr ⟨cv_ro_40, List.forall_mem_cons.mpr ⟨cv_ro_44, List.forall_mem_cons.mpr ⟨cv_ro_48, List.forall_mem_cons.mpr ⟨cv_ro_51, List.forall_mem_cons.mpr ⟨cv_ro_57, (fun _ h => absurd h List.not_mem_nil)⟩⟩⟩⟩⟩⟩⟩⟩⟩⟩
def it_ro : List (Nat × Int32) := []
theorem iv_ro : ∀ q ∈ it_ro, Jvm.Cond.constant "EdgeSweeps$Rows" q.1 q.2 ∈ hp_Ts := (fun _ h => absurd h List.not_mem_nil)
def lo_ro : List (Nat × Int64) := [(9, -1)]
theorem lv_ro : ∀ q ∈ lo_ro, Jvm.Cond.constantLong "EdgeSweeps$Rows" q.1 q.2 ∈ hp_Ts := List.forall_mem_cons.mpr ⟨tm_in (List.mem_of_getElem? (i := 325) (by decide +kernel)), (fun _ h => absurd h List.not_mem_nil)⟩
def ne_ro : List (Nat × Nat) := []
theorem nv_ro : ∀ q ∈ ne_ro, ∃ r0 : vw_C, classes[q.2]? = some r0 ∧ Jvm.Cond.classLink "EdgeSweeps$Rows" q.1 r0.1 ∈ hp_Ts := (fun _ h => absurd h List.not_mem_nil)
def ex_ro : List (Nat × Nat) := []
def K_ro_leftOf : List (Nat × Instr) := [(0, .iload_n 0), (1, .bipush (64)), (3, .if_icmp .lt (9)), (6, .ldc2_w 9), (9, .goto (8)), (12, .lconst 1), (13, .iload_n 0), (14, .lshl), (15, .lconst 1), (16, .lsub), (17, .lreturn)]
def T_ro_leftOf : hp_T := ("EdgeSweeps$Rows", K_ro_leftOf, fl_ro, cl_ro, ne_ro, ex_ro, it_ro, lo_ro)
theorem V_ro_leftOf : hp_val T_ro_leftOf Y_ro_leftOf := ⟨hp_okc_of (by decide +kernel), fv_ro, cv_ro, iv_ro, lv_ro, nv_ro⟩
def K_ro_complement : List (Nat × Instr) := [(0, .iconst 0), (1, .istore_n 2), (2, .iload_n 2), (3, .bipush (64)), (5, .if_icmp .ge (19)), (8, .aload_n 1), (9, .iload_n 2), (10, .aload_n 0), (11, .iload_n 2), (12, .laload), (13, .ldc2_w 9), (16, .lxor), (17, .lastore), (18, .iinc 2 (1)), (21, .goto (-19)), (24, .return_)]
def T_ro_complement : hp_T := ("EdgeSweeps$Rows", K_ro_complement, fl_ro, cl_ro, ne_ro, ex_ro, it_ro, lo_ro)
theorem V_ro_complement : hp_val T_ro_complement Y_ro_complement := ⟨hp_okc_of (by decide +kernel), fv_ro, cv_ro, iv_ro, lv_ro, nv_ro⟩
def K_ro_countRuns : List (Nat × Instr) := [(0, .lload_n 0), (1, .invokestatic 11), (4, .invokestatic 17), (7, .ireturn)]
def T_ro_countRuns : hp_T := ("EdgeSweeps$Rows", K_ro_countRuns, fl_ro, cl_ro, ne_ro, ex_ro, it_ro, lo_ro)
theorem V_ro_countRuns : hp_val T_ro_countRuns Y_ro_countRuns := ⟨hp_okc_of (by decide +kernel), fv_ro, cv_ro, iv_ro, lv_ro, nv_ro⟩
def K_ro_starts : List (Nat × Instr) := [(0, .lload_n 0), (1, .lload_n 0), (2, .iconst 1), (3, .lshl), (4, .ldc2_w 9), (7, .lxor), (8, .land), (9, .lreturn)]
def T_ro_starts : hp_T := ("EdgeSweeps$Rows", K_ro_starts, fl_ro, cl_ro, ne_ro, ex_ro, it_ro, lo_ro)
theorem V_ro_starts : hp_val T_ro_starts Y_ro_starts := ⟨hp_okc_of (by decide +kernel), fv_ro, cv_ro, iv_ro, lv_ro, nv_ro⟩
def K_ro_firstRun : List (Nat × Instr) := [(0, .lload_n 0), (1, .lload_n 0), (2, .lload_n 0), (3, .lload_n 0), (4, .lneg), (5, .land), (6, .ladd), (7, .ldc2_w 9), (10, .lxor), (11, .land), (12, .lreturn)]
def T_ro_firstRun : hp_T := ("EdgeSweeps$Rows", K_ro_firstRun, fl_ro, cl_ro, ne_ro, ex_ro, it_ro, lo_ro)
theorem V_ro_firstRun : hp_val T_ro_firstRun Y_ro_firstRun := ⟨hp_okc_of (by decide +kernel), fv_ro, cv_ro, iv_ro, lv_ro, nv_ro⟩
def K_ro_widened : List (Nat × Instr) := [(0, .lload_n 0), (1, .lstore_n 3), (2, .iconst 1), (3, .istore 5), (5, .iconst 0), (6, .istore 6), (8, .iload 6), (10, .iload_n 2), (11, .if_icmp .ge (38)), (14, .iload 6), (16, .iconst 1), (17, .iadd), (18, .iload_n 2), (19, .iload 6), (21, .isub), (22, .invokestatic 51), (25, .istore 5), (27, .lload_n 3), (28, .lload_n 3), (29, .iload 5), (31, .lshl), (32, .lload_n 3), (33, .iload 5), (35, .lushr), (36, .lor), (37, .lor), (38, .lstore_n 3), (39, .iload 6), (41, .iload 5), (43, .iadd), (44, .istore 6), (46, .goto (-38)), (49, .lload_n 3), (50, .lreturn)]
def T_ro_widened : hp_T := ("EdgeSweeps$Rows", K_ro_widened, fl_ro, cl_ro, ne_ro, ex_ro, it_ro, lo_ro)
theorem V_ro_widened : hp_val T_ro_widened Y_ro_widened := ⟨hp_okc_of (by decide +kernel), fv_ro, cv_ro, iv_ro, lv_ro, nv_ro⟩
def K_ro_resize : List (Nat × Instr) := [(0, .aload_n 0), (1, .aload_n 1), (2, .invokestatic 32), (5, .aload_n 1), (6, .iload_n 2), (7, .iload 4), (9, .invokestatic 36), (12, .aload_n 1), (13, .invokestatic 40), (16, .aload_n 1), (17, .iload_n 3), (18, .iload 4), (20, .invokestatic 36), (23, .aload_n 1), (24, .invokestatic 40), (27, .return_)]
def T_ro_resize : hp_T := ("EdgeSweeps$Rows", K_ro_resize, fl_ro, cl_ro, ne_ro, ex_ro, it_ro, lo_ro)
theorem V_ro_resize : hp_val T_ro_resize Y_ro_resize := ⟨hp_okc_of (by decide +kernel), fv_ro, cv_ro, iv_ro, lv_ro, nv_ro⟩
def K_ro_copy : List (Nat × Instr) := [(0, .aload_n 0), (1, .iconst 0), (2, .aload_n 1), (3, .iconst 0), (4, .bipush (64)), (6, .invokestatic 26), (9, .return_)]
def T_ro_copy : hp_T := ("EdgeSweeps$Rows", K_ro_copy, fl_ro, cl_ro, ne_ro, ex_ro, it_ro, lo_ro)
theorem V_ro_copy : hp_val T_ro_copy Y_ro_copy := ⟨hp_okc_of (by decide +kernel), fv_ro, cv_ro, iv_ro, lv_ro, nv_ro⟩
def K_ro_resizeAlongX : List (Nat × Instr) := [(0, .iconst 0), (1, .istore_n 3), (2, .iload_n 3), (3, .bipush (64)), (5, .if_icmp .ge (33)), (8, .aload_n 0), (9, .iload_n 3), (10, .iload_n 2), (11, .ifCond .eq (13)), (14, .aload_n 0), (15, .iload_n 3), (16, .laload), (17, .iload_n 1), (18, .invokestatic 44), (21, .goto (10)), (24, .aload_n 0), (25, .iload_n 3), (26, .laload), (27, .iload_n 1), (28, .invokestatic 48), (31, .lastore), (32, .iinc 3 (1)), (35, .goto (-33)), (38, .return_)]
def T_ro_resizeAlongX : hp_T := ("EdgeSweeps$Rows", K_ro_resizeAlongX, fl_ro, cl_ro, ne_ro, ex_ro, it_ro, lo_ro)
theorem V_ro_resizeAlongX : hp_val T_ro_resizeAlongX Y_ro_resizeAlongX := ⟨hp_okc_of (by decide +kernel), fv_ro, cv_ro, iv_ro, lv_ro, nv_ro⟩
def K_ro_narrowed : List (Nat × Instr) := [(0, .lload_n 0), (1, .lstore_n 3), (2, .iconst 1), (3, .istore 5), (5, .iconst 0), (6, .istore 6), (8, .iload 6), (10, .iload_n 2), (11, .if_icmp .ge (38)), (14, .iload 6), (16, .iconst 1), (17, .iadd), (18, .iload_n 2), (19, .iload 6), (21, .isub), (22, .invokestatic 51), (25, .istore 5), (27, .lload_n 3), (28, .lload_n 3), (29, .iload 5), (31, .lshl), (32, .lload_n 3), (33, .iload 5), (35, .lushr), (36, .land), (37, .land), (38, .lstore_n 3), (39, .iload 6), (41, .iload 5), (43, .iadd), (44, .istore 6), (46, .goto (-38)), (49, .lload_n 3), (50, .lreturn)]
def T_ro_narrowed : hp_T := ("EdgeSweeps$Rows", K_ro_narrowed, fl_ro, cl_ro, ne_ro, ex_ro, it_ro, lo_ro)
theorem V_ro_narrowed : hp_val T_ro_narrowed Y_ro_narrowed := ⟨hp_okc_of (by decide +kernel), fv_ro, cv_ro, iv_ro, lv_ro, nv_ro⟩
def K_ro_turn : List (Nat × Instr) := [(0, .bipush (32)), (2, .invokestatic 57), (5, .lstore_n 1), (6, .bipush (32)), (8, .istore_n 3), (9, .iload_n 3), (10, .ifCond .le (80)), (13, .iconst 0), (14, .istore 4), (16, .iload 4), (18, .bipush (64)), (20, .if_icmp .ge (55)), (23, .iload 4), (25, .iload_n 3), (26, .iand), (27, .ifCond .ne (42)), (30, .aload_n 0), (31, .iload 4), (33, .laload), (34, .iload_n 3), (35, .lushr), (36, .aload_n 0), (37, .iload 4), (39, .iload_n 3), (40, .ior), (41, .laload), (42, .lxor), (43, .lload_n 1), (44, .land), (45, .lstore 5), (47, .aload_n 0), (48, .iload 4), (50, .dup2), (51, .laload), (52, .lload 5), (54, .iload_n 3), (55, .lshl), (56, .lxor), (57, .lastore), (58, .aload_n 0), (59, .iload 4), (61, .iload_n 3), (62, .ior), (63, .dup2), (64, .laload), (65, .lload 5), (67, .lxor), (68, .lastore), (69, .iinc 4 (1)), (72, .goto (-56)), (75, .lload_n 1), (76, .lload_n 1), (77, .iload_n 3), (78, .iconst 1), (79, .ishr), (80, .lshl), (81, .lxor), (82, .lstore_n 1), (83, .iload_n 3), (84, .iconst 1), (85, .ishr), (86, .istore_n 3), (87, .goto (-78)), (90, .return_)]
def T_ro_turn : hp_T := ("EdgeSweeps$Rows", K_ro_turn, fl_ro, cl_ro, ne_ro, ex_ro, it_ro, lo_ro)
theorem V_ro_turn : hp_val T_ro_turn Y_ro_turn := ⟨hp_okc_of (by decide +kernel), fv_ro, cv_ro, iv_ro, lv_ro, nv_ro⟩
def K_ro_row : List (Nat × Instr) := [(0, .iload_n 1), (1, .ifCond .lt (15)), (4, .iload_n 1), (5, .bipush (64)), (7, .if_icmp .ge (9)), (10, .aload_n 0), (11, .iload_n 1), (12, .laload), (13, .goto (4)), (16, .lconst 0), (17, .lreturn)]
def T_ro_row : hp_T := ("EdgeSweeps$Rows", K_ro_row, fl_ro, cl_ro, ne_ro, ex_ro, it_ro, lo_ro)
theorem V_ro_row : hp_val T_ro_row Y_ro_row := ⟨hp_okc_of (by decide +kernel), fv_ro, cv_ro, iv_ro, lv_ro, nv_ro⟩
def K_ro_placeOf : List (Nat × Instr) := [(0, .lload_n 0), (1, .lstore_n 3), (2, .iconst 0), (3, .istore 5), (5, .iload 5), (7, .iload_n 2), (8, .if_icmp .ge (15)), (11, .lload_n 3), (12, .lload_n 3), (13, .lconst 1), (14, .lsub), (15, .land), (16, .lstore_n 3), (17, .iinc 5 (1)), (20, .goto (-15)), (23, .lload_n 3), (24, .invokestatic 23), (27, .ireturn)]
def T_ro_placeOf : hp_T := ("EdgeSweeps$Rows", K_ro_placeOf, fl_ro, cl_ro, ne_ro, ex_ro, it_ro, lo_ro)
theorem V_ro_placeOf : hp_val T_ro_placeOf Y_ro_placeOf := ⟨hp_okc_of (by decide +kernel), fv_ro, cv_ro, iv_ro, lv_ro, nv_ro⟩
def K_ro_firstPlace : List (Nat × Instr) := [(0, .lload_n 0), (1, .lload_n 0), (2, .lneg), (3, .land), (4, .lconst 1), (5, .lsub), (6, .invokestatic 17), (9, .ireturn)]
def T_ro_firstPlace : hp_T := ("EdgeSweeps$Rows", K_ro_firstPlace, fl_ro, cl_ro, ne_ro, ex_ro, it_ro, lo_ro)
theorem V_ro_firstPlace : hp_val T_ro_firstPlace Y_ro_firstPlace := ⟨hp_okc_of (by decide +kernel), fv_ro, cv_ro, iv_ro, lv_ro, nv_ro⟩
def K_ro_countSquares : List (Nat × Instr) := [(0, .iconst 0), (1, .istore_n 1), (2, .iconst 0), (3, .istore_n 2), (4, .iload_n 2), (5, .bipush (64)), (7, .if_icmp .ge (18)), (10, .iload_n 1), (11, .aload_n 0), (12, .iload_n 2), (13, .laload), (14, .invokestatic 17), (17, .iadd), (18, .istore_n 1), (19, .iinc 2 (1)), (22, .goto (-18)), (25, .iload_n 1), (26, .ireturn)]
def T_ro_countSquares : hp_T := ("EdgeSweeps$Rows", K_ro_countSquares, fl_ro, cl_ro, ne_ro, ex_ro, it_ro, lo_ro)
theorem V_ro_countSquares : hp_val T_ro_countSquares Y_ro_countSquares := ⟨hp_okc_of (by decide +kernel), fv_ro, cv_ro, iv_ro, lv_ro, nv_ro⟩
def K_ro_runEnd : List (Nat × Instr) := [(0, .iload_n 2), (1, .lload_n 0), (2, .iload_n 2), (3, .lushr), (4, .ldc2_w 9), (7, .lxor), (8, .invokestatic 23), (11, .iadd), (12, .ireturn)]
def T_ro_runEnd : hp_T := ("EdgeSweeps$Rows", K_ro_runEnd, fl_ro, cl_ro, ne_ro, ex_ro, it_ro, lo_ro)
theorem V_ro_runEnd : hp_val T_ro_runEnd Y_ro_runEnd := ⟨hp_okc_of (by decide +kernel), fv_ro, cv_ro, iv_ro, lv_ro, nv_ro⟩
end
section
/-! the tables of EdgeSweeps$Lines -/
def fl_li : List (Nat × Nat × Nat) := []
theorem fv_li : ∀ q ∈ fl_li, ∃ r0 : vw_C, classes[q.2.1]? = some r0 ∧ q.2.2 < r0.2.2 ∧ Jvm.Cond.fieldLink "EdgeSweeps$Lines" q.1 (r0.2.1 q.2.2).1 (r0.2.1 q.2.2).2.1 (r0.2.1 q.2.2).2.2.1 ∈ hp_Ts := (fun _ h => absurd h List.not_mem_nil)
def cl_li : List (Nat × Nat × hp_Y) := [(9, 0, Y_ro_row), (17, 0, Y_li_areaAbove), (22, 0, Y_ro_starts), (26, 0, Y_li_areaBelow), (29, 0, Y_li_lyingStarts), (32, 0, Y_jl_bitCount), (38, 0, Y_ro_countRuns), (41, 0, Y_ro_placeOf), (45, 0, Y_li_lyingFactAt), (56, 0, Y_ro_runEnd), (59, 0, Y_li_boxFactAt), (64, 0, Y_li_sameRowsEnd), (68, 0, Y_li_cornersBetween)]
theorem cv_li_9 : hp_vcall "EdgeSweeps$Lines" 9 0 Y_ro_row := ⟨cd_ro_row, tm_in (List.mem_of_getElem? (i := 450) (by decide +kernel)), tm_in (List.mem_of_getElem? (i := 451) (by decide +kernel)), tm_in (List.mem_of_getElem? (i := 13) (by decide +kernel)), ⟨by decide, by decide⟩, (by unfold hp_np; decide +kernel)⟩
theorem cv_li_17 : hp_vcall "EdgeSweeps$Lines" 17 0 Y_li_areaAbove := ⟨cd_li_areaAbove, tm_in (List.mem_of_getElem? (i := 548) (by decide +kernel)), tm_in (List.mem_of_getElem? (i := 549) (by decide +kernel)), tm_in (List.mem_of_getElem? (i := 16) (by decide +kernel)), ⟨by decide, by decide⟩, (by unfold hp_np; decide +kernel)⟩
theorem cv_li_22 : hp_vcall "EdgeSweeps$Lines" 22 0 Y_ro_starts := ⟨cd_ro_starts, tm_in (List.mem_of_getElem? (i := 552) (by decide +kernel)), tm_in (List.mem_of_getElem? (i := 341) (by decide +kernel)), tm_in (List.mem_of_getElem? (i := 13) (by decide +kernel)), ⟨by decide, by decide⟩, (by unfold hp_np; decide +kernel)⟩
theorem cv_li_26 : hp_vcall "EdgeSweeps$Lines" 26 0 Y_li_areaBelow := ⟨cd_li_areaBelow, tm_in (List.mem_of_getElem? (i := 553) (by decide +kernel)), tm_in (List.mem_of_getElem? (i := 554) (by decide +kernel)), tm_in (List.mem_of_getElem? (i := 16) (by decide +kernel)), ⟨by decide, by decide⟩, (by unfold hp_np; decide +kernel)⟩
theorem cv_li_29 : hp_vcall "EdgeSweeps$Lines" 29 0 Y_li_lyingStarts := ⟨cd_li_lyingStarts, tm_in (List.mem_of_getElem? (i := 545) (by decide +kernel)), tm_in (List.mem_of_getElem? (i := 546) (by decide +kernel)), tm_in (List.mem_of_getElem? (i := 16) (by decide +kernel)), ⟨by decide, by decide⟩, (by unfold hp_np; decide +kernel)⟩
theorem cv_li_32 : hp_vcall "EdgeSweeps$Lines" 32 0 Y_jl_bitCount := ⟨cd_jl_bitCount, tm_in (List.mem_of_getElem? (i := 456) (by decide +kernel)), tm_in (List.mem_of_getElem? (i := 344) (by decide +kernel)), tm_in (List.mem_of_getElem? (i := 14) (by decide +kernel)), ⟨by decide, by decide⟩, (by unfold hp_np; decide +kernel)⟩
theorem cv_li_38 : hp_vcall "EdgeSweeps$Lines" 38 0 Y_ro_countRuns := ⟨cd_ro_countRuns, tm_in (List.mem_of_getElem? (i := 488) (by decide +kernel)), tm_in (List.mem_of_getElem? (i := 338) (by decide +kernel)), tm_in (List.mem_of_getElem? (i := 13) (by decide +kernel)), ⟨by decide, by decide⟩, (by unfold hp_np; decide +kernel)⟩
theorem cv_li_41 : hp_vcall "EdgeSweeps$Lines" 41 0 Y_ro_placeOf := ⟨cd_ro_placeOf, tm_in (List.mem_of_getElem? (i := 457) (by decide +kernel)), tm_in (List.mem_of_getElem? (i := 458) (by decide +kernel)), tm_in (List.mem_of_getElem? (i := 13) (by decide +kernel)), ⟨by decide, by decide⟩, (by unfold hp_np; decide +kernel)⟩
theorem cv_li_45 : hp_vcall "EdgeSweeps$Lines" 45 0 Y_li_lyingFactAt := ⟨cd_li_lyingFactAt, tm_in (List.mem_of_getElem? (i := 559) (by decide +kernel)), tm_in (List.mem_of_getElem? (i := 560) (by decide +kernel)), tm_in (List.mem_of_getElem? (i := 16) (by decide +kernel)), ⟨by decide, by decide⟩, (by unfold hp_np; decide +kernel)⟩
theorem cv_li_56 : hp_vcall "EdgeSweeps$Lines" 56 0 Y_ro_runEnd := ⟨cd_ro_runEnd, tm_in (List.mem_of_getElem? (i := 562) (by decide +kernel)), tm_in (List.mem_of_getElem? (i := 563) (by decide +kernel)), tm_in (List.mem_of_getElem? (i := 13) (by decide +kernel)), ⟨by decide, by decide⟩, (by unfold hp_np; decide +kernel)⟩
theorem cv_li_59 : hp_vcall "EdgeSweeps$Lines" 59 0 Y_li_boxFactAt := ⟨cd_li_boxFactAt, tm_in (List.mem_of_getElem? (i := 581) (by decide +kernel)), tm_in (List.mem_of_getElem? (i := 582) (by decide +kernel)), tm_in (List.mem_of_getElem? (i := 16) (by decide +kernel)), ⟨by decide, by decide⟩, (by unfold hp_np; decide +kernel)⟩
theorem cv_li_64 : hp_vcall "EdgeSweeps$Lines" 64 0 Y_li_sameRowsEnd := ⟨cd_li_sameRowsEnd, tm_in (List.mem_of_getElem? (i := 584) (by decide +kernel)), tm_in (List.mem_of_getElem? (i := 585) (by decide +kernel)), tm_in (List.mem_of_getElem? (i := 16) (by decide +kernel)), ⟨by decide, by decide⟩, (by unfold hp_np; decide +kernel)⟩
theorem cv_li_68 : hp_vcall "EdgeSweeps$Lines" 68 0 Y_li_cornersBetween := ⟨cd_li_cornersBetween, tm_in (List.mem_of_getElem? (i := 453) (by decide +kernel)), tm_in (List.mem_of_getElem? (i := 454) (by decide +kernel)), tm_in (List.mem_of_getElem? (i := 16) (by decide +kernel)), ⟨by decide, by decide⟩, (by unfold hp_np; decide +kernel)⟩
theorem cv_li : ∀ q ∈ cl_li, hp_vcall "EdgeSweeps$Lines" q.1 q.2.1 q.2.2 := List.forall_mem_cons.mpr ⟨cv_li_9, List.forall_mem_cons.mpr ⟨cv_li_17, List.forall_mem_cons.mpr ⟨cv_li_22, List.forall_mem_cons.mpr ⟨cv_li_26, List.forall_mem_cons.mpr ⟨cv_li_29, List.forall_mem_cons.mpr ⟨cv_li_32, List.forall_mem_cons.mpr ⟨cv_li_38, List.forall_mem_cons.mpr ⟨cv_li_41, List.forall_mem_cons.mpr ⟨cv_li_45, List.forall_mem_cons.mpr ⟨cv_li_56, List.forall_mem_cons.mpr ⟨cv_li_59, List.forall_mem_cons.mpr ⟨cv_li_64, List.forall_mem_cons.mpr ⟨cv_li_68, (fun _ h => absurd h List.not_mem_nil)⟩⟩⟩⟩⟩⟩⟩⟩⟩⟩⟩⟩⟩
def it_li : List (Nat × Int32) := []
theorem iv_li : ∀ q ∈ it_li, Jvm.Cond.constant "EdgeSweeps$Lines" q.1 q.2 ∈ hp_Ts := (fun _ h => absurd h List.not_mem_nil)
def lo_li : List (Nat × Int64) := [(15, -1)]
theorem lv_li : ∀ q ∈ lo_li, Jvm.Cond.constantLong "EdgeSweeps$Lines" q.1 q.2 ∈ hp_Ts := List.forall_mem_cons.mpr ⟨tm_in (List.mem_of_getElem? (i := 551) (by decide +kernel)), (fun _ h => absurd h List.not_mem_nil)⟩
def ne_li : List (Nat × Nat) := []
theorem nv_li : ∀ q ∈ ne_li, ∃ r0 : vw_C, classes[q.2]? = some r0 ∧ Jvm.Cond.classLink "EdgeSweeps$Lines" q.1 r0.1 ∈ hp_Ts := (fun _ h => absurd h List.not_mem_nil)
def ex_li : List (Nat × Nat) := [(49, 0)]
def K_li_cornerFact : List (Nat × Instr) := [(0, .iload_n 1), (1, .istore_n 3), (2, .iconst 0), (3, .istore 4), (5, .iload 4), (7, .bipush (64)), (9, .if_icmp .gt (107)), (12, .iload_n 3), (13, .ifCond .lt (103)), (16, .aload_n 0), (17, .iload 4), (19, .iconst 1), (20, .isub), (21, .invokestatic 9), (24, .lstore 5), (26, .aload_n 0), (27, .iload 4), (29, .invokestatic 9), (32, .lstore 7), (34, .lload 5), (36, .lload 7), (38, .invokestatic 68), (41, .lstore 9), (43, .lload 9), (45, .invokestatic 32), (48, .istore 11), (50, .lload 5), (52, .lload 7), (54, .lxor), (55, .lconst 0), (56, .lcmp), (57, .ifCond .ge (10)), (60, .iload 11), (62, .iconst 1), (63, .iadd), (64, .goto (5)), (67, .iload 11), (69, .istore 12), (71, .iload_n 3), (72, .iload 12), (74, .if_icmp .ge (31)), (77, .iload_n 2), (78, .iconst 1), (79, .if_icmp .ne (8)), (82, .iload 4), (84, .goto (20)), (87, .iload_n 3), (88, .iload 11), (90, .if_icmp .ge (12)), (93, .lload 9), (95, .iload_n 3), (96, .invokestatic 41), (99, .goto (5)), (102, .bipush (64)), (104, .ireturn), (105, .iload_n 3), (106, .iload 12), (108, .isub), (109, .istore_n 3), (110, .iinc 4 (1)), (113, .goto (-108)), (116, .new 49), (119, .dup), (120, .ldc 72), (122, .invokespecial 53), (125, .athrow)]
def T_li_cornerFact : hp_T := ("EdgeSweeps$Lines", K_li_cornerFact, fl_li, cl_li, ne_li, ex_li, it_li, lo_li)
theorem V_li_cornerFact : hp_val T_li_cornerFact Y_li_cornerFact := ⟨hp_okc_of (by decide +kernel), fv_li, cv_li, iv_li, lv_li, nv_li⟩
def K_li_cornersBetween : List (Nat × Instr) := [(0, .lload_n 0), (1, .lload_n 0), (2, .iconst 1), (3, .lshl), (4, .lxor), (5, .lload_n 2), (6, .lload_n 2), (7, .iconst 1), (8, .lshl), (9, .lxor), (10, .lor), (11, .lstore 4), (13, .lload_n 0), (14, .lload_n 2), (15, .lxor), (16, .lstore 6), (18, .lload 4), (20, .lload 6), (22, .lload 6), (24, .iconst 1), (25, .lshl), (26, .lor), (27, .land), (28, .lreturn)]
def T_li_cornersBetween : hp_T := ("EdgeSweeps$Lines", K_li_cornersBetween, fl_li, cl_li, ne_li, ex_li, it_li, lo_li)
theorem V_li_cornersBetween : hp_val T_li_cornersBetween Y_li_cornersBetween := ⟨hp_okc_of (by decide +kernel), fv_li, cv_li, iv_li, lv_li, nv_li⟩
def K_li_totalLength : List (Nat × Instr) := [(0, .iconst 0), (1, .istore_n 1), (2, .iconst 0), (3, .istore_n 2), (4, .iload_n 2), (5, .bipush (64)), (7, .if_icmp .gt (39)), (10, .aload_n 0), (11, .iload_n 2), (12, .invokestatic 9), (15, .lstore_n 3), (16, .iload_n 1), (17, .lload_n 3), (18, .aload_n 0), (19, .iload_n 2), (20, .iconst 1), (21, .isub), (22, .invokestatic 9), (25, .lxor), (26, .invokestatic 32), (29, .iadd), (30, .istore_n 1), (31, .iload_n 1), (32, .iconst 2), (33, .lload_n 3), (34, .invokestatic 38), (37, .imul), (38, .iadd), (39, .istore_n 1), (40, .iinc 2 (1)), (43, .goto (-39)), (46, .iload_n 1), (47, .ireturn)]
def T_li_totalLength : hp_T := ("EdgeSweeps$Lines", K_li_totalLength, fl_li, cl_li, ne_li, ex_li, it_li, lo_li)
theorem V_li_totalLength : hp_val T_li_totalLength Y_li_totalLength := ⟨hp_okc_of (by decide +kernel), fv_li, cv_li, iv_li, lv_li, nv_li⟩
def K_li_countLying : List (Nat × Instr) := [(0, .iconst 0), (1, .istore_n 1), (2, .iconst 0), (3, .istore_n 2), (4, .iload_n 2), (5, .bipush (64)), (7, .if_icmp .gt (20)), (10, .iload_n 1), (11, .aload_n 0), (12, .iload_n 2), (13, .invokestatic 29), (16, .invokestatic 32), (19, .iadd), (20, .istore_n 1), (21, .iinc 2 (1)), (24, .goto (-20)), (27, .iload_n 1), (28, .ireturn)]
def T_li_countLying : hp_T := ("EdgeSweeps$Lines", K_li_countLying, fl_li, cl_li, ne_li, ex_li, it_li, lo_li)
theorem V_li_countLying : hp_val T_li_countLying Y_li_countLying := ⟨hp_okc_of (by decide +kernel), fv_li, cv_li, iv_li, lv_li, nv_li⟩
def K_li_lyingStarts : List (Nat × Instr) := [(0, .aload_n 0), (1, .iload_n 1), (2, .invokestatic 17), (5, .invokestatic 22), (8, .aload_n 0), (9, .iload_n 1), (10, .invokestatic 26), (13, .invokestatic 22), (16, .lor), (17, .lreturn)]
def T_li_lyingStarts : hp_T := ("EdgeSweeps$Lines", K_li_lyingStarts, fl_li, cl_li, ne_li, ex_li, it_li, lo_li)
theorem V_li_lyingStarts : hp_val T_li_lyingStarts Y_li_lyingStarts := ⟨hp_okc_of (by decide +kernel), fv_li, cv_li, iv_li, lv_li, nv_li⟩
def K_li_areaAbove : List (Nat × Instr) := [(0, .aload_n 0), (1, .iload_n 1), (2, .invokestatic 9), (5, .aload_n 0), (6, .iload_n 1), (7, .iconst 1), (8, .isub), (9, .invokestatic 9), (12, .ldc2_w 15), (15, .lxor), (16, .land), (17, .lreturn)]
def T_li_areaAbove : hp_T := ("EdgeSweeps$Lines", K_li_areaAbove, fl_li, cl_li, ne_li, ex_li, it_li, lo_li)
theorem V_li_areaAbove : hp_val T_li_areaAbove Y_li_areaAbove := ⟨hp_okc_of (by decide +kernel), fv_li, cv_li, iv_li, lv_li, nv_li⟩
def K_li_areaBelow : List (Nat × Instr) := [(0, .aload_n 0), (1, .iload_n 1), (2, .iconst 1), (3, .isub), (4, .invokestatic 9), (7, .aload_n 0), (8, .iload_n 1), (9, .invokestatic 9), (12, .ldc2_w 15), (15, .lxor), (16, .land), (17, .lreturn)]
def T_li_areaBelow : hp_T := ("EdgeSweeps$Lines", K_li_areaBelow, fl_li, cl_li, ne_li, ex_li, it_li, lo_li)
theorem V_li_areaBelow : hp_val T_li_areaBelow Y_li_areaBelow := ⟨hp_okc_of (by decide +kernel), fv_li, cv_li, iv_li, lv_li, nv_li⟩
def K_li_lyingFact : List (Nat × Instr) := [(0, .iload_n 1), (1, .istore_n 3), (2, .iconst 0), (3, .istore 4), (5, .iload 4), (7, .bipush (64)), (9, .if_icmp .gt (53)), (12, .iload_n 3), (13, .ifCond .lt (49)), (16, .aload_n 0), (17, .iload 4), (19, .invokestatic 29), (22, .lstore 5), (24, .lload 5), (26, .invokestatic 32), (29, .istore 7), (31, .iload_n 3), (32, .iload 7), (34, .if_icmp .ge (17)), (37, .aload_n 0), (38, .iload 4), (40, .lload 5), (42, .iload_n 3), (43, .invokestatic 41), (46, .iload_n 2), (47, .invokestatic 45), (50, .ireturn), (51, .iload_n 3), (52, .iload 7), (54, .isub), (55, .istore_n 3), (56, .iinc 4 (1)), (59, .goto (-54)), (62, .new 49), (65, .dup), (66, .ldc 51), (68, .invokespecial 53), (71, .athrow)]
def T_li_lyingFact : hp_T := ("EdgeSweeps$Lines", K_li_lyingFact, fl_li, cl_li, ne_li, ex_li, it_li, lo_li)
theorem V_li_lyingFact : hp_val T_li_lyingFact Y_li_lyingFact := ⟨hp_okc_of (by decide +kernel), fv_li, cv_li, iv_li, lv_li, nv_li⟩
def K_li_lyingFactAt : List (Nat × Instr) := [(0, .aload_n 0), (1, .iload_n 1), (2, .invokestatic 17), (5, .lstore 4), (7, .lload 4), (9, .iload_n 2), (10, .lushr), (11, .lconst 1), (12, .land), (13, .lconst 0), (14, .lcmp), (15, .ifCond .eq (7)), (18, .iconst 1), (19, .goto (4)), (22, .iconst 0), (23, .istore 6), (25, .iload_n 3), (26, .tableswitch (67) 0 4 #[(34), (67), (36), (67), (56)]), (60, .iload_n 2), (61, .ireturn), (62, .iload 6), (64, .ifCond .eq (8)), (67, .lload 4), (69, .goto (8)), (72, .aload_n 0), (73, .iload_n 1), (74, .invokestatic 26), (77, .iload_n 2), (78, .invokestatic 56), (81, .ireturn), (82, .iload 6), (84, .ifCond .eq (7)), (87, .iconst 1), (88, .goto (4)), (91, .iconst (-1)), (92, .ireturn), (93, .iload_n 1), (94, .ireturn)]
def T_li_lyingFactAt : hp_T := ("EdgeSweeps$Lines", K_li_lyingFactAt, fl_li, cl_li, ne_li, ex_li, it_li, lo_li)
theorem V_li_lyingFactAt : hp_val T_li_lyingFactAt Y_li_lyingFactAt := ⟨hp_okc_of (by decide +kernel), fv_li, cv_li, iv_li, lv_li, nv_li⟩
def K_li_turnedFact : List (Nat × Instr) := [(0, .iload_n 0), (1, .tableswitch (39) 0 3 #[(31), (33), (35), (37)]), (32, .iconst 1), (33, .ireturn), (34, .iconst 0), (35, .ireturn), (36, .iconst 3), (37, .ireturn), (38, .iconst 2), (39, .ireturn), (40, .iload_n 0), (41, .ireturn)]
def T_li_turnedFact : hp_T := ("EdgeSweeps$Lines", K_li_turnedFact, fl_li, cl_li, ne_li, ex_li, it_li, lo_li)
theorem V_li_turnedFact : hp_val T_li_turnedFact Y_li_turnedFact := ⟨hp_okc_of (by decide +kernel), fv_li, cv_li, iv_li, lv_li, nv_li⟩
def K_li_boxFact : List (Nat × Instr) := [(0, .iload_n 1), (1, .istore_n 3), (2, .iconst 0), (3, .istore 4), (5, .iload 4), (7, .bipush (64)), (9, .if_icmp .ge (70)), (12, .iload_n 3), (13, .ifCond .lt (66)), (16, .aload_n 0), (17, .iload 4), (19, .laload), (20, .aload_n 0), (21, .iload 4), (23, .iconst 1), (24, .isub), (25, .invokestatic 9), (28, .lcmp), (29, .ifCond .eq (44)), (32, .aload_n 0), (33, .iload 4), (35, .laload), (36, .invokestatic 22), (39, .lstore 5), (41, .lload 5), (43, .invokestatic 32), (46, .istore 7), (48, .iload_n 3), (49, .iload 7), (51, .if_icmp .ge (17)), (54, .aload_n 0), (55, .iload 4), (57, .lload 5), (59, .iload_n 3), (60, .invokestatic 41), (63, .iload_n 2), (64, .invokestatic 59), (67, .ireturn), (68, .iload_n 3), (69, .iload 7), (71, .isub), (72, .istore_n 3), (73, .iinc 4 (1)), (76, .goto (-71)), (79, .new 49), (82, .dup), (83, .ldc 62), (85, .invokespecial 53), (88, .athrow)]
def T_li_boxFact : hp_T := ("EdgeSweeps$Lines", K_li_boxFact, fl_li, cl_li, ne_li, ex_li, it_li, lo_li)
theorem V_li_boxFact : hp_val T_li_boxFact Y_li_boxFact := ⟨hp_okc_of (by decide +kernel), fv_li, cv_li, iv_li, lv_li, nv_li⟩
def K_li_boxFactAt : List (Nat × Instr) := [(0, .iload_n 3), (1, .tableswitch (39) 0 2 #[(27), (29), (31)]), (28, .iload_n 2), (29, .ireturn), (30, .iload_n 1), (31, .ireturn), (32, .aload_n 0), (33, .iload_n 1), (34, .laload), (35, .iload_n 2), (36, .invokestatic 56), (39, .ireturn), (40, .aload_n 0), (41, .iload_n 1), (42, .invokestatic 64), (45, .ireturn)]
def T_li_boxFactAt : hp_T := ("EdgeSweeps$Lines", K_li_boxFactAt, fl_li, cl_li, ne_li, ex_li, it_li, lo_li)
theorem V_li_boxFactAt : hp_val T_li_boxFactAt Y_li_boxFactAt := ⟨hp_okc_of (by decide +kernel), fv_li, cv_li, iv_li, lv_li, nv_li⟩
def K_li_sameRowsEnd : List (Nat × Instr) := [(0, .iload_n 1), (1, .iconst 1), (2, .iadd), (3, .istore_n 2), (4, .iload_n 2), (5, .bipush (64)), (7, .if_icmp .ge (19)), (10, .aload_n 0), (11, .iload_n 2), (12, .laload), (13, .aload_n 0), (14, .iload_n 1), (15, .laload), (16, .lcmp), (17, .ifCond .ne (9)), (20, .iinc 2 (1)), (23, .goto (-19)), (26, .iload_n 2), (27, .ireturn)]
def T_li_sameRowsEnd : hp_T := ("EdgeSweeps$Lines", K_li_sameRowsEnd, fl_li, cl_li, ne_li, ex_li, it_li, lo_li)
theorem V_li_sameRowsEnd : hp_val T_li_sameRowsEnd Y_li_sameRowsEnd := ⟨hp_okc_of (by decide +kernel), fv_li, cv_li, iv_li, lv_li, nv_li⟩
end
section
/-! the tables of EdgeSweeps$Parts -/
def fl_pa : List (Nat × Nat × Nat) := [(9, 2, 0), (15, 2, 1), (19, 2, 2), (22, 2, 3), (25, 2, 4), (29, 2, 5), (32, 2, 6), (36, 2, 7)]
theorem fv_pa : ∀ q ∈ fl_pa, ∃ r0 : vw_C, classes[q.2.1]? = some r0 ∧ q.2.2 < r0.2.2 ∧ Jvm.Cond.fieldLink "EdgeSweeps$Parts" q.1 (r0.2.1 q.2.2).1 (r0.2.1 q.2.2).2.1 (r0.2.1 q.2.2).2.2.1 ∈ hp_Ts := List.forall_mem_cons.mpr ⟨⟨_, rfl, by decide, tm_in (List.mem_of_getElem? (i := 62) (by decide +kernel))⟩, List.forall_mem_cons.mpr ⟨⟨_, rfl, by decide, tm_in (List.mem_of_getElem? (i := 63) (by decide +kernel))⟩, List.forall_mem_cons.mpr ⟨⟨_, rfl, by decide, tm_in (List.mem_of_getElem? (i := 64) (by decide +kernel))⟩, List.forall_mem_cons.mpr ⟨⟨_, rfl, by decide, tm_in (List.mem_of_getElem? (i := 65) (by decide +kernel))⟩, List.forall_mem_cons.mpr ⟨⟨_, rfl, by decide, tm_in (List.mem_of_getElem? (i := 66) (by decide +kernel))⟩, List.forall_mem_cons.mpr ⟨⟨_, rfl, by decide, tm_in (List.mem_of_getElem? (i := 67) (by decide +kernel))⟩, List.forall_mem_cons.mpr ⟨⟨_, rfl, by decide, tm_in (List.mem_of_getElem? (i := 68) (by decide +kernel))⟩, List.forall_mem_cons.mpr ⟨⟨_, rfl, by decide, tm_in (List.mem_of_getElem? (i := 69) (by decide +kernel))⟩, (fun _ h => absurd h List.not_mem_nil)⟩⟩⟩⟩⟩⟩⟩⟩
def cl_pa : List (Nat × Nat × hp_Y) := [(3, 6, Y_es_init), (39, 2, Y_pa_cutRuns), (43, 2, Y_pa_joinRuns), (47, 0, Y_ro_countRuns), (53, 0, Y_jm_min), (59, 0, Y_ro_firstRun), (63, 0, Y_ro_widened), (67, 0, Y_pa_joinContact), (71, 0, Y_ro_starts), (74, 0, Y_jl_bitCount), (79, 0, Y_pa_join), (83, 0, Y_pa_headOf), (87, 0, Y_jm_max)]
theorem cv_pa_3 : hp_vcall "EdgeSweeps$Parts" 3 6 Y_es_init := ⟨tm_in (List.mem_of_getElem? (i := 61) (by decide +kernel)), tm_in (List.mem_of_getElem? (i := 23) (by decide +kernel)), tm_in (List.mem_of_getElem? (i := 24) (by decide +kernel))⟩
theorem cv_pa_39 : hp_vcall "EdgeSweeps$Parts" 39 2 Y_pa_cutRuns := ⟨cd_pa_cutRuns, tm_in (List.mem_of_getElem? (i := 333) (by decide +kernel)), tm_in (List.mem_of_getElem? (i := 335) (by decide +kernel)), ts_in (List.mem_of_getElem? (i := 8) (by decide +kernel)), tm_in (List.mem_of_getElem? (i := 3) (by decide +kernel)), ⟨by decide, by decide⟩, (by unfold hp_np; decide +kernel)⟩
theorem cv_pa_43 : hp_vcall "EdgeSweeps$Parts" 43 2 Y_pa_joinRuns := ⟨cd_pa_joinRuns, tm_in (List.mem_of_getElem? (i := 353) (by decide +kernel)), tm_in (List.mem_of_getElem? (i := 355) (by decide +kernel)), ts_in (List.mem_of_getElem? (i := 9) (by decide +kernel)), tm_in (List.mem_of_getElem? (i := 3) (by decide +kernel)), ⟨by decide, by decide⟩, (by unfold hp_np; decide +kernel)⟩
theorem cv_pa_47 : hp_vcall "EdgeSweeps$Parts" 47 0 Y_ro_countRuns := ⟨cd_ro_countRuns, tm_in (List.mem_of_getElem? (i := 337) (by decide +kernel)), tm_in (List.mem_of_getElem? (i := 338) (by decide +kernel)), tm_in (List.mem_of_getElem? (i := 13) (by decide +kernel)), ⟨by decide, by decide⟩, (by unfold hp_np; decide +kernel)⟩
theorem cv_pa_53 : hp_vcall "EdgeSweeps$Parts" 53 0 Y_jm_min := ⟨cd_jm_min, tm_in (List.mem_of_getElem? (i := 349) (by decide +kernel)), tm_in (List.mem_of_getElem? (i := 93) (by decide +kernel)), tm_in (List.mem_of_getElem? (i := 4) (by decide +kernel)), ⟨by decide, by decide⟩, (by unfold hp_np; decide +kernel)⟩
theorem cv_pa_59 : hp_vcall "EdgeSweeps$Parts" 59 0 Y_ro_firstRun := ⟨cd_ro_firstRun, tm_in (List.mem_of_getElem? (i := 350) (by decide +kernel)), tm_in (List.mem_of_getElem? (i := 351) (by decide +kernel)), tm_in (List.mem_of_getElem? (i := 13) (by decide +kernel)), ⟨by decide, by decide⟩, (by unfold hp_np; decide +kernel)⟩
theorem cv_pa_63 : hp_vcall "EdgeSweeps$Parts" 63 0 Y_ro_widened := ⟨cd_ro_widened, tm_in (List.mem_of_getElem? (i := 357) (by decide +kernel)), tm_in (List.mem_of_getElem? (i := 358) (by decide +kernel)), tm_in (List.mem_of_getElem? (i := 13) (by decide +kernel)), ⟨by decide, by decide⟩, (by unfold hp_np; decide +kernel)⟩
theorem cv_pa_67 : hp_vcall "EdgeSweeps$Parts" 67 0 Y_pa_joinContact := ⟨cd_pa_joinContact, tm_in (List.mem_of_getElem? (i := 361) (by decide +kernel)), tm_in (List.mem_of_getElem? (i := 362) (by decide +kernel)), tm_in (List.mem_of_getElem? (i := 3) (by decide +kernel)), ⟨by decide, by decide⟩, (by unfold hp_np; decide +kernel)⟩
theorem cv_pa_71 : hp_vcall "EdgeSweeps$Parts" 71 0 Y_ro_starts := ⟨cd_ro_starts, tm_in (List.mem_of_getElem? (i := 364) (by decide +kernel)), tm_in (List.mem_of_getElem? (i := 341) (by decide +kernel)), tm_in (List.mem_of_getElem? (i := 13) (by decide +kernel)), ⟨by decide, by decide⟩, (by unfold hp_np; decide +kernel)⟩
theorem cv_pa_74 : hp_vcall "EdgeSweeps$Parts" 74 0 Y_jl_bitCount := ⟨cd_jl_bitCount, tm_in (List.mem_of_getElem? (i := 365) (by decide +kernel)), tm_in (List.mem_of_getElem? (i := 344) (by decide +kernel)), tm_in (List.mem_of_getElem? (i := 14) (by decide +kernel)), ⟨by decide, by decide⟩, (by unfold hp_np; decide +kernel)⟩
theorem cv_pa_79 : hp_vcall "EdgeSweeps$Parts" 79 0 Y_pa_join := ⟨cd_pa_join, tm_in (List.mem_of_getElem? (i := 366) (by decide +kernel)), tm_in (List.mem_of_getElem? (i := 367) (by decide +kernel)), tm_in (List.mem_of_getElem? (i := 3) (by decide +kernel)), ⟨by decide, by decide⟩, (by unfold hp_np; decide +kernel)⟩
theorem cv_pa_83 : hp_vcall "EdgeSweeps$Parts" 83 0 Y_pa_headOf := ⟨cd_pa_headOf, tm_in (List.mem_of_getElem? (i := 369) (by decide +kernel)), tm_in (List.mem_of_getElem? (i := 370) (by decide +kernel)), tm_in (List.mem_of_getElem? (i := 3) (by decide +kernel)), ⟨by decide, by decide⟩, (by unfold hp_np; decide +kernel)⟩
theorem cv_pa_87 : hp_vcall "EdgeSweeps$Parts" 87 0 Y_jm_max := ⟨cd_jm_max, tm_in (List.mem_of_getElem? (i := 372) (by decide +kernel)), tm_in (List.mem_of_getElem? (i := 89) (by decide +kernel)), tm_in (List.mem_of_getElem? (i := 4) (by decide +kernel)), ⟨by decide, by decide⟩, (by unfold hp_np; decide +kernel)⟩
theorem cv_pa : ∀ q ∈ cl_pa, hp_vcall "EdgeSweeps$Parts" q.1 q.2.1 q.2.2 := List.forall_mem_cons.mpr ⟨cv_pa_3, List.forall_mem_cons.mpr ⟨cv_pa_39, List.forall_mem_cons.mpr ⟨cv_pa_43, List.forall_mem_cons.mpr ⟨cv_pa_47, List.forall_mem_cons.mpr ⟨cv_pa_53, List.forall_mem_cons.mpr ⟨cv_pa_59, List.forall_mem_cons.mpr ⟨cv_pa_63, List.forall_mem_cons.mpr ⟨cv_pa_67, List.forall_mem_cons.mpr ⟨cv_pa_71, List.forall_mem_cons.mpr ⟨cv_pa_74, List.forall_mem_cons.mpr ⟨cv_pa_79, List.forall_mem_cons.mpr ⟨cv_pa_83, List.forall_mem_cons.mpr ⟨cv_pa_87, (fun _ h => absurd h List.not_mem_nil)⟩⟩⟩⟩⟩⟩⟩⟩⟩⟩⟩⟩⟩
def it_pa : List (Nat × Int32) := []
theorem iv_pa : ∀ q ∈ it_pa, Jvm.Cond.constant "EdgeSweeps$Parts" q.1 q.2 ∈ hp_Ts := (fun _ h => absurd h List.not_mem_nil)
def lo_pa : List (Nat × Int64) := []
theorem lv_pa : ∀ q ∈ lo_pa, Jvm.Cond.constantLong "EdgeSweeps$Parts" q.1 q.2 ∈ hp_Ts := (fun _ h => absurd h List.not_mem_nil)
def ne_pa : List (Nat × Nat) := []
theorem nv_pa : ∀ q ∈ ne_pa, ∃ r0 : vw_C, classes[q.2]? = some r0 ∧ Jvm.Cond.classLink "EdgeSweeps$Parts" q.1 r0.1 ∈ hp_Ts := (fun _ h => absurd h List.not_mem_nil)
def ex_pa : List (Nat × Nat) := []
def K_pa_init : List (Nat × Instr) := [(0, .aload_n 0), (1, .invokespecial 3), (4, .aload_n 0), (5, .sipush (2048)), (8, .newarray .long), (10, .putfield 9), (13, .aload_n 0), (14, .sipush (2048)), (17, .newarray .int), (19, .putfield 15), (22, .aload_n 0), (23, .sipush (2048)), (26, .newarray .int), (28, .putfield 19), (31, .aload_n 0), (32, .sipush (2048)), (35, .newarray .int), (37, .putfield 22), (40, .aload_n 0), (41, .sipush (2048)), (44, .newarray .boolean), (46, .putfield 25), (49, .aload_n 0), (50, .bipush (65)), (52, .newarray .int), (54, .putfield 29), (57, .aload_n 0), (58, .iconst 0), (59, .putfield 32), (62, .aload_n 0), (63, .iconst 0), (64, .putfield 36), (67, .return_)]
def T_pa_init : hp_T := ("EdgeSweeps$Parts", K_pa_init, fl_pa, cl_pa, ne_pa, ex_pa, it_pa, lo_pa)
theorem V_pa_init : hp_val T_pa_init Y_pa_init := ⟨hp_okc_of (by decide +kernel), fv_pa, cv_pa, iv_pa, lv_pa, nv_pa⟩
def K_pa_findShapes : List (Nat × Instr) := [(0, .aload_n 0), (1, .aload_n 1), (2, .invokevirtual 39), (5, .aload_n 0), (6, .aload_n 1), (7, .aload_n 0), (8, .getfield 15), (11, .iconst 0), (12, .invokevirtual 43), (15, .aload_n 0), (16, .iconst 0), (17, .putfield 36), (20, .iconst 0), (21, .istore_n 2), (22, .iload_n 2), (23, .aload_n 0), (24, .getfield 32), (27, .if_icmp .ge (59)), (30, .aload_n 0), (31, .getfield 15), (34, .iload_n 2), (35, .iaload), (36, .iload_n 2), (37, .if_icmp .ne (26)), (40, .aload_n 0), (41, .getfield 22), (44, .iload_n 2), (45, .aload_n 0), (46, .getfield 36), (49, .iastore), (50, .aload_n 0), (51, .dup), (52, .getfield 36), (55, .iconst 1), (56, .iadd), (57, .putfield 36), (60, .goto (20)), (63, .aload_n 0), (64, .getfield 22), (67, .iload_n 2), (68, .aload_n 0), (69, .getfield 22), (72, .aload_n 0), (73, .getfield 15), (76, .iload_n 2), (77, .iaload), (78, .iaload), (79, .iastore), (80, .iinc 2 (1)), (83, .goto (-61)), (86, .return_)]
def T_pa_findShapes : hp_T := ("EdgeSweeps$Parts", K_pa_findShapes, fl_pa, cl_pa, ne_pa, ex_pa, it_pa, lo_pa)
theorem V_pa_findShapes : hp_val T_pa_findShapes Y_pa_findShapes := ⟨hp_okc_of (by decide +kernel), fv_pa, cv_pa, iv_pa, lv_pa, nv_pa⟩
def K_pa_cutRuns : List (Nat × Instr) := [(0, .aload_n 0), (1, .iconst 0), (2, .putfield 32), (5, .iconst 0), (6, .istore_n 2), (7, .iload_n 2), (8, .bipush (64)), (10, .if_icmp .ge (86)), (13, .aload_n 0), (14, .getfield 29), (17, .iload_n 2), (18, .aload_n 0), (19, .getfield 32), (22, .iastore), (23, .aload_n 1), (24, .iload_n 2), (25, .laload), (26, .lstore_n 3), (27, .aload_n 0), (28, .getfield 32), (31, .lload_n 3), (32, .invokestatic 47), (35, .iadd), (36, .sipush (2048)), (39, .invokestatic 53), (42, .istore 5), (44, .aload_n 0), (45, .getfield 32), (48, .istore 6), (50, .iload 6), (52, .iload 5), (54, .if_icmp .ge (30)), (57, .aload_n 0), (58, .getfield 9), (61, .iload 6), (63, .lload_n 3), (64, .invokestatic 59), (67, .lastore), (68, .lload_n 3), (69, .aload_n 0), (70, .getfield 9), (73, .iload 6), (75, .laload), (76, .lxor), (77, .lstore_n 3), (78, .iinc 6 (1)), (81, .goto (-31)), (84, .aload_n 0), (85, .iload 5), (87, .putfield 32), (90, .iinc 2 (1)), (93, .goto (-86)), (96, .aload_n 0), (97, .getfield 29), (100, .bipush (64)), (102, .aload_n 0), (103, .getfield 32), (106, .iastore), (107, .return_)]
def T_pa_cutRuns : hp_T := ("EdgeSweeps$Parts", K_pa_cutRuns, fl_pa, cl_pa, ne_pa, ex_pa, it_pa, lo_pa)
theorem V_pa_cutRuns : hp_val T_pa_cutRuns Y_pa_cutRuns := ⟨hp_okc_of (by decide +kernel), fv_pa, cv_pa, iv_pa, lv_pa, nv_pa⟩
def K_pa_joinRuns : List (Nat × Instr) := [(0, .iconst 0), (1, .istore 4), (3, .iload 4), (5, .aload_n 0), (6, .getfield 32), (9, .if_icmp .ge (15)), (12, .aload_n 2), (13, .iload 4), (15, .iload 4), (17, .iastore), (18, .iinc 4 (1)), (21, .goto (-18)), (24, .iconst 1), (25, .istore 4), (27, .iload 4), (29, .bipush (64)), (31, .if_icmp .ge (81)), (34, .aload_n 0), (35, .getfield 29), (38, .iload 4), (40, .iaload), (41, .istore 5), (43, .iload 5), (45, .aload_n 0), (46, .getfield 29), (49, .iload 4), (51, .iconst 1), (52, .iadd), (53, .iaload), (54, .if_icmp .ge (52)), (57, .aload_n 1), (58, .iload 4), (60, .iconst 1), (61, .isub), (62, .laload), (63, .aload_n 0), (64, .getfield 9), (67, .iload 5), (69, .laload), (70, .iload_n 3), (71, .invokestatic 63), (74, .land), (75, .lstore 6), (77, .lload 6), (79, .aload_n 1), (80, .iload 4), (82, .iconst 1), (83, .isub), (84, .laload), (85, .aload_n 0), (86, .getfield 29), (89, .iload 4), (91, .iconst 1), (92, .isub), (93, .iaload), (94, .iload 5), (96, .aload_n 2), (97, .invokestatic 67), (100, .iinc 5 (1)), (103, .goto (-60)), (106, .iinc 4 (1)), (109, .goto (-82)), (112, .iconst 0), (113, .istore 4), (115, .iload 4), (117, .aload_n 0), (118, .getfield 32), (121, .if_icmp .ge (19)), (124, .aload_n 2), (125, .iload 4), (127, .aload_n 2), (128, .aload_n 2), (129, .iload 4), (131, .iaload), (132, .iaload), (133, .iastore), (134, .iinc 4 (1)), (137, .goto (-22)), (140, .return_)]
def T_pa_joinRuns : hp_T := ("EdgeSweeps$Parts", K_pa_joinRuns, fl_pa, cl_pa, ne_pa, ex_pa, it_pa, lo_pa)
theorem V_pa_joinRuns : hp_val T_pa_joinRuns Y_pa_joinRuns := ⟨hp_okc_of (by decide +kernel), fv_pa, cv_pa, iv_pa, lv_pa, nv_pa⟩
def K_pa_joinContact : List (Nat × Instr) := [(0, .lload_n 0), (1, .invokestatic 71), (4, .lstore 7), (6, .lload 7), (8, .invokestatic 74), (11, .istore 9), (13, .iload 9), (15, .ifCond .le (59)), (18, .lload 7), (20, .lload 7), (22, .lneg), (23, .land), (24, .lstore 10), (26, .lload 10), (28, .lload 10), (30, .lconst 1), (31, .lsub), (32, .lor), (33, .lstore 12), (35, .lload_n 2), (36, .invokestatic 71), (39, .lload 12), (41, .land), (42, .invokestatic 74), (45, .istore 14), (47, .iload 4), (49, .iload 14), (51, .iadd), (52, .iconst 1), (53, .isub), (54, .iload 5), (56, .aload 6), (58, .invokestatic 79), (61, .lload 7), (63, .lload 10), (65, .lxor), (66, .lstore 7), (68, .iinc 9 (-1)), (71, .goto (-58)), (74, .return_)]
def T_pa_joinContact : hp_T := ("EdgeSweeps$Parts", K_pa_joinContact, fl_pa, cl_pa, ne_pa, ex_pa, it_pa, lo_pa)
theorem V_pa_joinContact : hp_val T_pa_joinContact Y_pa_joinContact := ⟨hp_okc_of (by decide +kernel), fv_pa, cv_pa, iv_pa, lv_pa, nv_pa⟩
def K_pa_join : List (Nat × Instr) := [(0, .iload_n 0), (1, .aload_n 2), (2, .invokestatic 83), (5, .istore_n 3), (6, .iload_n 1), (7, .aload_n 2), (8, .invokestatic 83), (11, .istore 4), (13, .aload_n 2), (14, .iload_n 3), (15, .iload 4), (17, .invokestatic 87), (20, .iload_n 3), (21, .iload 4), (23, .invokestatic 53), (26, .iastore), (27, .return_)]
def T_pa_join : hp_T := ("EdgeSweeps$Parts", K_pa_join, fl_pa, cl_pa, ne_pa, ex_pa, it_pa, lo_pa)
theorem V_pa_join : hp_val T_pa_join Y_pa_join := ⟨hp_okc_of (by decide +kernel), fv_pa, cv_pa, iv_pa, lv_pa, nv_pa⟩
def K_pa_headOf : List (Nat × Instr) := [(0, .iload_n 0), (1, .istore_n 2), (2, .iconst 0), (3, .istore_n 3), (4, .iload_n 3), (5, .sipush (2048)), (8, .if_icmp .ge (20)), (11, .aload_n 1), (12, .iload_n 2), (13, .iaload), (14, .iload_n 2), (15, .if_icmp .eq (13)), (18, .aload_n 1), (19, .iload_n 2), (20, .iaload), (21, .istore_n 2), (22, .iinc 3 (1)), (25, .goto (-21)), (28, .aload_n 1), (29, .iload_n 0), (30, .iload_n 2), (31, .iastore), (32, .iload_n 2), (33, .ireturn)]
def T_pa_headOf : hp_T := ("EdgeSweeps$Parts", K_pa_headOf, fl_pa, cl_pa, ne_pa, ex_pa, it_pa, lo_pa)
theorem V_pa_headOf : hp_val T_pa_headOf Y_pa_headOf := ⟨hp_okc_of (by decide +kernel), fv_pa, cv_pa, iv_pa, lv_pa, nv_pa⟩
def K_pa_markMeeting : List (Nat × Instr) := [(0, .iconst 0), (1, .istore_n 2), (2, .iload_n 2), (3, .aload_n 0), (4, .getfield 36), (7, .if_icmp .ge (16)), (10, .aload_n 0), (11, .getfield 25), (14, .iload_n 2), (15, .iconst 0), (16, .bastore), (17, .iinc 2 (1)), (20, .goto (-18)), (23, .iconst 0), (24, .istore_n 2), (25, .iload_n 2), (26, .bipush (64)), (28, .if_icmp .ge (61)), (31, .aload_n 0), (32, .getfield 29), (35, .iload_n 2), (36, .iaload), (37, .istore_n 3), (38, .iload_n 3), (39, .aload_n 0), (40, .getfield 29), (43, .iload_n 2), (44, .iconst 1), (45, .iadd), (46, .iaload), (47, .if_icmp .ge (36)), (50, .aload_n 0), (51, .getfield 9), (54, .iload_n 3), (55, .laload), (56, .aload_n 1), (57, .iload_n 2), (58, .laload), (59, .land), (60, .lconst 0), (61, .lcmp), (62, .ifCond .eq (15)), (65, .aload_n 0), (66, .getfield 25), (69, .aload_n 0), (70, .getfield 22), (73, .iload_n 3), (74, .iaload), (75, .iconst 1), (76, .bastore), (77, .iinc 3 (1)), (80, .goto (-42)), (83, .iinc 2 (1)), (86, .goto (-61)), (89, .return_)]
def T_pa_markMeeting : hp_T := ("EdgeSweeps$Parts", K_pa_markMeeting, fl_pa, cl_pa, ne_pa, ex_pa, it_pa, lo_pa)
theorem V_pa_markMeeting : hp_val T_pa_markMeeting Y_pa_markMeeting := ⟨hp_okc_of (by decide +kernel), fv_pa, cv_pa, iv_pa, lv_pa, nv_pa⟩
def K_pa_gather : List (Nat × Instr) := [(0, .iconst 0), (1, .istore_n 3), (2, .iload_n 3), (3, .bipush (64)), (5, .if_icmp .ge (69)), (8, .aload_n 2), (9, .iload_n 3), (10, .lconst 0), (11, .lastore), (12, .aload_n 0), (13, .getfield 29), (16, .iload_n 3), (17, .iaload), (18, .istore 4), (20, .iload 4), (22, .aload_n 0), (23, .getfield 29), (26, .iload_n 3), (27, .iconst 1), (28, .iadd), (29, .iaload), (30, .if_icmp .ge (38)), (33, .aload_n 0), (34, .getfield 25), (37, .aload_n 0), (38, .getfield 22), (41, .iload 4), (43, .iaload), (44, .baload), (45, .iload_n 1), (46, .if_icmp .ne (16)), (49, .aload_n 2), (50, .iload_n 3), (51, .dup2), (52, .laload), (53, .aload_n 0), (54, .getfield 9), (57, .iload 4), (59, .laload), (60, .lor), (61, .lastore), (62, .iinc 4 (1)), (65, .goto (-45)), (68, .iinc 3 (1)), (71, .goto (-69)), (74, .return_)]
def T_pa_gather : hp_T := ("EdgeSweeps$Parts", K_pa_gather, fl_pa, cl_pa, ne_pa, ex_pa, it_pa, lo_pa)
theorem V_pa_gather : hp_val T_pa_gather Y_pa_gather := ⟨hp_okc_of (by decide +kernel), fv_pa, cv_pa, iv_pa, lv_pa, nv_pa⟩
def K_pa_countShapes : List (Nat × Instr) := [(0, .aload_n 0), (1, .getfield 36), (4, .ireturn)]
def T_pa_countShapes : hp_T := ("EdgeSweeps$Parts", K_pa_countShapes, fl_pa, cl_pa, ne_pa, ex_pa, it_pa, lo_pa)
theorem V_pa_countShapes : hp_val T_pa_countShapes Y_pa_countShapes := ⟨hp_okc_of (by decide +kernel), fv_pa, cv_pa, iv_pa, lv_pa, nv_pa⟩
def K_pa_copyShape : List (Nat × Instr) := [(0, .iconst 0), (1, .istore_n 3), (2, .iload_n 3), (3, .bipush (64)), (5, .if_icmp .ge (64)), (8, .aload_n 2), (9, .iload_n 3), (10, .lconst 0), (11, .lastore), (12, .aload_n 0), (13, .getfield 29), (16, .iload_n 3), (17, .iaload), (18, .istore 4), (20, .iload 4), (22, .aload_n 0), (23, .getfield 29), (26, .iload_n 3), (27, .iconst 1), (28, .iadd), (29, .iaload), (30, .if_icmp .ge (33)), (33, .aload_n 0), (34, .getfield 22), (37, .iload 4), (39, .iaload), (40, .iload_n 1), (41, .if_icmp .ne (16)), (44, .aload_n 2), (45, .iload_n 3), (46, .dup2), (47, .laload), (48, .aload_n 0), (49, .getfield 9), (52, .iload 4), (54, .laload), (55, .lor), (56, .lastore), (57, .iinc 4 (1)), (60, .goto (-40)), (63, .iinc 3 (1)), (66, .goto (-64)), (69, .return_)]
def T_pa_copyShape : hp_T := ("EdgeSweeps$Parts", K_pa_copyShape, fl_pa, cl_pa, ne_pa, ex_pa, it_pa, lo_pa)
theorem V_pa_copyShape : hp_val T_pa_copyShape Y_pa_copyShape := ⟨hp_okc_of (by decide +kernel), fv_pa, cv_pa, iv_pa, lv_pa, nv_pa⟩
def K_pa_markedShape : List (Nat × Instr) := [(0, .iload_n 1), (1, .istore_n 2), (2, .iconst 0), (3, .istore_n 3), (4, .iload_n 3), (5, .aload_n 0), (6, .getfield 36), (9, .if_icmp .ge (27)), (12, .aload_n 0), (13, .getfield 25), (16, .iload_n 3), (17, .baload), (18, .ifCond .eq (12)), (21, .iload_n 2), (22, .ifCond .ne (5)), (25, .iload_n 3), (26, .ireturn), (27, .iinc 2 (-1)), (30, .iinc 3 (1)), (33, .goto (-29)), (36, .iconst (-1)), (37, .ireturn)]
def T_pa_markedShape : hp_T := ("EdgeSweeps$Parts", K_pa_markedShape, fl_pa, cl_pa, ne_pa, ex_pa, it_pa, lo_pa)
theorem V_pa_markedShape : hp_val T_pa_markedShape Y_pa_markedShape := ⟨hp_okc_of (by decide +kernel), fv_pa, cv_pa, iv_pa, lv_pa, nv_pa⟩
def K_pa_findNets : List (Nat × Instr) := [(0, .aload_n 0), (1, .aload_n 1), (2, .aload_n 0), (3, .getfield 19), (6, .iconst 1), (7, .invokevirtual 43), (10, .return_)]
def T_pa_findNets : hp_T := ("EdgeSweeps$Parts", K_pa_findNets, fl_pa, cl_pa, ne_pa, ex_pa, it_pa, lo_pa)
theorem V_pa_findNets : hp_val T_pa_findNets Y_pa_findNets := ⟨hp_okc_of (by decide +kernel), fv_pa, cv_pa, iv_pa, lv_pa, nv_pa⟩
def K_pa_countNets : List (Nat × Instr) := [(0, .iconst 0), (1, .istore_n 1), (2, .iconst 0), (3, .istore_n 2), (4, .iload_n 2), (5, .aload_n 0), (6, .getfield 32), (9, .if_icmp .ge (22)), (12, .aload_n 0), (13, .getfield 19), (16, .iload_n 2), (17, .iaload), (18, .iload_n 2), (19, .if_icmp .ne (6)), (22, .iinc 1 (1)), (25, .iinc 2 (1)), (28, .goto (-24)), (31, .iload_n 1), (32, .ireturn)]
def T_pa_countNets : hp_T := ("EdgeSweeps$Parts", K_pa_countNets, fl_pa, cl_pa, ne_pa, ex_pa, it_pa, lo_pa)
theorem V_pa_countNets : hp_val T_pa_countNets Y_pa_countNets := ⟨hp_okc_of (by decide +kernel), fv_pa, cv_pa, iv_pa, lv_pa, nv_pa⟩
def K_pa_leastOfNet : List (Nat × Instr) := [(0, .iconst 0), (1, .istore_n 2), (2, .iload_n 2), (3, .aload_n 0), (4, .getfield 32), (7, .if_icmp .ge (31)), (10, .aload_n 0), (11, .getfield 22), (14, .iload_n 2), (15, .iaload), (16, .iload_n 1), (17, .if_icmp .ne (15)), (20, .aload_n 0), (21, .getfield 22), (24, .aload_n 0), (25, .getfield 19), (28, .iload_n 2), (29, .iaload), (30, .iaload), (31, .ireturn), (32, .iinc 2 (1)), (35, .goto (-33)), (38, .iconst (-1)), (39, .ireturn)]
def T_pa_leastOfNet : hp_T := ("EdgeSweeps$Parts", K_pa_leastOfNet, fl_pa, cl_pa, ne_pa, ex_pa, it_pa, lo_pa)
theorem V_pa_leastOfNet : hp_val T_pa_leastOfNet Y_pa_leastOfNet := ⟨hp_okc_of (by decide +kernel), fv_pa, cv_pa, iv_pa, lv_pa, nv_pa⟩
end
section
/-! the tables of EdgeSweeps$Polygons -/
def fl_po : List (Nat × Nat × Nat) := [(9, 1, 0), (15, 1, 1), (19, 1, 2), (24, 1, 3), (27, 1, 4), (30, 1, 5)]
theorem fv_po : ∀ q ∈ fl_po, ∃ r0 : vw_C, classes[q.2.1]? = some r0 ∧ q.2.2 < r0.2.2 ∧ Jvm.Cond.fieldLink "EdgeSweeps$Polygons" q.1 (r0.2.1 q.2.2).1 (r0.2.1 q.2.2).2.1 (r0.2.1 q.2.2).2.2.1 ∈ hp_Ts := List.forall_mem_cons.mpr ⟨⟨_, rfl, by decide, tm_in (List.mem_of_getElem? (i := 33) (by decide +kernel))⟩, List.forall_mem_cons.mpr ⟨⟨_, rfl, by decide, tm_in (List.mem_of_getElem? (i := 34) (by decide +kernel))⟩, List.forall_mem_cons.mpr ⟨⟨_, rfl, by decide, tm_in (List.mem_of_getElem? (i := 35) (by decide +kernel))⟩, List.forall_mem_cons.mpr ⟨⟨_, rfl, by decide, tm_in (List.mem_of_getElem? (i := 36) (by decide +kernel))⟩, List.forall_mem_cons.mpr ⟨⟨_, rfl, by decide, tm_in (List.mem_of_getElem? (i := 37) (by decide +kernel))⟩, List.forall_mem_cons.mpr ⟨⟨_, rfl, by decide, tm_in (List.mem_of_getElem? (i := 38) (by decide +kernel))⟩, (fun _ h => absurd h List.not_mem_nil)⟩⟩⟩⟩⟩⟩
def cl_po : List (Nat × Nat × hp_Y) := [(3, 6, Y_es_init), (34, 2, Y_po_differInOne), (38, 0, Y_ja_fill), (44, 2, Y_po_isOpen), (48, 2, Y_po_paintOne), (52, 0, Y_ro_leftOf)]
theorem cv_po_3 : hp_vcall "EdgeSweeps$Polygons" 3 6 Y_es_init := ⟨tm_in (List.mem_of_getElem? (i := 30) (by decide +kernel)), tm_in (List.mem_of_getElem? (i := 23) (by decide +kernel)), tm_in (List.mem_of_getElem? (i := 24) (by decide +kernel))⟩
theorem cv_po_34 : hp_vcall "EdgeSweeps$Polygons" 34 2 Y_po_differInOne := ⟨cd_po_differInOne, tm_in (List.mem_of_getElem? (i := 278) (by decide +kernel)), tm_in (List.mem_of_getElem? (i := 280) (by decide +kernel)), ts_in (List.mem_of_getElem? (i := 2) (by decide +kernel)), tm_in (List.mem_of_getElem? (i := 2) (by decide +kernel)), ⟨by decide, by decide⟩, (by unfold hp_np; decide +kernel)⟩
theorem cv_po_38 : hp_vcall "EdgeSweeps$Polygons" 38 0 Y_ja_fill := ⟨cd_ja_fill, tm_in (List.mem_of_getElem? (i := 311) (by decide +kernel)), tm_in (List.mem_of_getElem? (i := 312) (by decide +kernel)), tm_in (List.mem_of_getElem? (i := 12) (by decide +kernel)), ⟨by decide, by decide⟩, (by unfold hp_np; decide +kernel)⟩
theorem cv_po_44 : hp_vcall "EdgeSweeps$Polygons" 44 2 Y_po_isOpen := ⟨cd_po_isOpen, tm_in (List.mem_of_getElem? (i := 314) (by decide +kernel)), tm_in (List.mem_of_getElem? (i := 316) (by decide +kernel)), ts_in (List.mem_of_getElem? (i := 6) (by decide +kernel)), tm_in (List.mem_of_getElem? (i := 2) (by decide +kernel)), ⟨by decide, by decide⟩, (by unfold hp_np; decide +kernel)⟩
theorem cv_po_48 : hp_vcall "EdgeSweeps$Polygons" 48 2 Y_po_paintOne := ⟨cd_po_paintOne, tm_in (List.mem_of_getElem? (i := 318) (by decide +kernel)), tm_in (List.mem_of_getElem? (i := 320) (by decide +kernel)), ts_in (List.mem_of_getElem? (i := 7) (by decide +kernel)), tm_in (List.mem_of_getElem? (i := 2) (by decide +kernel)), ⟨by decide, by decide⟩, (by unfold hp_np; decide +kernel)⟩
theorem cv_po_52 : hp_vcall "EdgeSweeps$Polygons" 52 0 Y_ro_leftOf := ⟨cd_ro_leftOf, tm_in (List.mem_of_getElem? (i := 322) (by decide +kernel)), tm_in (List.mem_of_getElem? (i := 323) (by decide +kernel)), tm_in (List.mem_of_getElem? (i := 13) (by decide +kernel)), ⟨by decide, by decide⟩, (by unfold hp_np; decide +kernel)⟩
theorem cv_po : ∀ q ∈ cl_po, hp_vcall "EdgeSweeps$Polygons" q.1 q.2.1 q.2.2 := List.forall_mem_cons.mpr ⟨cv_po_3, List.forall_mem_cons.mpr ⟨cv_po_34, List.forall_mem_cons.mpr ⟨cv_po_38, List.forall_mem_cons.mpr ⟨cv_po_44, List.forall_mem_cons.mpr ⟨cv_po_48, List.forall_mem_cons.mpr ⟨cv_po_52, (fun _ h => absurd h List.not_mem_nil)⟩⟩⟩⟩⟩⟩
def it_po : List (Nat × Int32) := []
theorem iv_po : ∀ q ∈ it_po, Jvm.Cond.constant "EdgeSweeps$Polygons" q.1 q.2 ∈ hp_Ts := (fun _ h => absurd h List.not_mem_nil)
def lo_po : List (Nat × Int64) := []
theorem lv_po : ∀ q ∈ lo_po, Jvm.Cond.constantLong "EdgeSweeps$Polygons" q.1 q.2 ∈ hp_Ts := (fun _ h => absurd h List.not_mem_nil)
def ne_po : List (Nat × Nat) := []
theorem nv_po : ∀ q ∈ ne_po, ∃ r0 : vw_C, classes[q.2]? = some r0 ∧ Jvm.Cond.classLink "EdgeSweeps$Polygons" q.1 r0.1 ∈ hp_Ts := (fun _ h => absurd h List.not_mem_nil)
def ex_po : List (Nat × Nat) := []
def K_po_init : List (Nat × Instr) := [(0, .aload_n 0), (1, .invokespecial 3), (4, .aload_n 0), (5, .iconst 0), (6, .putfield 9), (9, .aload_n 0), (10, .bipush (16)), (12, .newarray .int), (14, .putfield 15), (17, .aload_n 0), (18, .bipush (16)), (20, .newarray .int), (22, .putfield 19), (25, .aload_n 0), (26, .bipush (16)), (28, .bipush (16)), (30, .multianewarray 22 2), (34, .putfield 24), (37, .aload_n 0), (38, .bipush (16)), (40, .bipush (16)), (42, .multianewarray 22 2), (46, .putfield 27), (49, .aload_n 0), (50, .bipush (65)), (52, .newarray .long), (54, .putfield 30), (57, .return_)]
def T_po_init : hp_T := ("EdgeSweeps$Polygons", K_po_init, fl_po, cl_po, ne_po, ex_po, it_po, lo_po)
theorem V_po_init : hp_val T_po_init Y_po_init := ⟨hp_okc_of (by decide +kernel), fv_po, cv_po, iv_po, lv_po, nv_po⟩
def K_po_forget : List (Nat × Instr) := [(0, .aload_n 0), (1, .iconst 0), (2, .putfield 9), (5, .return_)]
def T_po_forget : hp_T := ("EdgeSweeps$Polygons", K_po_forget, fl_po, cl_po, ne_po, ex_po, it_po, lo_po)
theorem V_po_forget : hp_val T_po_forget Y_po_forget := ⟨hp_okc_of (by decide +kernel), fv_po, cv_po, iv_po, lv_po, nv_po⟩
def K_po_isFull : List (Nat × Instr) := [(0, .aload_n 0), (1, .getfield 9), (4, .bipush (16)), (6, .if_icmp .lt (7)), (9, .iconst 1), (10, .goto (4)), (13, .iconst 0), (14, .ireturn)]
def T_po_isFull : hp_T := ("EdgeSweeps$Polygons", K_po_isFull, fl_po, cl_po, ne_po, ex_po, it_po, lo_po)
theorem V_po_isFull : hp_val T_po_isFull Y_po_isFull := ⟨hp_okc_of (by decide +kernel), fv_po, cv_po, iv_po, lv_po, nv_po⟩
def K_po_start : List (Nat × Instr) := [(0, .aload_n 0), (1, .getfield 9), (4, .istore_n 2), (5, .aload_n 0), (6, .getfield 15), (9, .iload_n 2), (10, .iload_n 1), (11, .iastore), (12, .aload_n 0), (13, .getfield 19), (16, .iload_n 2), (17, .iconst 0), (18, .iastore), (19, .aload_n 0), (20, .dup), (21, .getfield 9), (24, .iconst 1), (25, .iadd), (26, .putfield 9), (29, .iload_n 2), (30, .ireturn)]
def T_po_start : hp_T := ("EdgeSweeps$Polygons", K_po_start, fl_po, cl_po, ne_po, ex_po, it_po, lo_po)
theorem V_po_start : hp_val T_po_start Y_po_start := ⟨hp_okc_of (by decide +kernel), fv_po, cv_po, iv_po, lv_po, nv_po⟩
def K_po_has : List (Nat × Instr) := [(0, .iload_n 1), (1, .ifCond .lt (15)), (4, .iload_n 1), (5, .aload_n 0), (6, .getfield 9), (9, .if_icmp .ge (7)), (12, .iconst 1), (13, .goto (4)), (16, .iconst 0), (17, .ireturn)]
def T_po_has : hp_T := ("EdgeSweeps$Polygons", K_po_has, fl_po, cl_po, ne_po, ex_po, it_po, lo_po)
theorem V_po_has : hp_val T_po_has Y_po_has := ⟨hp_okc_of (by decide +kernel), fv_po, cv_po, iv_po, lv_po, nv_po⟩
def K_po_hasAllCorners : List (Nat × Instr) := [(0, .aload_n 0), (1, .getfield 19), (4, .iload_n 1), (5, .iaload), (6, .bipush (16)), (8, .if_icmp .lt (7)), (11, .iconst 1), (12, .goto (4)), (15, .iconst 0), (16, .ireturn)]
def T_po_hasAllCorners : hp_T := ("EdgeSweeps$Polygons", K_po_hasAllCorners, fl_po, cl_po, ne_po, ex_po, it_po, lo_po)
theorem V_po_hasAllCorners : hp_val T_po_hasAllCorners Y_po_hasAllCorners := ⟨hp_okc_of (by decide +kernel), fv_po, cv_po, iv_po, lv_po, nv_po⟩
def K_po_extend : List (Nat × Instr) := [(0, .aload_n 0), (1, .getfield 19), (4, .iload_n 1), (5, .iaload), (6, .istore 4), (8, .iload 4), (10, .ifCond .le (19)), (13, .aload_n 0), (14, .iload_n 1), (15, .iload 4), (17, .iconst 1), (18, .isub), (19, .iload_n 2), (20, .iload_n 3), (21, .invokevirtual 34), (24, .ifCond .ne (5)), (27, .iconst 0), (28, .ireturn), (29, .aload_n 0), (30, .getfield 24), (33, .iload_n 1), (34, .aaload), (35, .iload 4), (37, .iload_n 2), (38, .iastore), (39, .aload_n 0), (40, .getfield 27), (43, .iload_n 1), (44, .aaload), (45, .iload 4), (47, .iload_n 3), (48, .iastore), (49, .aload_n 0), (50, .getfield 19), (53, .iload_n 1), (54, .iload 4), (56, .iconst 1), (57, .iadd), (58, .iastore), (59, .iconst 1), (60, .ireturn)]
def T_po_extend : hp_T := ("EdgeSweeps$Polygons", K_po_extend, fl_po, cl_po, ne_po, ex_po, it_po, lo_po)
theorem V_po_extend : hp_val T_po_extend Y_po_extend := ⟨hp_okc_of (by decide +kernel), fv_po, cv_po, iv_po, lv_po, nv_po⟩
def K_po_differInOne : List (Nat × Instr) := [(0, .aload_n 0), (1, .getfield 24), (4, .iload_n 1), (5, .aaload), (6, .iload_n 2), (7, .iaload), (8, .iload_n 3), (9, .if_icmp .eq (7)), (12, .iconst 1), (13, .goto (4)), (16, .iconst 0), (17, .aload_n 0), (18, .getfield 27), (21, .iload_n 1), (22, .aaload), (23, .iload_n 2), (24, .iaload), (25, .iload 4), (27, .if_icmp .eq (7)), (30, .iconst 1), (31, .goto (4)), (34, .iconst 0), (35, .if_icmp .eq (7)), (38, .iconst 1), (39, .goto (4)), (42, .iconst 0), (43, .ireturn)]
def T_po_differInOne : hp_T := ("EdgeSweeps$Polygons", K_po_differInOne, fl_po, cl_po, ne_po, ex_po, it_po, lo_po)
theorem V_po_differInOne : hp_val T_po_differInOne Y_po_differInOne := ⟨hp_okc_of (by decide +kernel), fv_po, cv_po, iv_po, lv_po, nv_po⟩
def K_po_paint : List (Nat × Instr) := [(0, .aload_n 2), (1, .lconst 0), (2, .invokestatic 38), (5, .iconst 0), (6, .istore_n 3), (7, .iload_n 3), (8, .aload_n 0), (9, .getfield 9), (12, .if_icmp .ge (33)), (15, .aload_n 0), (16, .getfield 15), (19, .iload_n 3), (20, .iaload), (21, .iload_n 1), (22, .if_icmp .ne (17)), (25, .aload_n 0), (26, .iload_n 3), (27, .invokevirtual 44), (30, .ifCond .ne (9)), (33, .aload_n 0), (34, .iload_n 3), (35, .aload_n 2), (36, .invokevirtual 48), (39, .iinc 3 (1)), (42, .goto (-35)), (45, .return_)]
def T_po_paint : hp_T := ("EdgeSweeps$Polygons", K_po_paint, fl_po, cl_po, ne_po, ex_po, it_po, lo_po)
theorem V_po_paint : hp_val T_po_paint Y_po_paint := ⟨hp_okc_of (by decide +kernel), fv_po, cv_po, iv_po, lv_po, nv_po⟩
def K_po_isOpen : List (Nat × Instr) := [(0, .aload_n 0), (1, .getfield 19), (4, .iload_n 1), (5, .iaload), (6, .iconst 1), (7, .isub), (8, .istore_n 2), (9, .iload_n 2), (10, .iconst 1), (11, .iadd), (12, .iconst 4), (13, .if_icmp .lt (28)), (16, .aload_n 0), (17, .iload_n 1), (18, .iconst 0), (19, .aload_n 0), (20, .getfield 24), (23, .iload_n 1), (24, .aaload), (25, .iload_n 2), (26, .iaload), (27, .aload_n 0), (28, .getfield 27), (31, .iload_n 1), (32, .aaload), (33, .iload_n 2), (34, .iaload), (35, .invokevirtual 34), (38, .ifCond .ne (7)), (41, .iconst 1), (42, .goto (4)), (45, .iconst 0), (46, .ireturn)]
def T_po_isOpen : hp_T := ("EdgeSweeps$Polygons", K_po_isOpen, fl_po, cl_po, ne_po, ex_po, it_po, lo_po)
theorem V_po_isOpen : hp_val T_po_isOpen Y_po_isOpen := ⟨hp_okc_of (by decide +kernel), fv_po, cv_po, iv_po, lv_po, nv_po⟩
def K_po_paintOne : List (Nat × Instr) := [(0, .aload_n 0), (1, .getfield 30), (4, .lconst 0), (5, .invokestatic 38), (8, .aload_n 0), (9, .getfield 19), (12, .iload_n 1), (13, .iaload), (14, .iconst 1), (15, .isub), (16, .istore_n 3), (17, .iconst 0), (18, .istore 4), (20, .iload 4), (22, .aload_n 0), (23, .getfield 19), (26, .iload_n 1), (27, .iaload), (28, .if_icmp .ge (79)), (31, .aload_n 0), (32, .getfield 24), (35, .iload_n 1), (36, .aaload), (37, .iload 4), (39, .iaload), (40, .istore 5), (42, .iload 5), (44, .aload_n 0), (45, .getfield 24), (48, .iload_n 1), (49, .aaload), (50, .iload_n 3), (51, .iaload), (52, .if_icmp .ne (46)), (55, .aload_n 0), (56, .getfield 30), (59, .aload_n 0), (60, .getfield 27), (63, .iload_n 1), (64, .aaload), (65, .iload_n 3), (66, .iaload), (67, .dup2), (68, .laload), (69, .iload 5), (71, .invokestatic 52), (74, .lxor), (75, .lastore), (76, .aload_n 0), (77, .getfield 30), (80, .aload_n 0), (81, .getfield 27), (84, .iload_n 1), (85, .aaload), (86, .iload 4), (88, .iaload), (89, .dup2), (90, .laload), (91, .iload 5), (93, .invokestatic 52), (96, .lxor), (97, .lastore), (98, .iload 4), (100, .istore_n 3), (101, .iinc 4 (1)), (104, .goto (-84)), (107, .lconst 0), (108, .lstore 4), (110, .iconst 0), (111, .istore 6), (113, .iload 6), (115, .bipush (64)), (117, .if_icmp .ge (30)), (120, .lload 4), (122, .aload_n 0), (123, .getfield 30), (126, .iload 6), (128, .laload), (129, .lxor), (130, .lstore 4), (132, .aload_n 2), (133, .iload 6), (135, .dup2), (136, .laload), (137, .lload 4), (139, .lor), (140, .lastore), (141, .iinc 6 (1)), (144, .goto (-31)), (147, .return_)]
def T_po_paintOne : hp_T := ("EdgeSweeps$Polygons", K_po_paintOne, fl_po, cl_po, ne_po, ex_po, it_po, lo_po)
theorem V_po_paintOne : hp_val T_po_paintOne Y_po_paintOne := ⟨hp_okc_of (by decide +kernel), fv_po, cv_po, iv_po, lv_po, nv_po⟩
end
section
/-! the tables of EdgeSweeps -/
def fl_es : List (Nat × Nat × Nat) := [(12, 0, 1), (18, 0, 2), (21, 0, 3), (25, 0, 4), (31, 0, 5), (35, 0, 6), (39, 0, 7), (42, 0, 8), (55, 0, 0)]
theorem fv_es : ∀ q ∈ fl_es, ∃ r0 : vw_C, classes[q.2.1]? = some r0 ∧ q.2.2 < r0.2.2 ∧ Jvm.Cond.fieldLink "EdgeSweeps" q.1 (r0.2.1 q.2.2).1 (r0.2.1 q.2.2).2.1 (r0.2.1 q.2.2).2.2.1 ∈ hp_Ts := List.forall_mem_cons.mpr ⟨⟨_, rfl, by decide, tm_in (List.mem_of_getElem? (i := 96) (by decide +kernel))⟩, List.forall_mem_cons.mpr ⟨⟨_, rfl, by decide, tm_in (List.mem_of_getElem? (i := 97) (by decide +kernel))⟩, List.forall_mem_cons.mpr ⟨⟨_, rfl, by decide, tm_in (List.mem_of_getElem? (i := 98) (by decide +kernel))⟩, List.forall_mem_cons.mpr ⟨⟨_, rfl, by decide, tm_in (List.mem_of_getElem? (i := 99) (by decide +kernel))⟩, List.forall_mem_cons.mpr ⟨⟨_, rfl, by decide, tm_in (List.mem_of_getElem? (i := 100) (by decide +kernel))⟩, List.forall_mem_cons.mpr ⟨⟨_, rfl, by decide, tm_in (List.mem_of_getElem? (i := 101) (by decide +kernel))⟩, List.forall_mem_cons.mpr ⟨⟨_, rfl, by decide, tm_in (List.mem_of_getElem? (i := 102) (by decide +kernel))⟩, List.forall_mem_cons.mpr ⟨⟨_, rfl, by decide, tm_in (List.mem_of_getElem? (i := 103) (by decide +kernel))⟩, List.forall_mem_cons.mpr ⟨⟨_, rfl, by decide, tm_in (List.mem_of_getElem? (i := 95) (by decide +kernel))⟩, (fun _ h => absurd h List.not_mem_nil)⟩⟩⟩⟩⟩⟩⟩⟩⟩
def cl_es : List (Nat × Nat × hp_Y) := [(3, 6, Y_es_init), (11, 5, Y_po_init), (30, 5, Y_pa_init), (45, 0, Y_jm_max), (52, 0, Y_jm_min), (58, 2, Y_es_isBase), (69, 2, Y_po_isFull), (78, 2, Y_po_start), (82, 2, Y_po_has), (87, 2, Y_po_hasAllCorners), (99, 2, Y_po_extend), (103, 2, Y_es_needLayer), (107, 2, Y_es_needRoomForLayer), (112, 2, Y_es_areaOf), (116, 0, Y_ro_complement), (122, 2, Y_pa_findShapes), (126, 2, Y_pa_markMeeting), (129, 2, Y_pa_gather), (133, 2, Y_es_markTouching), (136, 0, Y_es_combine), (140, 2, Y_es_addMade), (148, 0, Y_ro_resize), (152, 2, Y_pa_countShapes), (155, 0, Y_es_needIndex), (159, 2, Y_pa_copyShape), (163, 0, Y_li_cornerFact), (169, 0, Y_ro_row), (175, 0, Y_ro_countSquares), (179, 0, Y_li_totalLength), (184, 2, Y_pa_markedShape), (187, 2, Y_pa_findNets), (190, 2, Y_pa_countNets), (193, 2, Y_pa_leastOfNet), (198, 0, Y_li_countLying), (201, 0, Y_li_lyingFact), (204, 0, Y_ro_copy), (207, 0, Y_ro_turn), (210, 0, Y_li_turnedFact), (213, 0, Y_li_boxFact), (216, 2, Y_po_forget), (223, 2, Y_po_paint), (226, 0, Y_es_combineRow)]
theorem cv_es_3 : hp_vcall "EdgeSweeps" 3 6 Y_es_init := ⟨tm_in (List.mem_of_getElem? (i := 22) (by decide +kernel)), tm_in (List.mem_of_getElem? (i := 23) (by decide +kernel)), tm_in (List.mem_of_getElem? (i := 24) (by decide +kernel))⟩
theorem cv_es_11 : hp_vcall "EdgeSweeps" 11 5 Y_po_init := ⟨"EdgeSweeps", cd_po_init, rfl, rfl, tm_in (List.mem_of_getElem? (i := 27) (by decide +kernel)), tm_in (List.mem_of_getElem? (i := 28) (by decide +kernel)), rfl, tm_in (List.mem_of_getElem? (i := 2) (by decide +kernel)), ⟨by decide, by decide⟩, (by unfold hp_np; decide +kernel)⟩
theorem cv_es_30 : hp_vcall "EdgeSweeps" 30 5 Y_pa_init := ⟨"EdgeSweeps", cd_pa_init, rfl, rfl, tm_in (List.mem_of_getElem? (i := 58) (by decide +kernel)), tm_in (List.mem_of_getElem? (i := 59) (by decide +kernel)), rfl, tm_in (List.mem_of_getElem? (i := 3) (by decide +kernel)), ⟨by decide, by decide⟩, (by unfold hp_np; decide +kernel)⟩
theorem cv_es_45 : hp_vcall "EdgeSweeps" 45 0 Y_jm_max := ⟨cd_jm_max, tm_in (List.mem_of_getElem? (i := 88) (by decide +kernel)), tm_in (List.mem_of_getElem? (i := 89) (by decide +kernel)), tm_in (List.mem_of_getElem? (i := 4) (by decide +kernel)), ⟨by decide, by decide⟩, (by unfold hp_np; decide +kernel)⟩
theorem cv_es_52 : hp_vcall "EdgeSweeps" 52 0 Y_jm_min := ⟨cd_jm_min, tm_in (List.mem_of_getElem? (i := 92) (by decide +kernel)), tm_in (List.mem_of_getElem? (i := 93) (by decide +kernel)), tm_in (List.mem_of_getElem? (i := 4) (by decide +kernel)), ⟨by decide, by decide⟩, (by unfold hp_np; decide +kernel)⟩
theorem cv_es_58 : hp_vcall "EdgeSweeps" 58 2 Y_es_isBase := ⟨cd_es_isBase, tm_in (List.mem_of_getElem? (i := 143) (by decide +kernel)), tm_in (List.mem_of_getElem? (i := 145) (by decide +kernel)), ts_in (List.mem_of_getElem? (i := 0) (by decide +kernel)), tm_in (List.mem_of_getElem? (i := 1) (by decide +kernel)), ⟨by decide, by decide⟩, (by unfold hp_np; decide +kernel)⟩
theorem cv_es_69 : hp_vcall "EdgeSweeps" 69 2 Y_po_isFull := ⟨cd_po_isFull, tm_in (List.mem_of_getElem? (i := 215) (by decide +kernel)), tm_in (List.mem_of_getElem? (i := 216) (by decide +kernel)), tm_in (List.mem_of_getElem? (i := 217) (by decide +kernel)), tm_in (List.mem_of_getElem? (i := 2) (by decide +kernel)), ⟨by decide, by decide⟩, (by unfold hp_np; decide +kernel)⟩
theorem cv_es_78 : hp_vcall "EdgeSweeps" 78 2 Y_po_start := ⟨cd_po_start, tm_in (List.mem_of_getElem? (i := 235) (by decide +kernel)), tm_in (List.mem_of_getElem? (i := 236) (by decide +kernel)), tm_in (List.mem_of_getElem? (i := 237) (by decide +kernel)), tm_in (List.mem_of_getElem? (i := 2) (by decide +kernel)), ⟨by decide, by decide⟩, (by unfold hp_np; decide +kernel)⟩
theorem cv_es_82 : hp_vcall "EdgeSweeps" 82 2 Y_po_has := ⟨cd_po_has, tm_in (List.mem_of_getElem? (i := 247) (by decide +kernel)), tm_in (List.mem_of_getElem? (i := 248) (by decide +kernel)), tm_in (List.mem_of_getElem? (i := 249) (by decide +kernel)), tm_in (List.mem_of_getElem? (i := 2) (by decide +kernel)), ⟨by decide, by decide⟩, (by unfold hp_np; decide +kernel)⟩
theorem cv_es_87 : hp_vcall "EdgeSweeps" 87 2 Y_po_hasAllCorners := ⟨cd_po_hasAllCorners, tm_in (List.mem_of_getElem? (i := 252) (by decide +kernel)), tm_in (List.mem_of_getElem? (i := 253) (by decide +kernel)), tm_in (List.mem_of_getElem? (i := 254) (by decide +kernel)), tm_in (List.mem_of_getElem? (i := 2) (by decide +kernel)), ⟨by decide, by decide⟩, (by unfold hp_np; decide +kernel)⟩
theorem cv_es_99 : hp_vcall "EdgeSweeps" 99 2 Y_po_extend := ⟨cd_po_extend, tm_in (List.mem_of_getElem? (i := 274) (by decide +kernel)), tm_in (List.mem_of_getElem? (i := 275) (by decide +kernel)), tm_in (List.mem_of_getElem? (i := 276) (by decide +kernel)), tm_in (List.mem_of_getElem? (i := 2) (by decide +kernel)), ⟨by decide, by decide⟩, (by unfold hp_np; decide +kernel)⟩
theorem cv_es_103 : hp_vcall "EdgeSweeps" 103 2 Y_es_needLayer := ⟨cd_es_needLayer, tm_in (List.mem_of_getElem? (i := 289) (by decide +kernel)), tm_in (List.mem_of_getElem? (i := 291) (by decide +kernel)), ts_in (List.mem_of_getElem? (i := 3) (by decide +kernel)), tm_in (List.mem_of_getElem? (i := 1) (by decide +kernel)), ⟨by decide, by decide⟩, (by unfold hp_np; decide +kernel)⟩
theorem cv_es_107 : hp_vcall "EdgeSweeps" 107 2 Y_es_needRoomForLayer := ⟨cd_es_needRoomForLayer, tm_in (List.mem_of_getElem? (i := 297) (by decide +kernel)), tm_in (List.mem_of_getElem? (i := 299) (by decide +kernel)), ts_in (List.mem_of_getElem? (i := 4) (by decide +kernel)), tm_in (List.mem_of_getElem? (i := 1) (by decide +kernel)), ⟨by decide, by decide⟩, (by unfold hp_np; decide +kernel)⟩
theorem cv_es_112 : hp_vcall "EdgeSweeps" 112 2 Y_es_areaOf := ⟨cd_es_areaOf, tm_in (List.mem_of_getElem? (i := 303) (by decide +kernel)), tm_in (List.mem_of_getElem? (i := 305) (by decide +kernel)), ts_in (List.mem_of_getElem? (i := 5) (by decide +kernel)), tm_in (List.mem_of_getElem? (i := 1) (by decide +kernel)), ⟨by decide, by decide⟩, (by unfold hp_np; decide +kernel)⟩
theorem cv_es_116 : hp_vcall "EdgeSweeps" 116 0 Y_ro_complement := ⟨cd_ro_complement, tm_in (List.mem_of_getElem? (i := 326) (by decide +kernel)), tm_in (List.mem_of_getElem? (i := 327) (by decide +kernel)), tm_in (List.mem_of_getElem? (i := 13) (by decide +kernel)), ⟨by decide, by decide⟩, (by unfold hp_np; decide +kernel)⟩
theorem cv_es_122 : hp_vcall "EdgeSweeps" 122 2 Y_pa_findShapes := ⟨cd_pa_findShapes, tm_in (List.mem_of_getElem? (i := 329) (by decide +kernel)), tm_in (List.mem_of_getElem? (i := 330) (by decide +kernel)), tm_in (List.mem_of_getElem? (i := 331) (by decide +kernel)), tm_in (List.mem_of_getElem? (i := 3) (by decide +kernel)), ⟨by decide, by decide⟩, (by unfold hp_np; decide +kernel)⟩
theorem cv_es_126 : hp_vcall "EdgeSweeps" 126 2 Y_pa_markMeeting := ⟨cd_pa_markMeeting, tm_in (List.mem_of_getElem? (i := 373) (by decide +kernel)), tm_in (List.mem_of_getElem? (i := 374) (by decide +kernel)), tm_in (List.mem_of_getElem? (i := 375) (by decide +kernel)), tm_in (List.mem_of_getElem? (i := 3) (by decide +kernel)), ⟨by decide, by decide⟩, (by unfold hp_np; decide +kernel)⟩
theorem cv_es_129 : hp_vcall "EdgeSweeps" 129 2 Y_pa_gather := ⟨cd_pa_gather, tm_in (List.mem_of_getElem? (i := 377) (by decide +kernel)), tm_in (List.mem_of_getElem? (i := 378) (by decide +kernel)), tm_in (List.mem_of_getElem? (i := 379) (by decide +kernel)), tm_in (List.mem_of_getElem? (i := 3) (by decide +kernel)), ⟨by decide, by decide⟩, (by unfold hp_np; decide +kernel)⟩
theorem cv_es_133 : hp_vcall "EdgeSweeps" 133 2 Y_es_markTouching := ⟨cd_es_markTouching, tm_in (List.mem_of_getElem? (i := 381) (by decide +kernel)), tm_in (List.mem_of_getElem? (i := 383) (by decide +kernel)), ts_in (List.mem_of_getElem? (i := 10) (by decide +kernel)), tm_in (List.mem_of_getElem? (i := 1) (by decide +kernel)), ⟨by decide, by decide⟩, (by unfold hp_np; decide +kernel)⟩
theorem cv_es_136 : hp_vcall "EdgeSweeps" 136 0 Y_es_combine := ⟨cd_es_combine, tm_in (List.mem_of_getElem? (i := 405) (by decide +kernel)), tm_in (List.mem_of_getElem? (i := 406) (by decide +kernel)), tm_in (List.mem_of_getElem? (i := 1) (by decide +kernel)), ⟨by decide, by decide⟩, (by unfold hp_np; decide +kernel)⟩
theorem cv_es_140 : hp_vcall "EdgeSweeps" 140 2 Y_es_addMade := ⟨cd_es_addMade, tm_in (List.mem_of_getElem? (i := 412) (by decide +kernel)), tm_in (List.mem_of_getElem? (i := 414) (by decide +kernel)), ts_in (List.mem_of_getElem? (i := 11) (by decide +kernel)), tm_in (List.mem_of_getElem? (i := 1) (by decide +kernel)), ⟨by decide, by decide⟩, (by unfold hp_np; decide +kernel)⟩
theorem cv_es_148 : hp_vcall "EdgeSweeps" 148 0 Y_ro_resize := ⟨cd_ro_resize, tm_in (List.mem_of_getElem? (i := 385) (by decide +kernel)), tm_in (List.mem_of_getElem? (i := 386) (by decide +kernel)), tm_in (List.mem_of_getElem? (i := 13) (by decide +kernel)), ⟨by decide, by decide⟩, (by unfold hp_np; decide +kernel)⟩
theorem cv_es_152 : hp_vcall "EdgeSweeps" 152 2 Y_pa_countShapes := ⟨cd_pa_countShapes, tm_in (List.mem_of_getElem? (i := 432) (by decide +kernel)), tm_in (List.mem_of_getElem? (i := 433) (by decide +kernel)), tm_in (List.mem_of_getElem? (i := 434) (by decide +kernel)), tm_in (List.mem_of_getElem? (i := 3) (by decide +kernel)), ⟨by decide, by decide⟩, (by unfold hp_np; decide +kernel)⟩
theorem cv_es_155 : hp_vcall "EdgeSweeps" 155 0 Y_es_needIndex := ⟨cd_es_needIndex, tm_in (List.mem_of_getElem? (i := 293) (by decide +kernel)), tm_in (List.mem_of_getElem? (i := 294) (by decide +kernel)), tm_in (List.mem_of_getElem? (i := 1) (by decide +kernel)), ⟨by decide, by decide⟩, (by unfold hp_np; decide +kernel)⟩
theorem cv_es_159 : hp_vcall "EdgeSweeps" 159 2 Y_pa_copyShape := ⟨cd_pa_copyShape, tm_in (List.mem_of_getElem? (i := 443) (by decide +kernel)), tm_in (List.mem_of_getElem? (i := 444) (by decide +kernel)), tm_in (List.mem_of_getElem? (i := 445) (by decide +kernel)), tm_in (List.mem_of_getElem? (i := 3) (by decide +kernel)), ⟨by decide, by decide⟩, (by unfold hp_np; decide +kernel)⟩
theorem cv_es_163 : hp_vcall "EdgeSweeps" 163 0 Y_li_cornerFact := ⟨cd_li_cornerFact, tm_in (List.mem_of_getElem? (i := 447) (by decide +kernel)), tm_in (List.mem_of_getElem? (i := 448) (by decide +kernel)), tm_in (List.mem_of_getElem? (i := 16) (by decide +kernel)), ⟨by decide, by decide⟩, (by unfold hp_np; decide +kernel)⟩
theorem cv_es_169 : hp_vcall "EdgeSweeps" 169 0 Y_ro_row := ⟨cd_ro_row, tm_in (List.mem_of_getElem? (i := 473) (by decide +kernel)), tm_in (List.mem_of_getElem? (i := 451) (by decide +kernel)), tm_in (List.mem_of_getElem? (i := 13) (by decide +kernel)), ⟨by decide, by decide⟩, (by unfold hp_np; decide +kernel)⟩
theorem cv_es_175 : hp_vcall "EdgeSweeps" 175 0 Y_ro_countSquares := ⟨cd_ro_countSquares, tm_in (List.mem_of_getElem? (i := 482) (by decide +kernel)), tm_in (List.mem_of_getElem? (i := 483) (by decide +kernel)), tm_in (List.mem_of_getElem? (i := 13) (by decide +kernel)), ⟨by decide, by decide⟩, (by unfold hp_np; decide +kernel)⟩
theorem cv_es_179 : hp_vcall "EdgeSweeps" 179 0 Y_li_totalLength := ⟨cd_li_totalLength, tm_in (List.mem_of_getElem? (i := 485) (by decide +kernel)), tm_in (List.mem_of_getElem? (i := 486) (by decide +kernel)), tm_in (List.mem_of_getElem? (i := 16) (by decide +kernel)), ⟨by decide, by decide⟩, (by unfold hp_np; decide +kernel)⟩
theorem cv_es_184 : hp_vcall "EdgeSweeps" 184 2 Y_pa_markedShape := ⟨cd_pa_markedShape, tm_in (List.mem_of_getElem? (i := 497) (by decide +kernel)), tm_in (List.mem_of_getElem? (i := 498) (by decide +kernel)), tm_in (List.mem_of_getElem? (i := 499) (by decide +kernel)), tm_in (List.mem_of_getElem? (i := 3) (by decide +kernel)), ⟨by decide, by decide⟩, (by unfold hp_np; decide +kernel)⟩
theorem cv_es_187 : hp_vcall "EdgeSweeps" 187 2 Y_pa_findNets := ⟨cd_pa_findNets, tm_in (List.mem_of_getElem? (i := 508) (by decide +kernel)), tm_in (List.mem_of_getElem? (i := 509) (by decide +kernel)), tm_in (List.mem_of_getElem? (i := 510) (by decide +kernel)), tm_in (List.mem_of_getElem? (i := 3) (by decide +kernel)), ⟨by decide, by decide⟩, (by unfold hp_np; decide +kernel)⟩
theorem cv_es_190 : hp_vcall "EdgeSweeps" 190 2 Y_pa_countNets := ⟨cd_pa_countNets, tm_in (List.mem_of_getElem? (i := 512) (by decide +kernel)), tm_in (List.mem_of_getElem? (i := 513) (by decide +kernel)), tm_in (List.mem_of_getElem? (i := 514) (by decide +kernel)), tm_in (List.mem_of_getElem? (i := 3) (by decide +kernel)), ⟨by decide, by decide⟩, (by unfold hp_np; decide +kernel)⟩
theorem cv_es_193 : hp_vcall "EdgeSweeps" 193 2 Y_pa_leastOfNet := ⟨cd_pa_leastOfNet, tm_in (List.mem_of_getElem? (i := 523) (by decide +kernel)), tm_in (List.mem_of_getElem? (i := 524) (by decide +kernel)), tm_in (List.mem_of_getElem? (i := 525) (by decide +kernel)), tm_in (List.mem_of_getElem? (i := 3) (by decide +kernel)), ⟨by decide, by decide⟩, (by unfold hp_np; decide +kernel)⟩
theorem cv_es_198 : hp_vcall "EdgeSweeps" 198 0 Y_li_countLying := ⟨cd_li_countLying, tm_in (List.mem_of_getElem? (i := 542) (by decide +kernel)), tm_in (List.mem_of_getElem? (i := 543) (by decide +kernel)), tm_in (List.mem_of_getElem? (i := 16) (by decide +kernel)), ⟨by decide, by decide⟩, (by unfold hp_np; decide +kernel)⟩
theorem cv_es_201 : hp_vcall "EdgeSweeps" 201 0 Y_li_lyingFact := ⟨cd_li_lyingFact, tm_in (List.mem_of_getElem? (i := 556) (by decide +kernel)), tm_in (List.mem_of_getElem? (i := 557) (by decide +kernel)), tm_in (List.mem_of_getElem? (i := 16) (by decide +kernel)), ⟨by decide, by decide⟩, (by unfold hp_np; decide +kernel)⟩
theorem cv_es_204 : hp_vcall "EdgeSweeps" 204 0 Y_ro_copy := ⟨cd_ro_copy, tm_in (List.mem_of_getElem? (i := 566) (by decide +kernel)), tm_in (List.mem_of_getElem? (i := 389) (by decide +kernel)), tm_in (List.mem_of_getElem? (i := 13) (by decide +kernel)), ⟨by decide, by decide⟩, (by unfold hp_np; decide +kernel)⟩
theorem cv_es_207 : hp_vcall "EdgeSweeps" 207 0 Y_ro_turn := ⟨cd_ro_turn, tm_in (List.mem_of_getElem? (i := 567) (by decide +kernel)), tm_in (List.mem_of_getElem? (i := 402) (by decide +kernel)), tm_in (List.mem_of_getElem? (i := 13) (by decide +kernel)), ⟨by decide, by decide⟩, (by unfold hp_np; decide +kernel)⟩
theorem cv_es_210 : hp_vcall "EdgeSweeps" 210 0 Y_li_turnedFact := ⟨cd_li_turnedFact, tm_in (List.mem_of_getElem? (i := 568) (by decide +kernel)), tm_in (List.mem_of_getElem? (i := 569) (by decide +kernel)), tm_in (List.mem_of_getElem? (i := 16) (by decide +kernel)), ⟨by decide, by decide⟩, (by unfold hp_np; decide +kernel)⟩
theorem cv_es_213 : hp_vcall "EdgeSweeps" 213 0 Y_li_boxFact := ⟨cd_li_boxFact, tm_in (List.mem_of_getElem? (i := 578) (by decide +kernel)), tm_in (List.mem_of_getElem? (i := 579) (by decide +kernel)), tm_in (List.mem_of_getElem? (i := 16) (by decide +kernel)), ⟨by decide, by decide⟩, (by unfold hp_np; decide +kernel)⟩
theorem cv_es_216 : hp_vcall "EdgeSweeps" 216 2 Y_po_forget := ⟨cd_po_forget, tm_in (List.mem_of_getElem? (i := 127) (by decide +kernel)), tm_in (List.mem_of_getElem? (i := 128) (by decide +kernel)), tm_in (List.mem_of_getElem? (i := 129) (by decide +kernel)), tm_in (List.mem_of_getElem? (i := 2) (by decide +kernel)), ⟨by decide, by decide⟩, (by unfold hp_np; decide +kernel)⟩
theorem cv_es_223 : hp_vcall "EdgeSweeps" 223 2 Y_po_paint := ⟨cd_po_paint, tm_in (List.mem_of_getElem? (i := 307) (by decide +kernel)), tm_in (List.mem_of_getElem? (i := 308) (by decide +kernel)), tm_in (List.mem_of_getElem? (i := 309) (by decide +kernel)), tm_in (List.mem_of_getElem? (i := 2) (by decide +kernel)), ⟨by decide, by decide⟩, (by unfold hp_np; decide +kernel)⟩
theorem cv_es_226 : hp_vcall "EdgeSweeps" 226 0 Y_es_combineRow := ⟨cd_es_combineRow, tm_in (List.mem_of_getElem? (i := 408) (by decide +kernel)), tm_in (List.mem_of_getElem? (i := 409) (by decide +kernel)), tm_in (List.mem_of_getElem? (i := 1) (by decide +kernel)), ⟨by decide, by decide⟩, (by unfold hp_np; decide +kernel)⟩
theorem cv_es : ∀ q ∈ cl_es, hp_vcall "EdgeSweeps" q.1 q.2.1 q.2.2 := List.forall_mem_cons.mpr ⟨cv_es_3, List.forall_mem_cons.mpr ⟨cv_es_11, List.forall_mem_cons.mpr ⟨cv_es_30, List.forall_mem_cons.mpr ⟨cv_es_45, List.forall_mem_cons.mpr ⟨cv_es_52, List.forall_mem_cons.mpr ⟨cv_es_58, List.forall_mem_cons.mpr ⟨cv_es_69, List.forall_mem_cons.mpr ⟨cv_es_78, List.forall_mem_cons.mpr ⟨cv_es_82, List.forall_mem_cons.mpr ⟨cv_es_87, List.forall_mem_cons.mpr ⟨cv_es_99, List.forall_mem_cons.mpr ⟨cv_es_103, List.forall_mem_cons.mpr ⟨cv_es_107, List.forall_mem_cons.mpr ⟨cv_es_112, List.forall_mem_cons.mpr ⟨cv_es_116, List.forall_mem_cons.mpr ⟨cv_es_122, List.forall_mem_cons.mpr ⟨cv_es_126, List.forall_mem_cons.mpr ⟨cv_es_129, List.forall_mem_cons.mpr ⟨cv_es_133, List.forall_mem_cons.mpr ⟨cv_es_136, List.forall_mem_cons.mpr ⟨cv_es_140, List.forall_mem_cons.mpr ⟨cv_es_148, List.forall_mem_cons.mpr ⟨cv_es_152, List.forall_mem_cons.mpr ⟨cv_es_155, List.forall_mem_cons.mpr ⟨cv_es_159, List.forall_mem_cons.mpr ⟨cv_es_163, List.forall_mem_cons.mpr ⟨cv_es_169, List.forall_mem_cons.mpr ⟨cv_es_175, List.forall_mem_cons.mpr ⟨cv_es_179, List.forall_mem_cons.mpr ⟨cv_es_184, List.forall_mem_cons.mpr ⟨cv_es_187, List.forall_mem_cons.mpr ⟨cv_es_190, List.forall_mem_cons.mpr ⟨cv_es_193, List.forall_mem_cons.mpr ⟨cv_es_198, List.forall_mem_cons.mpr ⟨cv_es_201, List.forall_mem_cons.mpr ⟨cv_es_204, List.forall_mem_cons.mpr ⟨cv_es_207, List.forall_mem_cons.mpr ⟨cv_es_210, List.forall_mem_cons.mpr ⟨cv_es_213, List.forall_mem_cons.mpr ⟨cv_es_216, List.forall_mem_cons.mpr ⟨cv_es_223, List.forall_mem_cons.mpr ⟨cv_es_226, (fun _ h => absurd h List.not_mem_nil)⟩⟩⟩⟩⟩⟩⟩⟩⟩⟩⟩⟩⟩⟩⟩⟩⟩⟩⟩⟩⟩⟩⟩⟩⟩⟩⟩⟩⟩⟩⟩⟩⟩⟩⟩⟩⟩⟩⟩⟩⟩⟩
def it_es : List (Nat × Int32) := [(51, 65536)]
theorem iv_es : ∀ q ∈ it_es, Jvm.Cond.constant "EdgeSweeps" q.1 q.2 ∈ hp_Ts := List.forall_mem_cons.mpr ⟨tm_in (List.mem_of_getElem? (i := 91) (by decide +kernel)), (fun _ h => absurd h List.not_mem_nil)⟩
def lo_es : List (Nat × Int64) := [(92, 64), (144, -64), (173, 2), (230, -1)]
theorem lv_es : ∀ q ∈ lo_es, Jvm.Cond.constantLong "EdgeSweeps" q.1 q.2 ∈ hp_Ts := List.forall_mem_cons.mpr ⟨tm_in (List.mem_of_getElem? (i := 257) (by decide +kernel)), List.forall_mem_cons.mpr ⟨tm_in (List.mem_of_getElem? (i := 423) (by decide +kernel)), List.forall_mem_cons.mpr ⟨tm_in (List.mem_of_getElem? (i := 481) (by decide +kernel)), List.forall_mem_cons.mpr ⟨tm_in (List.mem_of_getElem? (i := 411) (by decide +kernel)), (fun _ h => absurd h List.not_mem_nil)⟩⟩⟩⟩
def ne_es : List (Nat × Nat) := [(9, 1), (28, 2)]
theorem nv_es : ∀ q ∈ ne_es, ∃ r0 : vw_C, classes[q.2]? = some r0 ∧ Jvm.Cond.classLink "EdgeSweeps" q.1 r0.1 ∈ hp_Ts := List.forall_mem_cons.mpr ⟨⟨_, rfl, tm_in (List.mem_of_getElem? (i := 25) (by decide +kernel))⟩, List.forall_mem_cons.mpr ⟨⟨_, rfl, tm_in (List.mem_of_getElem? (i := 56) (by decide +kernel))⟩, (fun _ h => absurd h List.not_mem_nil)⟩⟩
def ex_es : List (Nat × Nat) := [(62, 0), (73, 1), (94, 2)]
def K_es_init : List (Nat × Instr) := [(0, .aload_n 0), (1, .invokespecial 3), (4, .aload_n 0), (5, .new 9), (8, .dup), (9, .invokespecial 11), (12, .putfield 12), (15, .aload_n 0), (16, .bipush (24)), (18, .bipush (64)), (20, .multianewarray 16 2), (24, .putfield 18), (27, .aload_n 0), (28, .iconst 0), (29, .putfield 21), (32, .aload_n 0), (33, .iconst 1), (34, .putfield 25), (37, .aload_n 0), (38, .new 28), (41, .dup), (42, .invokespecial 30), (45, .putfield 31), (48, .aload_n 0), (49, .bipush (64)), (51, .newarray .long), (53, .putfield 35), (56, .aload_n 0), (57, .bipush (64)), (59, .newarray .long), (61, .putfield 39), (64, .aload_n 0), (65, .bipush (64)), (67, .newarray .long), (69, .putfield 42), (72, .aload_n 0), (73, .iload_n 1), (74, .iconst 1), (75, .invokestatic 45), (78, .ldc 51), (80, .invokestatic 52), (83, .putfield 55), (86, .return_)]
def T_es_init : hp_T := ("EdgeSweeps", K_es_init, fl_es, cl_es, ne_es, ex_es, it_es, lo_es)
theorem V_es_init : hp_val T_es_init Y_es_init := ⟨hp_okc_of (by decide +kernel), fv_es, cv_es, iv_es, lv_es, nv_es⟩
def K_es_clear : List (Nat × Instr) := [(0, .aload_n 0), (1, .getfield 12), (4, .invokevirtual 216), (7, .aload_n 0), (8, .iconst 0), (9, .putfield 21), (12, .return_)]
def T_es_clear : hp_T := ("EdgeSweeps", K_es_clear, fl_es, cl_es, ne_es, ex_es, it_es, lo_es)
theorem V_es_clear : hp_val T_es_clear Y_es_clear := ⟨hp_okc_of (by decide +kernel), fv_es, cv_es, iv_es, lv_es, nv_es⟩
def K_es_polygon : List (Nat × Instr) := [(0, .aload_n 0), (1, .iload_n 1), (2, .invokevirtual 58), (5, .ifCond .ne (13)), (8, .new 62), (11, .dup), (12, .ldc 64), (14, .invokespecial 66), (17, .athrow), (18, .aload_n 0), (19, .getfield 12), (22, .invokevirtual 69), (25, .ifCond .eq (13)), (28, .new 73), (31, .dup), (32, .ldc 75), (34, .invokespecial 77), (37, .athrow), (38, .aload_n 0), (39, .getfield 12), (42, .iload_n 1), (43, .invokevirtual 78), (46, .ireturn)]
def T_es_polygon : hp_T := ("EdgeSweeps", K_es_polygon, fl_es, cl_es, ne_es, ex_es, it_es, lo_es)
theorem V_es_polygon : hp_val T_es_polygon Y_es_polygon := ⟨hp_okc_of (by decide +kernel), fv_es, cv_es, iv_es, lv_es, nv_es⟩
def K_es_isBase : List (Nat × Instr) := [(0, .iload_n 1), (1, .ifCond .lt (15)), (4, .iload_n 1), (5, .aload_n 0), (6, .getfield 55), (9, .if_icmp .ge (7)), (12, .iconst 1), (13, .goto (4)), (16, .iconst 0), (17, .ireturn)]
def T_es_isBase : hp_T := ("EdgeSweeps", K_es_isBase, fl_es, cl_es, ne_es, ex_es, it_es, lo_es)
theorem V_es_isBase : hp_val T_es_isBase Y_es_isBase := ⟨hp_okc_of (by decide +kernel), fv_es, cv_es, iv_es, lv_es, nv_es⟩
def K_es_corner : List (Nat × Instr) := [(0, .aload_n 0), (1, .getfield 12), (4, .iload_n 1), (5, .invokevirtual 82), (8, .ifCond .ne (13)), (11, .new 62), (14, .dup), (15, .ldc 85), (17, .invokespecial 66), (20, .athrow), (21, .aload_n 0), (22, .getfield 12), (25, .iload_n 1), (26, .invokevirtual 87), (29, .ifCond .eq (13)), (32, .new 73), (35, .dup), (36, .ldc 90), (38, .invokespecial 77), (41, .athrow), (42, .lload_n 2), (43, .lconst 0), (44, .lcmp), (45, .ifCond .lt (27)), (48, .lload_n 2), (49, .ldc2_w 92), (52, .lcmp), (53, .ifCond .gt (19)), (56, .lload 4), (58, .lconst 0), (59, .lcmp), (60, .ifCond .lt (12)), (63, .lload 4), (65, .ldc2_w 92), (68, .lcmp), (69, .ifCond .le (13)), (72, .new 94), (75, .dup), (76, .ldc 96), (78, .invokespecial 98), (81, .athrow), (82, .aload_n 0), (83, .getfield 12), (86, .iload_n 1), (87, .lload_n 2), (88, .l2i), (89, .lload 4), (91, .l2i), (92, .invokevirtual 99), (95, .ireturn)]
def T_es_corner : hp_T := ("EdgeSweeps", K_es_corner, fl_es, cl_es, ne_es, ex_es, it_es, lo_es)
theorem V_es_corner : hp_val T_es_corner Y_es_corner := ⟨hp_okc_of (by decide +kernel), fv_es, cv_es, iv_es, lv_es, nv_es⟩
def K_es_op : List (Nat × Instr) := [(0, .aload_n 0), (1, .iload_n 2), (2, .invokevirtual 103), (5, .aload_n 0), (6, .iload_n 3), (7, .invokevirtual 103), (10, .aload_n 0), (11, .invokevirtual 107), (14, .iload_n 1), (15, .ifCond .lt (8)), (18, .iload_n 1), (19, .iconst 5), (20, .if_icmp .le (13)), (23, .new 94), (26, .dup), (27, .ldc 110), (29, .invokespecial 98), (32, .athrow), (33, .aload_n 0), (34, .iload_n 2), (35, .aload_n 0), (36, .getfield 35), (39, .invokevirtual 112), (42, .astore 4), (44, .aload_n 0), (45, .iload_n 3), (46, .aload_n 0), (47, .getfield 39), (50, .invokevirtual 112), (53, .astore 5), (55, .aload_n 0), (56, .getfield 18), (59, .aload_n 0), (60, .getfield 21), (63, .aaload), (64, .astore 6), (66, .iload_n 1), (67, .iconst 4), (68, .if_icmp .ne (45)), (71, .aload 5), (73, .aload_n 0), (74, .getfield 42), (77, .invokestatic 116), (80, .aload_n 0), (81, .getfield 31), (84, .aload 4), (86, .invokevirtual 122), (89, .aload_n 0), (90, .getfield 31), (93, .aload_n 0), (94, .getfield 42), (97, .invokevirtual 126), (100, .aload_n 0), (101, .getfield 31), (104, .iconst 0), (105, .aload 6), (107, .invokevirtual 129), (110, .goto (39)), (113, .iload_n 1), (114, .iconst 5), (115, .if_icmp .ne (24)), (118, .aload_n 0), (119, .aload 4), (121, .aload 5), (123, .invokevirtual 133), (126, .aload_n 0), (127, .getfield 31), (130, .iconst 1), (131, .aload 6), (133, .invokevirtual 129), (136, .goto (13)), (139, .iload_n 1), (140, .aload 4), (142, .aload 5), (144, .aload 6), (146, .invokestatic 136), (149, .aload_n 0), (150, .invokevirtual 140), (153, .ireturn)]
def T_es_op : hp_T := ("EdgeSweeps", K_es_op, fl_es, cl_es, ne_es, ex_es, it_es, lo_es)
theorem V_es_op : hp_val T_es_op Y_es_op := ⟨hp_okc_of (by decide +kernel), fv_es, cv_es, iv_es, lv_es, nv_es⟩
def K_es_needLayer : List (Nat × Instr) := [(0, .iload_n 1), (1, .aload_n 0), (2, .getfield 55), (5, .aload_n 0), (6, .getfield 21), (9, .iadd), (10, .invokestatic 155), (13, .return_)]
def T_es_needLayer : hp_T := ("EdgeSweeps", K_es_needLayer, fl_es, cl_es, ne_es, ex_es, it_es, lo_es)
theorem V_es_needLayer : hp_val T_es_needLayer Y_es_needLayer := ⟨hp_okc_of (by decide +kernel), fv_es, cv_es, iv_es, lv_es, nv_es⟩
def K_es_needIndex : List (Nat × Instr) := [(0, .iload_n 0), (1, .ifCond .lt (8)), (4, .iload_n 0), (5, .iload_n 1), (6, .if_icmp .lt (13)), (9, .new 62), (12, .dup), (13, .ldc 219), (15, .invokespecial 66), (18, .athrow), (19, .return_)]
def T_es_needIndex : hp_T := ("EdgeSweeps", K_es_needIndex, fl_es, cl_es, ne_es, ex_es, it_es, lo_es)
theorem V_es_needIndex : hp_val T_es_needIndex Y_es_needIndex := ⟨hp_okc_of (by decide +kernel), fv_es, cv_es, iv_es, lv_es, nv_es⟩
def K_es_needRoomForLayer : List (Nat × Instr) := [(0, .aload_n 0), (1, .getfield 21), (4, .bipush (24)), (6, .if_icmp .lt (13)), (9, .new 73), (12, .dup), (13, .ldc 221), (15, .invokespecial 77), (18, .athrow), (19, .return_)]
def T_es_needRoomForLayer : hp_T := ("EdgeSweeps", K_es_needRoomForLayer, fl_es, cl_es, ne_es, ex_es, it_es, lo_es)
theorem V_es_needRoomForLayer : hp_val T_es_needRoomForLayer Y_es_needRoomForLayer := ⟨hp_okc_of (by decide +kernel), fv_es, cv_es, iv_es, lv_es, nv_es⟩
def K_es_areaOf : List (Nat × Instr) := [(0, .iload_n 1), (1, .aload_n 0), (2, .getfield 55), (5, .isub), (6, .istore_n 3), (7, .iload_n 3), (8, .ifCond .lt (18)), (11, .iload_n 3), (12, .aload_n 0), (13, .getfield 21), (16, .if_icmp .ge (10)), (19, .aload_n 0), (20, .getfield 18), (23, .iload_n 3), (24, .aaload), (25, .areturn), (26, .aload_n 0), (27, .getfield 12), (30, .iload_n 1), (31, .aload_n 2), (32, .invokevirtual 223), (35, .aload_n 2), (36, .areturn)]
def T_es_areaOf : hp_T := ("EdgeSweeps", K_es_areaOf, fl_es, cl_es, ne_es, ex_es, it_es, lo_es)
theorem V_es_areaOf : hp_val T_es_areaOf Y_es_areaOf := ⟨hp_okc_of (by decide +kernel), fv_es, cv_es, iv_es, lv_es, nv_es⟩
def K_es_markTouching : List (Nat × Instr) := [(0, .aload_n 2), (1, .aload_n 0), (2, .getfield 42), (5, .iconst 1), (6, .iconst 1), (7, .iconst 1), (8, .invokestatic 148), (11, .aload_n 0), (12, .getfield 31), (15, .aload_n 1), (16, .invokevirtual 122), (19, .aload_n 0), (20, .getfield 31), (23, .aload_n 0), (24, .getfield 42), (27, .invokevirtual 126), (30, .return_)]
def T_es_markTouching : hp_T := ("EdgeSweeps", K_es_markTouching, fl_es, cl_es, ne_es, ex_es, it_es, lo_es)
theorem V_es_markTouching : hp_val T_es_markTouching Y_es_markTouching := ⟨hp_okc_of (by decide +kernel), fv_es, cv_es, iv_es, lv_es, nv_es⟩
def K_es_combine : List (Nat × Instr) := [(0, .iconst 0), (1, .istore 4), (3, .iload 4), (5, .bipush (64)), (7, .if_icmp .ge (25)), (10, .aload_n 3), (11, .iload 4), (13, .iload_n 0), (14, .aload_n 1), (15, .iload 4), (17, .laload), (18, .aload_n 2), (19, .iload 4), (21, .laload), (22, .invokestatic 226), (25, .lastore), (26, .iinc 4 (1)), (29, .goto (-26)), (32, .return_)]
def T_es_combine : hp_T := ("EdgeSweeps", K_es_combine, fl_es, cl_es, ne_es, ex_es, it_es, lo_es)
theorem V_es_combine : hp_val T_es_combine Y_es_combine := ⟨hp_okc_of (by decide +kernel), fv_es, cv_es, iv_es, lv_es, nv_es⟩
def K_es_combineRow : List (Nat × Instr) := [(0, .iload_n 0), (1, .tableswitch (51) 0 3 #[(31), (35), (39), (47)]), (32, .lload_n 1), (33, .lload_n 3), (34, .lor), (35, .lreturn), (36, .lload_n 1), (37, .lload_n 3), (38, .land), (39, .lreturn), (40, .lload_n 1), (41, .lload_n 3), (42, .ldc2_w 230), (45, .lxor), (46, .land), (47, .lreturn), (48, .lload_n 1), (49, .lload_n 3), (50, .lxor), (51, .lreturn), (52, .lconst 0), (53, .lreturn)]
def T_es_combineRow : hp_T := ("EdgeSweeps", K_es_combineRow, fl_es, cl_es, ne_es, ex_es, it_es, lo_es)
theorem V_es_combineRow : hp_val T_es_combineRow Y_es_combineRow := ⟨hp_okc_of (by decide +kernel), fv_es, cv_es, iv_es, lv_es, nv_es⟩
def K_es_addMade : List (Nat × Instr) := [(0, .aload_n 0), (1, .getfield 55), (4, .aload_n 0), (5, .getfield 21), (8, .iadd), (9, .istore_n 1), (10, .aload_n 0), (11, .dup), (12, .getfield 21), (15, .iconst 1), (16, .iadd), (17, .putfield 21), (20, .iload_n 1), (21, .ireturn)]
def T_es_addMade : hp_T := ("EdgeSweeps", K_es_addMade, fl_es, cl_es, ne_es, ex_es, it_es, lo_es)
theorem V_es_addMade : hp_val T_es_addMade Y_es_addMade := ⟨hp_okc_of (by decide +kernel), fv_es, cv_es, iv_es, lv_es, nv_es⟩
def K_es_size : List (Nat × Instr) := [(0, .aload_n 0), (1, .iload_n 1), (2, .invokevirtual 103), (5, .aload_n 0), (6, .invokevirtual 107), (9, .lload_n 2), (10, .lconst 0), (11, .lcmp), (12, .ifCond .eq (19)), (15, .lload_n 2), (16, .ldc2_w 144), (19, .lcmp), (20, .ifCond .lt (11)), (23, .lload_n 2), (24, .ldc2_w 92), (27, .lcmp), (28, .ifCond .le (13)), (31, .new 94), (34, .dup), (35, .ldc 146), (37, .invokespecial 98), (40, .athrow), (41, .lload_n 2), (42, .lconst 0), (43, .lcmp), (44, .ifCond .le (7)), (47, .iconst 1), (48, .goto (4)), (51, .iconst 0), (52, .istore 5), (54, .iload 5), (56, .ifCond .eq (7)), (59, .lload_n 2), (60, .goto (5)), (63, .lload_n 2), (64, .lneg), (65, .l2i), (66, .istore 6), (68, .iload 4), (70, .ifCond .eq (10)), (73, .iload 6), (75, .iconst 2), (76, .idiv), (77, .goto (5)), (80, .iload 6), (82, .istore 7), (84, .aload_n 0), (85, .iload_n 1), (86, .aload_n 0), (87, .getfield 35), (90, .invokevirtual 112), (93, .astore 8), (95, .aload_n 0), (96, .getfield 18), (99, .aload_n 0), (100, .getfield 21), (103, .aaload), (104, .astore 9), (106, .aload 8), (108, .aload 9), (110, .iload 6), (112, .iload 7), (114, .iload 5), (116, .invokestatic 148), (119, .iload 4), (121, .ifCond .eq (39)), (124, .aload 8), (126, .aload_n 0), (127, .getfield 42), (130, .iload 7), (132, .iload 6), (134, .iload 5), (136, .invokestatic 148), (139, .iload 5), (141, .ifCond .eq (7)), (144, .iconst 0), (145, .goto (4)), (148, .iconst 1), (149, .aload 9), (151, .aload_n 0), (152, .getfield 42), (155, .aload 9), (157, .invokestatic 136), (160, .aload_n 0), (161, .invokevirtual 140), (164, .ireturn)]
def T_es_size : hp_T := ("EdgeSweeps", K_es_size, fl_es, cl_es, ne_es, ex_es, it_es, lo_es)
theorem V_es_size : hp_val T_es_size Y_es_size := ⟨hp_okc_of (by decide +kernel), fv_es, cv_es, iv_es, lv_es, nv_es⟩
def K_es_shapes : List (Nat × Instr) := [(0, .aload_n 0), (1, .iload_n 1), (2, .invokevirtual 103), (5, .aload_n 0), (6, .getfield 31), (9, .aload_n 0), (10, .iload_n 1), (11, .aload_n 0), (12, .getfield 35), (15, .invokevirtual 112), (18, .invokevirtual 122), (21, .aload_n 0), (22, .getfield 31), (25, .invokevirtual 152), (28, .ireturn)]
def T_es_shapes : hp_T := ("EdgeSweeps", K_es_shapes, fl_es, cl_es, ne_es, ex_es, it_es, lo_es)
theorem V_es_shapes : hp_val T_es_shapes Y_es_shapes := ⟨hp_okc_of (by decide +kernel), fv_es, cv_es, iv_es, lv_es, nv_es⟩
def K_es_at : List (Nat × Instr) := [(0, .aload_n 0), (1, .iload_n 1), (2, .invokevirtual 103), (5, .iload 4), (7, .iconst 2), (8, .invokestatic 155), (11, .aload_n 0), (12, .getfield 31), (15, .aload_n 0), (16, .iload_n 1), (17, .aload_n 0), (18, .getfield 35), (21, .invokevirtual 112), (24, .invokevirtual 122), (27, .iload_n 2), (28, .aload_n 0), (29, .getfield 31), (32, .invokevirtual 152), (35, .invokestatic 155), (38, .aload_n 0), (39, .getfield 31), (42, .iload_n 2), (43, .aload_n 0), (44, .getfield 42), (47, .invokevirtual 159), (50, .aload_n 0), (51, .getfield 42), (54, .iload_n 3), (55, .iload 4), (57, .invokestatic 163), (60, .i2l), (61, .lreturn)]
def T_es_at : hp_T := ("EdgeSweeps", K_es_at, fl_es, cl_es, ne_es, ex_es, it_es, lo_es)
theorem V_es_at : hp_val T_es_at Y_es_at := ⟨hp_okc_of (by decide +kernel), fv_es, cv_es, iv_es, lv_es, nv_es⟩
def K_es_in : List (Nat × Instr) := [(0, .aload_n 0), (1, .iload_n 1), (2, .invokevirtual 103), (5, .lload_n 2), (6, .lconst 0), (7, .lcmp), (8, .ifCond .lt (27)), (11, .lload_n 2), (12, .ldc2_w 92), (15, .lcmp), (16, .ifCond .ge (19)), (19, .lload 4), (21, .lconst 0), (22, .lcmp), (23, .ifCond .lt (12)), (26, .lload 4), (28, .ldc2_w 92), (31, .lcmp), (32, .ifCond .lt (5)), (35, .iconst 0), (36, .ireturn), (37, .aload_n 0), (38, .iload_n 1), (39, .aload_n 0), (40, .getfield 35), (43, .invokevirtual 112), (46, .lload 4), (48, .l2i), (49, .invokestatic 169), (52, .lstore 6), (54, .lload 6), (56, .lload_n 2), (57, .l2i), (58, .lushr), (59, .lconst 1), (60, .land), (61, .lconst 0), (62, .lcmp), (63, .ifCond .eq (7)), (66, .iconst 1), (67, .goto (4)), (70, .iconst 0), (71, .ireturn)]
def T_es_in : hp_T := ("EdgeSweeps", K_es_in, fl_es, cl_es, ne_es, ex_es, it_es, lo_es)
theorem V_es_in : hp_val T_es_in Y_es_in := ⟨hp_okc_of (by decide +kernel), fv_es, cv_es, iv_es, lv_es, nv_es⟩
def K_es_area2 : List (Nat × Instr) := [(0, .aload_n 0), (1, .iload_n 1), (2, .invokevirtual 103), (5, .iload_n 2), (6, .iconst 2), (7, .invokestatic 155), (10, .aload_n 0), (11, .iload_n 1), (12, .aload_n 0), (13, .getfield 35), (16, .invokevirtual 112), (19, .astore_n 3), (20, .iload_n 2), (21, .ifCond .ne (15)), (24, .ldc2_w 173), (27, .aload_n 3), (28, .invokestatic 175), (31, .i2l), (32, .lmul), (33, .goto (8)), (36, .aload_n 3), (37, .invokestatic 179), (40, .i2l), (41, .lreturn)]
def T_es_area2 : hp_T := ("EdgeSweeps", K_es_area2, fl_es, cl_es, ne_es, ex_es, it_es, lo_es)
theorem V_es_area2 : hp_val T_es_area2 Y_es_area2 := ⟨hp_okc_of (by decide +kernel), fv_es, cv_es, iv_es, lv_es, nv_es⟩
def K_es_touching : List (Nat × Instr) := [(0, .aload_n 0), (1, .iload_n 1), (2, .invokevirtual 103), (5, .aload_n 0), (6, .iload_n 2), (7, .invokevirtual 103), (10, .iload_n 3), (11, .ifCond .ge (13)), (14, .new 62), (17, .dup), (18, .ldc 182), (20, .invokespecial 66), (23, .athrow), (24, .aload_n 0), (25, .aload_n 0), (26, .iload_n 1), (27, .aload_n 0), (28, .getfield 35), (31, .invokevirtual 112), (34, .aload_n 0), (35, .iload_n 2), (36, .aload_n 0), (37, .getfield 39), (40, .invokevirtual 112), (43, .invokevirtual 133), (46, .aload_n 0), (47, .getfield 31), (50, .iload_n 3), (51, .invokevirtual 184), (54, .ireturn)]
def T_es_touching : hp_T := ("EdgeSweeps", K_es_touching, fl_es, cl_es, ne_es, ex_es, it_es, lo_es)
theorem V_es_touching : hp_val T_es_touching Y_es_touching := ⟨hp_okc_of (by decide +kernel), fv_es, cv_es, iv_es, lv_es, nv_es⟩
def K_es_nets : List (Nat × Instr) := [(0, .aload_n 0), (1, .iload_n 1), (2, .invokevirtual 103), (5, .aload_n 0), (6, .iload_n 1), (7, .aload_n 0), (8, .getfield 35), (11, .invokevirtual 112), (14, .astore_n 2), (15, .aload_n 0), (16, .getfield 31), (19, .aload_n 2), (20, .invokevirtual 122), (23, .aload_n 0), (24, .getfield 31), (27, .aload_n 2), (28, .invokevirtual 187), (31, .aload_n 0), (32, .getfield 31), (35, .invokevirtual 190), (38, .ireturn)]
def T_es_nets : hp_T := ("EdgeSweeps", K_es_nets, fl_es, cl_es, ne_es, ex_es, it_es, lo_es)
theorem V_es_nets : hp_val T_es_nets Y_es_nets := ⟨hp_okc_of (by decide +kernel), fv_es, cv_es, iv_es, lv_es, nv_es⟩
def K_es_netOf : List (Nat × Instr) := [(0, .aload_n 0), (1, .iload_n 1), (2, .invokevirtual 103), (5, .aload_n 0), (6, .iload_n 1), (7, .aload_n 0), (8, .getfield 35), (11, .invokevirtual 112), (14, .astore_n 3), (15, .aload_n 0), (16, .getfield 31), (19, .aload_n 3), (20, .invokevirtual 122), (23, .iload_n 2), (24, .aload_n 0), (25, .getfield 31), (28, .invokevirtual 152), (31, .invokestatic 155), (34, .aload_n 0), (35, .getfield 31), (38, .aload_n 3), (39, .invokevirtual 187), (42, .aload_n 0), (43, .getfield 31), (46, .iload_n 2), (47, .invokevirtual 193), (50, .ireturn)]
def T_es_netOf : hp_T := ("EdgeSweeps", K_es_netOf, fl_es, cl_es, ne_es, ex_es, it_es, lo_es)
theorem V_es_netOf : hp_val T_es_netOf Y_es_netOf := ⟨hp_okc_of (by decide +kernel), fv_es, cv_es, iv_es, lv_es, nv_es⟩
def K_es_strips : List (Nat × Instr) := [(0, .iload_n 1), (1, .iconst 1), (2, .if_icmp .lt (9)), (5, .iload_n 1), (6, .bipush (64)), (8, .if_icmp .le (13)), (11, .new 62), (14, .dup), (15, .ldc 196), (17, .invokespecial 66), (20, .athrow), (21, .aload_n 0), (22, .getfield 25), (25, .istore_n 2), (26, .aload_n 0), (27, .iload_n 1), (28, .putfield 25), (31, .iload_n 2), (32, .ireturn)]
def T_es_strips : hp_T := ("EdgeSweeps", K_es_strips, fl_es, cl_es, ne_es, ex_es, it_es, lo_es)
theorem V_es_strips : hp_val T_es_strips Y_es_strips := ⟨hp_okc_of (by decide +kernel), fv_es, cv_es, iv_es, lv_es, nv_es⟩
def K_es_edge : List (Nat × Instr) := [(0, .aload_n 0), (1, .iload_n 1), (2, .invokevirtual 103), (5, .iload_n 3), (6, .iconst 5), (7, .invokestatic 155), (10, .aload_n 0), (11, .iload_n 1), (12, .aload_n 0), (13, .getfield 35), (16, .invokevirtual 112), (19, .astore 4), (21, .aload 4), (23, .invokestatic 198), (26, .istore 5), (28, .iload_n 2), (29, .iload 5), (31, .if_icmp .ge (11)), (34, .aload 4), (36, .iload_n 2), (37, .iload_n 3), (38, .invokestatic 201), (41, .ireturn), (42, .aload 4), (44, .aload_n 0), (45, .getfield 42), (48, .invokestatic 204), (51, .aload_n 0), (52, .getfield 42), (55, .invokestatic 207), (58, .aload_n 0), (59, .getfield 42), (62, .iload_n 2), (63, .iload 5), (65, .isub), (66, .iload_n 3), (67, .invokestatic 210), (70, .invokestatic 201), (73, .ireturn)]
def T_es_edge : hp_T := ("EdgeSweeps", K_es_edge, fl_es, cl_es, ne_es, ex_es, it_es, lo_es)
theorem V_es_edge : hp_val T_es_edge Y_es_edge := ⟨hp_okc_of (by decide +kernel), fv_es, cv_es, iv_es, lv_es, nv_es⟩
def K_es_trapezoid : List (Nat × Instr) := [(0, .aload_n 0), (1, .iload_n 1), (2, .invokevirtual 103), (5, .iload_n 3), (6, .iconst 4), (7, .invokestatic 155), (10, .aload_n 0), (11, .iload_n 1), (12, .aload_n 0), (13, .getfield 35), (16, .invokevirtual 112), (19, .iload_n 2), (20, .iload_n 3), (21, .invokestatic 213), (24, .ireturn)]
def T_es_trapezoid : hp_T := ("EdgeSweeps", K_es_trapezoid, fl_es, cl_es, ne_es, ex_es, it_es, lo_es)
theorem V_es_trapezoid : hp_val T_es_trapezoid Y_es_trapezoid := ⟨hp_okc_of (by decide +kernel), fv_es, cv_es, iv_es, lv_es, nv_es⟩
end
section
/-! the tables of EdgeSweepsModel -/
def fl_mo : List (Nat × Nat × Nat) := [(7, 3, 2), (13, 3, 3), (16, 3, 4), (19, 3, 5), (22, 3, 7), (26, 3, 9), (30, 3, 10), (33, 3, 11), (36, 3, 12), (39, 3, 13), (42, 3, 14), (45, 3, 16), (48, 3, 17), (52, 3, 18), (56, 3, 1), (59, 3, 0), (62, 3, 8), (65, 3, 6), (82, 3, 15), (139, 3, 19), (142, 3, 20), (145, 3, 21), (148, 3, 22)]
theorem fv_mo : ∀ q ∈ fl_mo, ∃ r0 : vw_C, classes[q.2.1]? = some r0 ∧ q.2.2 < r0.2.2 ∧ Jvm.Cond.fieldLink "EdgeSweepsModel" q.1 (r0.2.1 q.2.2).1 (r0.2.1 q.2.2).2.1 (r0.2.1 q.2.2).2.2.1 ∈ hp_Ts := List.forall_mem_cons.mpr ⟨⟨_, rfl, by decide, tm_in (List.mem_of_getElem? (i := 597) (by decide +kernel))⟩, List.forall_mem_cons.mpr ⟨⟨_, rfl, by decide, tm_in (List.mem_of_getElem? (i := 598) (by decide +kernel))⟩, List.forall_mem_cons.mpr ⟨⟨_, rfl, by decide, tm_in (List.mem_of_getElem? (i := 599) (by decide +kernel))⟩, List.forall_mem_cons.mpr ⟨⟨_, rfl, by decide, tm_in (List.mem_of_getElem? (i := 600) (by decide +kernel))⟩, List.forall_mem_cons.mpr ⟨⟨_, rfl, by decide, tm_in (List.mem_of_getElem? (i := 602) (by decide +kernel))⟩, List.forall_mem_cons.mpr ⟨⟨_, rfl, by decide, tm_in (List.mem_of_getElem? (i := 604) (by decide +kernel))⟩, List.forall_mem_cons.mpr ⟨⟨_, rfl, by decide, tm_in (List.mem_of_getElem? (i := 605) (by decide +kernel))⟩, List.forall_mem_cons.mpr ⟨⟨_, rfl, by decide, tm_in (List.mem_of_getElem? (i := 606) (by decide +kernel))⟩, List.forall_mem_cons.mpr ⟨⟨_, rfl, by decide, tm_in (List.mem_of_getElem? (i := 607) (by decide +kernel))⟩, List.forall_mem_cons.mpr ⟨⟨_, rfl, by decide, tm_in (List.mem_of_getElem? (i := 608) (by decide +kernel))⟩, List.forall_mem_cons.mpr ⟨⟨_, rfl, by decide, tm_in (List.mem_of_getElem? (i := 609) (by decide +kernel))⟩, List.forall_mem_cons.mpr ⟨⟨_, rfl, by decide, tm_in (List.mem_of_getElem? (i := 611) (by decide +kernel))⟩, List.forall_mem_cons.mpr ⟨⟨_, rfl, by decide, tm_in (List.mem_of_getElem? (i := 612) (by decide +kernel))⟩, List.forall_mem_cons.mpr ⟨⟨_, rfl, by decide, tm_in (List.mem_of_getElem? (i := 613) (by decide +kernel))⟩, List.forall_mem_cons.mpr ⟨⟨_, rfl, by decide, tm_in (List.mem_of_getElem? (i := 596) (by decide +kernel))⟩, List.forall_mem_cons.mpr ⟨⟨_, rfl, by decide, tm_in (List.mem_of_getElem? (i := 595) (by decide +kernel))⟩, List.forall_mem_cons.mpr ⟨⟨_, rfl, by decide, tm_in (List.mem_of_getElem? (i := 603) (by decide +kernel))⟩, List.forall_mem_cons.mpr ⟨⟨_, rfl, by decide, tm_in (List.mem_of_getElem? (i := 601) (by decide +kernel))⟩, List.forall_mem_cons.mpr ⟨⟨_, rfl, by decide, tm_in (List.mem_of_getElem? (i := 610) (by decide +kernel))⟩, List.forall_mem_cons.mpr ⟨⟨_, rfl, by decide, tm_in (List.mem_of_getElem? (i := 614) (by decide +kernel))⟩, List.forall_mem_cons.mpr ⟨⟨_, rfl, by decide, tm_in (List.mem_of_getElem? (i := 615) (by decide +kernel))⟩, List.forall_mem_cons.mpr ⟨⟨_, rfl, by decide, tm_in (List.mem_of_getElem? (i := 616) (by decide +kernel))⟩, List.forall_mem_cons.mpr ⟨⟨_, rfl, by decide, tm_in (List.mem_of_getElem? (i := 617) (by decide +kernel))⟩, (fun _ h => absurd h List.not_mem_nil)⟩⟩⟩⟩⟩⟩⟩⟩⟩⟩⟩⟩⟩⟩⟩⟩⟩⟩⟩⟩⟩⟩⟩
def cl_mo : List (Nat × Nat × hp_Y) := [(1, 6, Y_es_init), (70, 2, Y_mo_isClosed), (74, 2, Y_mo_isIn), (78, 0, Y_mo_bit), (85, 2, Y_mo_isOne), (89, 2, Y_mo_isTwo), (92, 2, Y_mo_label), (95, 2, Y_mo_isTouched), (98, 2, Y_mo_isLayer), (101, 2, Y_mo_load), (105, 2, Y_mo_relate), (110, 2, Y_mo_keep), (116, 2, Y_mo_isRound), (120, 2, Y_mo_isReady), (123, 2, Y_mo_isOf), (126, 2, Y_mo_isCorner), (129, 2, Y_mo_join), (132, 2, Y_mo_lying), (136, 2, Y_mo_standing), (151, 2, Y_mo_findEdge), (157, 2, Y_mo_isLine)]
theorem cv_mo_1 : hp_vcall "EdgeSweepsModel" 1 6 Y_es_init := ⟨tm_in (List.mem_of_getElem? (i := 593) (by decide +kernel)), tm_in (List.mem_of_getElem? (i := 23) (by decide +kernel)), tm_in (List.mem_of_getElem? (i := 24) (by decide +kernel))⟩
theorem cv_mo_70 : hp_vcall "EdgeSweepsModel" 70 2 Y_mo_isClosed := ⟨cd_mo_isClosed, tm_in (List.mem_of_getElem? (i := 698) (by decide +kernel)), tm_in (List.mem_of_getElem? (i := 700) (by decide +kernel)), ts_in (List.mem_of_getElem? (i := 14) (by decide +kernel)), tm_in (List.mem_of_getElem? (i := 5) (by decide +kernel)), ⟨by decide, by decide⟩, (by unfold hp_np; decide +kernel)⟩
theorem cv_mo_74 : hp_vcall "EdgeSweepsModel" 74 2 Y_mo_isIn := ⟨cd_mo_isIn, tm_in (List.mem_of_getElem? (i := 702) (by decide +kernel)), tm_in (List.mem_of_getElem? (i := 704) (by decide +kernel)), ts_in (List.mem_of_getElem? (i := 15) (by decide +kernel)), tm_in (List.mem_of_getElem? (i := 5) (by decide +kernel)), ⟨by decide, by decide⟩, (by unfold hp_np; decide +kernel)⟩
theorem cv_mo_78 : hp_vcall "EdgeSweepsModel" 78 0 Y_mo_bit := ⟨cd_mo_bit, tm_in (List.mem_of_getElem? (i := 718) (by decide +kernel)), tm_in (List.mem_of_getElem? (i := 719) (by decide +kernel)), tm_in (List.mem_of_getElem? (i := 5) (by decide +kernel)), ⟨by decide, by decide⟩, (by unfold hp_np; decide +kernel)⟩
theorem cv_mo_85 : hp_vcall "EdgeSweepsModel" 85 2 Y_mo_isOne := ⟨cd_mo_isOne, tm_in (List.mem_of_getElem? (i := 714) (by decide +kernel)), tm_in (List.mem_of_getElem? (i := 716) (by decide +kernel)), ts_in (List.mem_of_getElem? (i := 18) (by decide +kernel)), tm_in (List.mem_of_getElem? (i := 5) (by decide +kernel)), ⟨by decide, by decide⟩, (by unfold hp_np; decide +kernel)⟩
theorem cv_mo_89 : hp_vcall "EdgeSweepsModel" 89 2 Y_mo_isTwo := ⟨cd_mo_isTwo, tm_in (List.mem_of_getElem? (i := 721) (by decide +kernel)), tm_in (List.mem_of_getElem? (i := 723) (by decide +kernel)), ts_in (List.mem_of_getElem? (i := 19) (by decide +kernel)), tm_in (List.mem_of_getElem? (i := 5) (by decide +kernel)), ⟨by decide, by decide⟩, (by unfold hp_np; decide +kernel)⟩
theorem cv_mo_92 : hp_vcall "EdgeSweepsModel" 92 2 Y_mo_label := ⟨cd_mo_label, tm_in (List.mem_of_getElem? (i := 710) (by decide +kernel)), tm_in (List.mem_of_getElem? (i := 712) (by decide +kernel)), ts_in (List.mem_of_getElem? (i := 17) (by decide +kernel)), tm_in (List.mem_of_getElem? (i := 5) (by decide +kernel)), ⟨by decide, by decide⟩, (by unfold hp_np; decide +kernel)⟩
theorem cv_mo_95 : hp_vcall "EdgeSweepsModel" 95 2 Y_mo_isTouched := ⟨cd_mo_isTouched, tm_in (List.mem_of_getElem? (i := 725) (by decide +kernel)), tm_in (List.mem_of_getElem? (i := 727) (by decide +kernel)), ts_in (List.mem_of_getElem? (i := 20) (by decide +kernel)), tm_in (List.mem_of_getElem? (i := 5) (by decide +kernel)), ⟨by decide, by decide⟩, (by unfold hp_np; decide +kernel)⟩
theorem cv_mo_98 : hp_vcall "EdgeSweepsModel" 98 2 Y_mo_isLayer := ⟨cd_mo_isLayer, tm_in (List.mem_of_getElem? (i := 690) (by decide +kernel)), tm_in (List.mem_of_getElem? (i := 692) (by decide +kernel)), ts_in (List.mem_of_getElem? (i := 12) (by decide +kernel)), tm_in (List.mem_of_getElem? (i := 5) (by decide +kernel)), ⟨by decide, by decide⟩, (by unfold hp_np; decide +kernel)⟩
theorem cv_mo_101 : hp_vcall "EdgeSweepsModel" 101 2 Y_mo_load := ⟨cd_mo_load, tm_in (List.mem_of_getElem? (i := 694) (by decide +kernel)), tm_in (List.mem_of_getElem? (i := 696) (by decide +kernel)), ts_in (List.mem_of_getElem? (i := 13) (by decide +kernel)), tm_in (List.mem_of_getElem? (i := 5) (by decide +kernel)), ⟨by decide, by decide⟩, (by unfold hp_np; decide +kernel)⟩
theorem cv_mo_105 : hp_vcall "EdgeSweepsModel" 105 2 Y_mo_relate := ⟨cd_mo_relate, tm_in (List.mem_of_getElem? (i := 706) (by decide +kernel)), tm_in (List.mem_of_getElem? (i := 708) (by decide +kernel)), ts_in (List.mem_of_getElem? (i := 16) (by decide +kernel)), tm_in (List.mem_of_getElem? (i := 5) (by decide +kernel)), ⟨by decide, by decide⟩, (by unfold hp_np; decide +kernel)⟩
theorem cv_mo_110 : hp_vcall "EdgeSweepsModel" 110 2 Y_mo_keep := ⟨cd_mo_keep, tm_in (List.mem_of_getElem? (i := 730) (by decide +kernel)), tm_in (List.mem_of_getElem? (i := 732) (by decide +kernel)), ts_in (List.mem_of_getElem? (i := 21) (by decide +kernel)), tm_in (List.mem_of_getElem? (i := 5) (by decide +kernel)), ⟨by decide, by decide⟩, (by unfold hp_np; decide +kernel)⟩
theorem cv_mo_116 : hp_vcall "EdgeSweepsModel" 116 2 Y_mo_isRound := ⟨cd_mo_isRound, tm_in (List.mem_of_getElem? (i := 739) (by decide +kernel)), tm_in (List.mem_of_getElem? (i := 741) (by decide +kernel)), ts_in (List.mem_of_getElem? (i := 22) (by decide +kernel)), tm_in (List.mem_of_getElem? (i := 5) (by decide +kernel)), ⟨by decide, by decide⟩, (by unfold hp_np; decide +kernel)⟩
theorem cv_mo_120 : hp_vcall "EdgeSweepsModel" 120 2 Y_mo_isReady := ⟨cd_mo_isReady, tm_in (List.mem_of_getElem? (i := 747) (by decide +kernel)), tm_in (List.mem_of_getElem? (i := 749) (by decide +kernel)), ts_in (List.mem_of_getElem? (i := 23) (by decide +kernel)), tm_in (List.mem_of_getElem? (i := 5) (by decide +kernel)), ⟨by decide, by decide⟩, (by unfold hp_np; decide +kernel)⟩
theorem cv_mo_123 : hp_vcall "EdgeSweepsModel" 123 2 Y_mo_isOf := ⟨cd_mo_isOf, tm_in (List.mem_of_getElem? (i := 759) (by decide +kernel)), tm_in (List.mem_of_getElem? (i := 761) (by decide +kernel)), ts_in (List.mem_of_getElem? (i := 25) (by decide +kernel)), tm_in (List.mem_of_getElem? (i := 5) (by decide +kernel)), ⟨by decide, by decide⟩, (by unfold hp_np; decide +kernel)⟩
theorem cv_mo_126 : hp_vcall "EdgeSweepsModel" 126 2 Y_mo_isCorner := ⟨cd_mo_isCorner, tm_in (List.mem_of_getElem? (i := 755) (by decide +kernel)), tm_in (List.mem_of_getElem? (i := 757) (by decide +kernel)), ts_in (List.mem_of_getElem? (i := 24) (by decide +kernel)), tm_in (List.mem_of_getElem? (i := 5) (by decide +kernel)), ⟨by decide, by decide⟩, (by unfold hp_np; decide +kernel)⟩
theorem cv_mo_129 : hp_vcall "EdgeSweepsModel" 129 2 Y_mo_join := ⟨cd_mo_join, tm_in (List.mem_of_getElem? (i := 775) (by decide +kernel)), tm_in (List.mem_of_getElem? (i := 777) (by decide +kernel)), ts_in (List.mem_of_getElem? (i := 26) (by decide +kernel)), tm_in (List.mem_of_getElem? (i := 5) (by decide +kernel)), ⟨by decide, by decide⟩, (by unfold hp_np; decide +kernel)⟩
theorem cv_mo_132 : hp_vcall "EdgeSweepsModel" 132 2 Y_mo_lying := ⟨cd_mo_lying, tm_in (List.mem_of_getElem? (i := 791) (by decide +kernel)), tm_in (List.mem_of_getElem? (i := 793) (by decide +kernel)), ts_in (List.mem_of_getElem? (i := 28) (by decide +kernel)), tm_in (List.mem_of_getElem? (i := 5) (by decide +kernel)), ⟨by decide, by decide⟩, (by unfold hp_np; decide +kernel)⟩
theorem cv_mo_136 : hp_vcall "EdgeSweepsModel" 136 2 Y_mo_standing := ⟨cd_mo_standing, tm_in (List.mem_of_getElem? (i := 795) (by decide +kernel)), tm_in (List.mem_of_getElem? (i := 797) (by decide +kernel)), ts_in (List.mem_of_getElem? (i := 29) (by decide +kernel)), tm_in (List.mem_of_getElem? (i := 5) (by decide +kernel)), ⟨by decide, by decide⟩, (by unfold hp_np; decide +kernel)⟩
theorem cv_mo_151 : hp_vcall "EdgeSweepsModel" 151 2 Y_mo_findEdge := ⟨cd_mo_findEdge, tm_in (List.mem_of_getElem? (i := 787) (by decide +kernel)), tm_in (List.mem_of_getElem? (i := 789) (by decide +kernel)), ts_in (List.mem_of_getElem? (i := 27) (by decide +kernel)), tm_in (List.mem_of_getElem? (i := 5) (by decide +kernel)), ⟨by decide, by decide⟩, (by unfold hp_np; decide +kernel)⟩
theorem cv_mo_157 : hp_vcall "EdgeSweepsModel" 157 2 Y_mo_isLine := ⟨cd_mo_isLine, tm_in (List.mem_of_getElem? (i := 808) (by decide +kernel)), tm_in (List.mem_of_getElem? (i := 810) (by decide +kernel)), ts_in (List.mem_of_getElem? (i := 30) (by decide +kernel)), tm_in (List.mem_of_getElem? (i := 5) (by decide +kernel)), ⟨by decide, by decide⟩, (by unfold hp_np; decide +kernel)⟩
theorem cv_mo : ∀ q ∈ cl_mo, hp_vcall "EdgeSweepsModel" q.1 q.2.1 q.2.2 := List.forall_mem_cons.mpr ⟨cv_mo_1, List.forall_mem_cons.mpr ⟨cv_mo_70, List.forall_mem_cons.mpr ⟨cv_mo_74, List.forall_mem_cons.mpr ⟨cv_mo_78, List.forall_mem_cons.mpr ⟨cv_mo_85, List.forall_mem_cons.mpr ⟨cv_mo_89, List.forall_mem_cons.mpr ⟨cv_mo_92, List.forall_mem_cons.mpr ⟨cv_mo_95, List.forall_mem_cons.mpr ⟨cv_mo_98, List.forall_mem_cons.mpr ⟨cv_mo_101, List.forall_mem_cons.mpr ⟨cv_mo_105, List.forall_mem_cons.mpr ⟨cv_mo_110, List.forall_mem_cons.mpr ⟨cv_mo_116, List.forall_mem_cons.mpr ⟨cv_mo_120, List.forall_mem_cons.mpr ⟨cv_mo_123, List.forall_mem_cons.mpr ⟨cv_mo_126, List.forall_mem_cons.mpr ⟨cv_mo_129, List.forall_mem_cons.mpr ⟨cv_mo_132, List.forall_mem_cons.mpr ⟨cv_mo_136, List.forall_mem_cons.mpr ⟨cv_mo_151, List.forall_mem_cons.mpr ⟨cv_mo_157, (fun _ h => absurd h List.not_mem_nil)⟩⟩⟩⟩⟩⟩⟩⟩⟩⟩⟩⟩⟩⟩⟩⟩⟩⟩⟩⟩⟩
def it_mo : List (Nat × Int32) := [(55, 65536)]
theorem iv_mo : ∀ q ∈ it_mo, Jvm.Cond.constant "EdgeSweepsModel" q.1 q.2 ∈ hp_Ts := List.forall_mem_cons.mpr ⟨tm_in (List.mem_of_getElem? (i := 594) (by decide +kernel)), (fun _ h => absurd h List.not_mem_nil)⟩
def lo_mo : List (Nat × Int64) := [(68, 64), (108, -1), (114, -64), (155, 2)]
theorem lv_mo : ∀ q ∈ lo_mo, Jvm.Cond.constantLong "EdgeSweepsModel" q.1 q.2 ∈ hp_Ts := List.forall_mem_cons.mpr ⟨tm_in (List.mem_of_getElem? (i := 677) (by decide +kernel)), List.forall_mem_cons.mpr ⟨tm_in (List.mem_of_getElem? (i := 729) (by decide +kernel)), List.forall_mem_cons.mpr ⟨tm_in (List.mem_of_getElem? (i := 738) (by decide +kernel)), List.forall_mem_cons.mpr ⟨tm_in (List.mem_of_getElem? (i := 803) (by decide +kernel)), (fun _ h => absurd h List.not_mem_nil)⟩⟩⟩⟩
def ne_mo : List (Nat × Nat) := []
theorem nv_mo : ∀ q ∈ ne_mo, ∃ r0 : vw_C, classes[q.2]? = some r0 ∧ Jvm.Cond.classLink "EdgeSweepsModel" q.1 r0.1 ∈ hp_Ts := (fun _ h => absurd h List.not_mem_nil)
def ex_mo : List (Nat × Nat) := []
def K_mo_init : List (Nat × Instr) := [(0, .aload_n 0), (1, .invokespecial 1), (4, .aload_n 0), (5, .bipush (16)), (7, .newarray .int), (9, .putfield 7), (12, .aload_n 0), (13, .bipush (16)), (15, .newarray .int), (17, .putfield 13), (20, .aload_n 0), (21, .sipush (256)), (24, .newarray .int), (26, .putfield 16), (29, .aload_n 0), (30, .sipush (256)), (33, .newarray .int), (35, .putfield 19), (38, .aload_n 0), (39, .sipush (1536)), (42, .newarray .long), (44, .putfield 22), (47, .aload_n 0), (48, .iconst 1), (49, .putfield 26), (52, .aload_n 0), (53, .bipush (64)), (55, .newarray .long), (57, .putfield 30), (60, .aload_n 0), (61, .bipush (64)), (63, .newarray .long), (65, .putfield 33), (68, .aload_n 0), (69, .bipush (64)), (71, .newarray .long), (73, .putfield 36), (76, .aload_n 0), (77, .sipush (4096)), (80, .newarray .int), (82, .putfield 39), (85, .aload_n 0), (86, .sipush (4096)), (89, .newarray .int), (91, .putfield 42), (94, .aload_n 0), (95, .sipush (4096)), (98, .newarray .int), (100, .putfield 45), (103, .aload_n 0), (104, .sipush (4096)), (107, .newarray .boolean), (109, .putfield 48), (112, .aload_n 0), (113, .sipush (4096)), (116, .newarray .boolean), (118, .putfield 52), (121, .aload_n 0), (122, .iload_n 1), (123, .iconst 1), (124, .if_icmp .ge (7)), (127, .iconst 1), (128, .goto (15)), (131, .iload_n 1), (132, .ldc 55), (134, .if_icmp .le (8)), (137, .ldc 55), (139, .goto (4)), (142, .iload_n 1), (143, .putfield 56), (146, .return_)]
def T_mo_init : hp_T := ("EdgeSweepsModel", K_mo_init, fl_mo, cl_mo, ne_mo, ex_mo, it_mo, lo_mo)
theorem V_mo_init : hp_val T_mo_init Y_mo_init := ⟨hp_okc_of (by decide +kernel), fv_mo, cv_mo, iv_mo, lv_mo, nv_mo⟩
def K_mo_thrown : List (Nat × Instr) := [(0, .aload_n 0), (1, .getfield 59), (4, .ireturn)]
def T_mo_thrown : hp_T := ("EdgeSweepsModel", K_mo_thrown, fl_mo, cl_mo, ne_mo, ex_mo, it_mo, lo_mo)
theorem V_mo_thrown : hp_val T_mo_thrown Y_mo_thrown := ⟨hp_okc_of (by decide +kernel), fv_mo, cv_mo, iv_mo, lv_mo, nv_mo⟩
def K_mo_polygon : List (Nat × Instr) := [(0, .aload_n 0), (1, .iload_n 1), (2, .ifCond .lt (11)), (5, .iload_n 1), (6, .aload_n 0), (7, .getfield 56), (10, .if_icmp .lt (7)), (13, .iconst 1), (14, .goto (17)), (17, .aload_n 0), (18, .getfield 65), (21, .bipush (16)), (23, .if_icmp .ne (7)), (26, .iconst 2), (27, .goto (4)), (30, .iconst 0), (31, .putfield 59), (34, .aload_n 0), (35, .getfield 59), (38, .ifCond .le (5)), (41, .iconst 0), (42, .ireturn), (43, .aload_n 0), (44, .getfield 7), (47, .aload_n 0), (48, .getfield 65), (51, .iload_n 1), (52, .iastore), (53, .aload_n 0), (54, .getfield 13), (57, .aload_n 0), (58, .getfield 65), (61, .iconst 0), (62, .iastore), (63, .aload_n 0), (64, .dup), (65, .getfield 65), (68, .iconst 1), (69, .iadd), (70, .putfield 65), (73, .aload_n 0), (74, .getfield 65), (77, .iconst 1), (78, .isub), (79, .ireturn)]
def T_mo_polygon : hp_T := ("EdgeSweepsModel", K_mo_polygon, fl_mo, cl_mo, ne_mo, ex_mo, it_mo, lo_mo)
theorem V_mo_polygon : hp_val T_mo_polygon Y_mo_polygon := ⟨hp_okc_of (by decide +kernel), fv_mo, cv_mo, iv_mo, lv_mo, nv_mo⟩
def K_mo_corner : List (Nat × Instr) := [(0, .aload_n 0), (1, .iload_n 1), (2, .ifCond .lt (11)), (5, .iload_n 1), (6, .aload_n 0), (7, .getfield 65), (10, .if_icmp .lt (7)), (13, .iconst 1), (14, .goto (53)), (17, .aload_n 0), (18, .getfield 13), (21, .iload_n 1), (22, .iaload), (23, .bipush (16)), (25, .if_icmp .ne (7)), (28, .iconst 2), (29, .goto (38)), (32, .lload_n 2), (33, .lconst 0), (34, .lcmp), (35, .ifCond .lt (27)), (38, .lload_n 2), (39, .ldc2_w 68), (42, .lcmp), (43, .ifCond .gt (19)), (46, .lload 4), (48, .lconst 0), (49, .lcmp), (50, .ifCond .lt (12)), (53, .lload 4), (55, .ldc2_w 68), (58, .lcmp), (59, .ifCond .le (7)), (62, .iconst 3), (63, .goto (4)), (66, .iconst 0), (67, .putfield 59), (70, .aload_n 0), (71, .getfield 59), (74, .ifCond .le (5)), (77, .iconst 0), (78, .ireturn), (79, .bipush (16)), (81, .iload_n 1), (82, .imul), (83, .aload_n 0), (84, .getfield 13), (87, .iload_n 1), (88, .iaload), (89, .iadd), (90, .istore 6), (92, .aload_n 0), (93, .getfield 13), (96, .iload_n 1), (97, .iaload), (98, .ifCond .le (49)), (101, .aload_n 0), (102, .getfield 16), (105, .iload 6), (107, .iconst 1), (108, .isub), (109, .iaload), (110, .i2l), (111, .lload_n 2), (112, .lcmp), (113, .ifCond .ne (7)), (116, .iconst 1), (117, .goto (4)), (120, .iconst 0), (121, .aload_n 0), (122, .getfield 19), (125, .iload 6), (127, .iconst 1), (128, .isub), (129, .iaload), (130, .i2l), (131, .lload 4), (133, .lcmp), (134, .ifCond .ne (7)), (137, .iconst 1), (138, .goto (4)), (141, .iconst 0), (142, .if_icmp .ne (5)), (145, .iconst 0), (146, .ireturn), (147, .aload_n 0), (148, .getfield 16), (151, .iload 6), (153, .lload_n 2), (154, .l2i), (155, .iastore), (156, .aload_n 0), (157, .getfield 19), (160, .iload 6), (162, .lload 4), (164, .l2i), (165, .iastore), (166, .aload_n 0), (167, .getfield 13), (170, .iload_n 1), (171, .dup2), (172, .iaload), (173, .iconst 1), (174, .iadd), (175, .iastore), (176, .iconst 1), (177, .ireturn)]
def T_mo_corner : hp_T := ("EdgeSweepsModel", K_mo_corner, fl_mo, cl_mo, ne_mo, ex_mo, it_mo, lo_mo)
theorem V_mo_corner : hp_val T_mo_corner Y_mo_corner := ⟨hp_okc_of (by decide +kernel), fv_mo, cv_mo, iv_mo, lv_mo, nv_mo⟩
def K_mo_clear : List (Nat × Instr) := [(0, .aload_n 0), (1, .iconst 0), (2, .putfield 59), (5, .aload_n 0), (6, .iconst 0), (7, .putfield 65), (10, .aload_n 0), (11, .iconst 0), (12, .putfield 62), (15, .return_)]
def T_mo_clear : hp_T := ("EdgeSweepsModel", K_mo_clear, fl_mo, cl_mo, ne_mo, ex_mo, it_mo, lo_mo)
theorem V_mo_clear : hp_val T_mo_clear Y_mo_clear := ⟨hp_okc_of (by decide +kernel), fv_mo, cv_mo, iv_mo, lv_mo, nv_mo⟩
def K_mo_strips : List (Nat × Instr) := [(0, .aload_n 0), (1, .iload_n 1), (2, .iconst 1), (3, .if_icmp .lt (9)), (6, .iload_n 1), (7, .bipush (64)), (9, .if_icmp .le (7)), (12, .iconst 1), (13, .goto (4)), (16, .iconst 0), (17, .putfield 59), (20, .aload_n 0), (21, .getfield 59), (24, .ifCond .le (5)), (27, .iconst 0), (28, .ireturn), (29, .aload_n 0), (30, .getfield 26), (33, .istore_n 2), (34, .aload_n 0), (35, .iload_n 1), (36, .putfield 26), (39, .iload_n 2), (40, .ireturn)]
def T_mo_strips : hp_T := ("EdgeSweepsModel", K_mo_strips, fl_mo, cl_mo, ne_mo, ex_mo, it_mo, lo_mo)
theorem V_mo_strips : hp_val T_mo_strips Y_mo_strips := ⟨hp_okc_of (by decide +kernel), fv_mo, cv_mo, iv_mo, lv_mo, nv_mo⟩
def K_mo_op : List (Nat × Instr) := [(0, .aload_n 0), (1, .aload_n 0), (2, .iload_n 2), (3, .invokevirtual 98), (6, .ifCond .eq (11)), (9, .aload_n 0), (10, .iload_n 3), (11, .invokevirtual 98), (14, .ifCond .ne (7)), (17, .iconst 1), (18, .goto (30)), (21, .aload_n 0), (22, .getfield 62), (25, .bipush (24)), (27, .if_icmp .ne (7)), (30, .iconst 2), (31, .goto (17)), (34, .iload_n 1), (35, .ifCond .lt (8)), (38, .iload_n 1), (39, .iconst 5), (40, .if_icmp .le (7)), (43, .iconst 3), (44, .goto (4)), (47, .iconst 0), (48, .putfield 59), (51, .aload_n 0), (52, .getfield 59), (55, .ifCond .le (5)), (58, .iconst 0), (59, .ireturn), (60, .aload_n 0), (61, .iload_n 2), (62, .iconst 1), (63, .invokevirtual 101), (66, .aload_n 0), (67, .iload_n 3), (68, .iconst 0), (69, .invokevirtual 101), (72, .iload_n 1), (73, .iconst 3), (74, .if_icmp .le (7)), (77, .aload_n 0), (78, .invokevirtual 105), (81, .iconst 0), (82, .istore 4), (84, .iload 4), (86, .bipush (64)), (88, .if_icmp .ge (199)), (91, .iload_n 1), (92, .ifCond .ne (21)), (95, .aload_n 0), (96, .getfield 30), (99, .iload 4), (101, .laload), (102, .aload_n 0), (103, .getfield 33), (106, .iload 4), (108, .laload), (109, .lor), (110, .goto (77)), (113, .iload_n 1), (114, .iconst 1), (115, .if_icmp .ne (21)), (118, .aload_n 0), (119, .getfield 30), (122, .iload 4), (124, .laload), (125, .aload_n 0), (126, .getfield 33), (129, .iload 4), (131, .laload), (132, .land), (133, .goto (54)), (136, .iload_n 1), (137, .iconst 2), (138, .if_icmp .ne (25)), (141, .aload_n 0), (142, .getfield 30), (145, .iload 4), (147, .laload), (148, .aload_n 0), (149, .getfield 33), (152, .iload 4), (154, .laload), (155, .ldc2_w 108), (158, .lxor), (159, .land), (160, .goto (27)), (163, .iload_n 1), (164, .iconst 3), (165, .if_icmp .ne (21)), (168, .aload_n 0), (169, .getfield 30), (172, .iload 4), (174, .laload), (175, .aload_n 0), (176, .getfield 33), (179, .iload 4), (181, .laload), (182, .lxor), (183, .goto (4)), (186, .lconst 0), (187, .lstore 5), (189, .iconst 0), (190, .istore 7), (192, .iload 7), (194, .bipush (64)), (196, .if_icmp .ge (76)), (199, .iload_n 1), (200, .iconst 3), (201, .if_icmp .le (71)), (204, .aload_n 0), (205, .getfield 39), (208, .bipush (64)), (210, .iload 4), (212, .imul), (213, .iload 7), (215, .iadd), (216, .iaload), (217, .istore 8), (219, .lload 5), (221, .iload 8), (223, .iconst (-1)), (224, .if_icmp .eq (38)), (227, .iload_n 1), (228, .iconst 4), (229, .if_icmp .ne (16)), (232, .aload_n 0), (233, .getfield 48), (236, .iload 8), (238, .baload), (239, .ifCond .eq (23)), (242, .goto (13)), (245, .aload_n 0), (246, .getfield 52), (249, .iload 8), (251, .baload), (252, .ifCond .eq (10)), (255, .lconst 1), (256, .iload 7), (258, .lshl), (259, .goto (4)), (262, .lconst 0), (263, .lor), (264, .lstore 5), (266, .iinc 7 (1)), (269, .goto (-77)), (272, .aload_n 0), (273, .getfield 36), (276, .iload 4), (278, .lload 5), (280, .lastore), (281, .iinc 4 (1)), (284, .goto (-200)), (287, .aload_n 0), (288, .invokevirtual 110), (291, .ireturn)]
def T_mo_op : hp_T := ("EdgeSweepsModel", K_mo_op, fl_mo, cl_mo, ne_mo, ex_mo, it_mo, lo_mo)
theorem V_mo_op : hp_val T_mo_op Y_mo_op := ⟨hp_okc_of (by decide +kernel), fv_mo, cv_mo, iv_mo, lv_mo, nv_mo⟩
def K_mo_isLayer : List (Nat × Instr) := [(0, .iload_n 1), (1, .ifCond .lt (20)), (4, .iload_n 1), (5, .aload_n 0), (6, .getfield 56), (9, .aload_n 0), (10, .getfield 62), (13, .iadd), (14, .if_icmp .ge (7)), (17, .iconst 1), (18, .goto (4)), (21, .iconst 0), (22, .ireturn)]
def T_mo_isLayer : hp_T := ("EdgeSweepsModel", K_mo_isLayer, fl_mo, cl_mo, ne_mo, ex_mo, it_mo, lo_mo)
theorem V_mo_isLayer : hp_val T_mo_isLayer Y_mo_isLayer := ⟨hp_okc_of (by decide +kernel), fv_mo, cv_mo, iv_mo, lv_mo, nv_mo⟩
def K_mo_load : List (Nat × Instr) := [(0, .iconst 0), (1, .istore_n 3), (2, .iload_n 3), (3, .bipush (64)), (5, .if_icmp .ge (149)), (8, .iload_n 1), (9, .aload_n 0), (10, .getfield 56), (13, .if_icmp .lt (22)), (16, .aload_n 0), (17, .getfield 22), (20, .bipush (64)), (22, .iload_n 1), (23, .aload_n 0), (24, .getfield 56), (27, .isub), (28, .imul), (29, .iload_n 3), (30, .iadd), (31, .laload), (32, .goto (4)), (35, .lconst 0), (36, .lstore 4), (38, .iconst 0), (39, .istore 6), (41, .iload 6), (43, .aload_n 0), (44, .getfield 65), (47, .if_icmp .ge (78)), (50, .iload_n 1), (51, .aload_n 0), (52, .getfield 56), (55, .if_icmp .ge (70)), (58, .iconst 0), (59, .istore 7), (61, .iload 7), (63, .bipush (64)), (65, .if_icmp .ge (54)), (68, .aload_n 0), (69, .getfield 7), (72, .iload 6), (74, .iaload), (75, .iload_n 1), (76, .if_icmp .ne (43)), (79, .aload_n 0), (80, .iload 6), (82, .invokevirtual 70), (85, .ifCond .eq (34)), (88, .lload 4), (90, .aload_n 0), (91, .iload 6), (93, .iload 7), (95, .iload_n 3), (96, .invokevirtual 74), (99, .ifCond .eq (10)), (102, .lconst 1), (103, .iload 7), (105, .lshl), (106, .goto (4)), (109, .lconst 0), (110, .lor), (111, .lstore 4), (113, .iinc 7 (1)), (116, .goto (-55)), (119, .iinc 6 (1)), (122, .goto (-81)), (125, .iload_n 2), (126, .ifCond .eq (14)), (129, .aload_n 0), (130, .getfield 30), (133, .iload_n 3), (134, .lload 4), (136, .lastore), (137, .goto (11)), (140, .aload_n 0), (141, .getfield 33), (144, .iload_n 3), (145, .lload 4), (147, .lastore), (148, .iinc 3 (1)), (151, .goto (-149)), (154, .return_)]
def T_mo_load : hp_T := ("EdgeSweepsModel", K_mo_load, fl_mo, cl_mo, ne_mo, ex_mo, it_mo, lo_mo)
theorem V_mo_load : hp_val T_mo_load Y_mo_load := ⟨hp_okc_of (by decide +kernel), fv_mo, cv_mo, iv_mo, lv_mo, nv_mo⟩
def K_mo_isClosed : List (Nat × Instr) := [(0, .bipush (16)), (2, .iload_n 1), (3, .imul), (4, .istore_n 2), (5, .iload_n 2), (6, .aload_n 0), (7, .getfield 13), (10, .iload_n 1), (11, .iaload), (12, .iadd), (13, .iconst 1), (14, .isub), (15, .istore_n 3), (16, .aload_n 0), (17, .getfield 13), (20, .iload_n 1), (21, .iaload), (22, .iconst 3), (23, .if_icmp .le (50)), (26, .aload_n 0), (27, .getfield 16), (30, .iload_n 2), (31, .iaload), (32, .aload_n 0), (33, .getfield 16), (36, .iload_n 3), (37, .iaload), (38, .if_icmp .ne (7)), (41, .iconst 1), (42, .goto (4)), (45, .iconst 0), (46, .aload_n 0), (47, .getfield 19), (50, .iload_n 2), (51, .iaload), (52, .aload_n 0), (53, .getfield 19), (56, .iload_n 3), (57, .iaload), (58, .if_icmp .ne (7)), (61, .iconst 1), (62, .goto (4)), (65, .iconst 0), (66, .if_icmp .eq (7)), (69, .iconst 1), (70, .goto (4)), (73, .iconst 0), (74, .ireturn)]
def T_mo_isClosed : hp_T := ("EdgeSweepsModel", K_mo_isClosed, fl_mo, cl_mo, ne_mo, ex_mo, it_mo, lo_mo)
theorem V_mo_isClosed : hp_val T_mo_isClosed Y_mo_isClosed := ⟨hp_okc_of (by decide +kernel), fv_mo, cv_mo, iv_mo, lv_mo, nv_mo⟩
def K_mo_isIn : List (Nat × Instr) := [(0, .iconst 0), (1, .istore 4), (3, .iconst 0), (4, .istore 5), (6, .iload 5), (8, .aload_n 0), (9, .getfield 13), (12, .iload_n 1), (13, .iaload), (14, .if_icmp .ge (169)), (17, .bipush (16)), (19, .iload_n 1), (20, .imul), (21, .iload 5), (23, .iadd), (24, .istore 6), (26, .bipush (16)), (28, .iload_n 1), (29, .imul), (30, .iload 5), (32, .iconst 1), (33, .iadd), (34, .aload_n 0), (35, .getfield 13), (38, .iload_n 1), (39, .iaload), (40, .irem), (41, .iadd), (42, .istore 7), (44, .aload_n 0), (45, .getfield 19), (48, .iload 6), (50, .iaload), (51, .aload_n 0), (52, .getfield 19), (55, .iload 7), (57, .iaload), (58, .if_icmp .ge (13)), (61, .aload_n 0), (62, .getfield 19), (65, .iload 6), (67, .iaload), (68, .goto (10)), (71, .aload_n 0), (72, .getfield 19), (75, .iload 7), (77, .iaload), (78, .istore 8), (80, .aload_n 0), (81, .getfield 19), (84, .iload 6), (86, .iaload), (87, .aload_n 0), (88, .getfield 19), (91, .iload 7), (93, .iaload), (94, .if_icmp .ge (13)), (97, .aload_n 0), (98, .getfield 19), (101, .iload 7), (103, .iaload), (104, .goto (10)), (107, .aload_n 0), (108, .getfield 19), (111, .iload 6), (113, .iaload), (114, .istore 9), (116, .aload_n 0), (117, .getfield 16), (120, .iload 6), (122, .iaload), (123, .aload_n 0), (124, .getfield 16), (127, .iload 7), (129, .iaload), (130, .if_icmp .ne (30)), (133, .aload_n 0), (134, .getfield 16), (137, .iload 6), (139, .iaload), (140, .iload_n 2), (141, .if_icmp .le (19)), (144, .iload 8), (146, .iload_n 3), (147, .if_icmp .gt (13)), (150, .iload_n 3), (151, .iload 9), (153, .if_icmp .ge (7)), (156, .iconst 1), (157, .goto (4)), (160, .iconst 0), (161, .istore 10), (163, .iload 4), (165, .iload 10), (167, .if_icmp .eq (7)), (170, .iconst 1), (171, .goto (4)), (174, .iconst 0), (175, .istore 4), (177, .iinc 5 (1)), (180, .goto (-174)), (183, .iload 4), (185, .ireturn)]
def T_mo_isIn : hp_T := ("EdgeSweepsModel", K_mo_isIn, fl_mo, cl_mo, ne_mo, ex_mo, it_mo, lo_mo)
theorem V_mo_isIn : hp_val T_mo_isIn Y_mo_isIn := ⟨hp_okc_of (by decide +kernel), fv_mo, cv_mo, iv_mo, lv_mo, nv_mo⟩
def K_mo_relate : List (Nat × Instr) := [(0, .aload_n 0), (1, .invokevirtual 92), (4, .iconst 0), (5, .istore_n 1), (6, .iload_n 1), (7, .aload_n 0), (8, .getfield 82), (11, .if_icmp .ge (23)), (14, .aload_n 0), (15, .getfield 48), (18, .iload_n 1), (19, .iconst 1), (20, .bastore), (21, .aload_n 0), (22, .getfield 52), (25, .iload_n 1), (26, .iconst 0), (27, .bastore), (28, .iinc 1 (1)), (31, .goto (-25)), (34, .iconst 0), (35, .istore_n 1), (36, .iload_n 1), (37, .sipush (4096)), (40, .if_icmp .ge (91)), (43, .aload_n 0), (44, .getfield 39), (47, .iload_n 1), (48, .iaload), (49, .istore_n 2), (50, .iload_n 2), (51, .iconst (-1)), (52, .if_icmp .eq (73)), (55, .aload_n 0), (56, .getfield 48), (59, .iload_n 2), (60, .aload_n 0), (61, .getfield 48), (64, .iload_n 2), (65, .baload), (66, .ifCond .eq (22)), (69, .aload_n 0), (70, .iload_n 1), (71, .bipush (64)), (73, .irem), (74, .iload_n 1), (75, .bipush (64)), (77, .idiv), (78, .invokevirtual 89), (81, .ifCond .eq (7)), (84, .iconst 1), (85, .goto (4)), (88, .iconst 0), (89, .bastore), (90, .aload_n 0), (91, .getfield 52), (94, .iload_n 2), (95, .aload_n 0), (96, .getfield 52), (99, .iload_n 2), (100, .baload), (101, .ifCond .ne (18)), (104, .aload_n 0), (105, .iload_n 1), (106, .bipush (64)), (108, .irem), (109, .iload_n 1), (110, .bipush (64)), (112, .idiv), (113, .invokevirtual 95), (116, .ifCond .eq (7)), (119, .iconst 1), (120, .goto (4)), (123, .iconst 0), (124, .bastore), (125, .iinc 1 (1)), (128, .goto (-92)), (131, .return_)]
def T_mo_relate : hp_T := ("EdgeSweepsModel", K_mo_relate, fl_mo, cl_mo, ne_mo, ex_mo, it_mo, lo_mo)
theorem V_mo_relate : hp_val T_mo_relate Y_mo_relate := ⟨hp_okc_of (by decide +kernel), fv_mo, cv_mo, iv_mo, lv_mo, nv_mo⟩
def K_mo_label : List (Nat × Instr) := [(0, .aload_n 0), (1, .iconst 0), (2, .putfield 82), (5, .iconst 0), (6, .istore_n 1), (7, .iload_n 1), (8, .sipush (4096)), (11, .if_icmp .ge (16)), (14, .aload_n 0), (15, .getfield 39), (18, .iload_n 1), (19, .iconst (-1)), (20, .iastore), (21, .iinc 1 (1)), (24, .goto (-17)), (27, .iconst 0), (28, .istore_n 1), (29, .iload_n 1), (30, .sipush (4096)), (33, .if_icmp .ge (215)), (36, .aload_n 0), (37, .getfield 39), (40, .iload_n 1), (41, .iaload), (42, .iconst (-1)), (43, .if_icmp .ne (199)), (46, .aload_n 0), (47, .iload_n 1), (48, .bipush (64)), (50, .irem), (51, .iload_n 1), (52, .bipush (64)), (54, .idiv), (55, .invokevirtual 85), (58, .ifCond .ne (6)), (61, .goto (181)), (64, .iconst 1), (65, .istore_n 2), (66, .aload_n 0), (67, .getfield 42), (70, .iconst 0), (71, .iload_n 1), (72, .iastore), (73, .aload_n 0), (74, .getfield 39), (77, .iload_n 1), (78, .aload_n 0), (79, .getfield 82), (82, .iastore), (83, .iload_n 2), (84, .ifCond .le (148)), (87, .iinc 2 (-1)), (90, .aload_n 0), (91, .getfield 42), (94, .iload_n 2), (95, .iaload), (96, .istore_n 3), (97, .iconst 0), (98, .istore 4), (100, .iload 4), (102, .iconst 4), (103, .if_icmp .ge (126)), (106, .iload_n 3), (107, .bipush (64)), (109, .irem), (110, .iload 4), (112, .ifCond .ne (7)), (115, .iconst 1), (116, .goto (14)), (119, .iload 4), (121, .iconst 1), (122, .if_icmp .ne (7)), (125, .iconst (-1)), (126, .goto (4)), (129, .iconst 0), (130, .iadd), (131, .istore 5), (133, .iload_n 3), (134, .bipush (64)), (136, .idiv), (137, .iload 4), (139, .iconst 2), (140, .if_icmp .ne (7)), (143, .iconst 1), (144, .goto (14)), (147, .iload 4), (149, .iconst 3), (150, .if_icmp .ne (7)), (153, .iconst (-1)), (154, .goto (4)), (157, .iconst 0), (158, .iadd), (159, .istore 6), (161, .aload_n 0), (162, .iload 5), (164, .iload 6), (166, .invokevirtual 85), (169, .ifCond .eq (54)), (172, .aload_n 0), (173, .getfield 39), (176, .bipush (64)), (178, .iload 6), (180, .imul), (181, .iload 5), (183, .iadd), (184, .iaload), (185, .iconst (-1)), (186, .if_icmp .ne (37)), (189, .aload_n 0), (190, .getfield 39), (193, .bipush (64)), (195, .iload 6), (197, .imul), (198, .iload 5), (200, .iadd), (201, .aload_n 0), (202, .getfield 82), (205, .iastore), (206, .aload_n 0), (207, .getfield 42), (210, .iload_n 2), (211, .bipush (64)), (213, .iload 6), (215, .imul), (216, .iload 5), (218, .iadd), (219, .iastore), (220, .iinc 2 (1)), (223, .iinc 4 (1)), (226, .goto (-126)), (229, .goto (-146)), (232, .aload_n 0), (233, .dup), (234, .getfield 82), (237, .iconst 1), (238, .iadd), (239, .putfield 82), (242, .iinc 1 (1)), (245, .goto (-216)), (248, .return_)]
def T_mo_label : hp_T := ("EdgeSweepsModel", K_mo_label, fl_mo, cl_mo, ne_mo, ex_mo, it_mo, lo_mo)
theorem V_mo_label : hp_val T_mo_label Y_mo_label := ⟨hp_okc_of (by decide +kernel), fv_mo, cv_mo, iv_mo, lv_mo, nv_mo⟩
def K_mo_isOne : List (Nat × Instr) := [(0, .iload_n 1), (1, .ifCond .lt (36)), (4, .iload_n 1), (5, .bipush (64)), (7, .if_icmp .ge (30)), (10, .iload_n 2), (11, .ifCond .lt (26)), (14, .iload_n 2), (15, .bipush (64)), (17, .if_icmp .ge (20)), (20, .aload_n 0), (21, .getfield 30), (24, .iload_n 2), (25, .laload), (26, .iload_n 1), (27, .invokestatic 78), (30, .ifCond .eq (7)), (33, .iconst 1), (34, .goto (4)), (37, .iconst 0), (38, .ireturn)]
def T_mo_isOne : hp_T := ("EdgeSweepsModel", K_mo_isOne, fl_mo, cl_mo, ne_mo, ex_mo, it_mo, lo_mo)
theorem V_mo_isOne : hp_val T_mo_isOne Y_mo_isOne := ⟨hp_okc_of (by decide +kernel), fv_mo, cv_mo, iv_mo, lv_mo, nv_mo⟩
def K_mo_bit : List (Nat × Instr) := [(0, .lload_n 0), (1, .iload_n 2), (2, .lushr), (3, .lconst 1), (4, .land), (5, .lconst 1), (6, .lcmp), (7, .ifCond .ne (7)), (10, .iconst 1), (11, .goto (4)), (14, .iconst 0), (15, .ireturn)]
def T_mo_bit : hp_T := ("EdgeSweepsModel", K_mo_bit, fl_mo, cl_mo, ne_mo, ex_mo, it_mo, lo_mo)
theorem V_mo_bit : hp_val T_mo_bit Y_mo_bit := ⟨hp_okc_of (by decide +kernel), fv_mo, cv_mo, iv_mo, lv_mo, nv_mo⟩
def K_mo_isTwo : List (Nat × Instr) := [(0, .iload_n 1), (1, .ifCond .lt (36)), (4, .iload_n 1), (5, .bipush (64)), (7, .if_icmp .ge (30)), (10, .iload_n 2), (11, .ifCond .lt (26)), (14, .iload_n 2), (15, .bipush (64)), (17, .if_icmp .ge (20)), (20, .aload_n 0), (21, .getfield 33), (24, .iload_n 2), (25, .laload), (26, .iload_n 1), (27, .invokestatic 78), (30, .ifCond .eq (7)), (33, .iconst 1), (34, .goto (4)), (37, .iconst 0), (38, .ireturn)]
def T_mo_isTwo : hp_T := ("EdgeSweepsModel", K_mo_isTwo, fl_mo, cl_mo, ne_mo, ex_mo, it_mo, lo_mo)
theorem V_mo_isTwo : hp_val T_mo_isTwo Y_mo_isTwo := ⟨hp_okc_of (by decide +kernel), fv_mo, cv_mo, iv_mo, lv_mo, nv_mo⟩
def K_mo_isTouched : List (Nat × Instr) := [(0, .iconst 0), (1, .istore_n 3), (2, .iconst (-1)), (3, .istore 4), (5, .iload 4), (7, .iconst 1), (8, .if_icmp .gt (49)), (11, .iconst (-1)), (12, .istore 5), (14, .iload 5), (16, .iconst 1), (17, .if_icmp .gt (34)), (20, .iload_n 3), (21, .ifCond .ne (18)), (24, .aload_n 0), (25, .iload_n 1), (26, .iload 4), (28, .iadd), (29, .iload_n 2), (30, .iload 5), (32, .iadd), (33, .invokevirtual 89), (36, .ifCond .eq (7)), (39, .iconst 1), (40, .goto (4)), (43, .iconst 0), (44, .istore_n 3), (45, .iinc 5 (1)), (48, .goto (-34)), (51, .iinc 4 (1)), (54, .goto (-49)), (57, .iload_n 3), (58, .ireturn)]
def T_mo_isTouched : hp_T := ("EdgeSweepsModel", K_mo_isTouched, fl_mo, cl_mo, ne_mo, ex_mo, it_mo, lo_mo)
theorem V_mo_isTouched : hp_val T_mo_isTouched Y_mo_isTouched := ⟨hp_okc_of (by decide +kernel), fv_mo, cv_mo, iv_mo, lv_mo, nv_mo⟩
def K_mo_keep : List (Nat × Instr) := [(0, .iconst 0), (1, .istore_n 1), (2, .iload_n 1), (3, .bipush (64)), (5, .if_icmp .ge (29)), (8, .aload_n 0), (9, .getfield 22), (12, .bipush (64)), (14, .aload_n 0), (15, .getfield 62), (18, .imul), (19, .iload_n 1), (20, .iadd), (21, .aload_n 0), (22, .getfield 36), (25, .iload_n 1), (26, .laload), (27, .lastore), (28, .iinc 1 (1)), (31, .goto (-29)), (34, .aload_n 0), (35, .dup), (36, .getfield 62), (39, .iconst 1), (40, .iadd), (41, .putfield 62), (44, .aload_n 0), (45, .getfield 56), (48, .aload_n 0), (49, .getfield 62), (52, .iadd), (53, .iconst 1), (54, .isub), (55, .ireturn)]
def T_mo_keep : hp_T := ("EdgeSweepsModel", K_mo_keep, fl_mo, cl_mo, ne_mo, ex_mo, it_mo, lo_mo)
theorem V_mo_keep : hp_val T_mo_keep Y_mo_keep := ⟨hp_okc_of (by decide +kernel), fv_mo, cv_mo, iv_mo, lv_mo, nv_mo⟩
def K_mo_size : List (Nat × Instr) := [(0, .aload_n 0), (1, .aload_n 0), (2, .iload_n 1), (3, .invokevirtual 98), (6, .ifCond .ne (7)), (9, .iconst 1), (10, .goto (43)), (13, .aload_n 0), (14, .getfield 62), (17, .bipush (24)), (19, .if_icmp .ne (7)), (22, .iconst 2), (23, .goto (30)), (26, .lload_n 2), (27, .lconst 0), (28, .lcmp), (29, .ifCond .eq (19)), (32, .lload_n 2), (33, .ldc2_w 114), (36, .lcmp), (37, .ifCond .lt (11)), (40, .lload_n 2), (41, .ldc2_w 68), (44, .lcmp), (45, .ifCond .le (7)), (48, .iconst 3), (49, .goto (4)), (52, .iconst 0), (53, .putfield 59), (56, .aload_n 0), (57, .getfield 59), (60, .ifCond .le (5)), (63, .iconst 0), (64, .ireturn), (65, .aload_n 0), (66, .iload_n 1), (67, .iconst 1), (68, .invokevirtual 101), (71, .lload_n 2), (72, .lconst 0), (73, .lcmp), (74, .ifCond .ge (7)), (77, .iconst 1), (78, .goto (4)), (81, .iconst 0), (82, .istore 5), (84, .iload 5), (86, .ifCond .eq (8)), (89, .lload_n 2), (90, .lneg), (91, .goto (4)), (94, .lload_n 2), (95, .l2i), (96, .istore 6), (98, .iconst 0), (99, .istore 7), (101, .iload 7), (103, .bipush (64)), (105, .if_icmp .ge (113)), (108, .lconst 0), (109, .lstore 8), (111, .iconst 0), (112, .istore 10), (114, .iload 10), (116, .bipush (64)), (118, .if_icmp .ge (85)), (121, .aload_n 0), (122, .iload 10), (124, .iload 7), (126, .iload 6), (128, .iload 4), (130, .ifCond .eq (10)), (133, .iload 6), (135, .iconst 2), (136, .idiv), (137, .goto (5)), (140, .iload 6), (142, .iload 5), (144, .invokevirtual 116), (147, .istore 11), (149, .iload 4), (151, .ifCond .eq (28)), (154, .iload 11), (156, .iload 5), (158, .if_icmp .ne (21)), (161, .aload_n 0), (162, .iload 10), (164, .iload 7), (166, .iload 6), (168, .iconst 2), (169, .idiv), (170, .iload 6), (172, .iload 5), (174, .invokevirtual 116), (177, .istore 11), (179, .lload 8), (181, .iload 11), (183, .ifCond .eq (10)), (186, .lconst 1), (187, .iload 10), (189, .lshl), (190, .goto (4)), (193, .lconst 0), (194, .lor), (195, .lstore 8), (197, .iinc 10 (1)), (200, .goto (-86)), (203, .aload_n 0), (204, .getfield 36), (207, .iload 7), (209, .lload 8), (211, .lastore), (212, .iinc 7 (1)), (215, .goto (-114)), (218, .aload_n 0), (219, .invokevirtual 110), (222, .ireturn)]
def T_mo_size : hp_T := ("EdgeSweepsModel", K_mo_size, fl_mo, cl_mo, ne_mo, ex_mo, it_mo, lo_mo)
theorem V_mo_size : hp_val T_mo_size Y_mo_size := ⟨hp_okc_of (by decide +kernel), fv_mo, cv_mo, iv_mo, lv_mo, nv_mo⟩
def K_mo_isRound : List (Nat × Instr) := [(0, .iconst 0), (1, .istore 6), (3, .iconst 1), (4, .istore 7), (6, .iload_n 2), (7, .iload 4), (9, .isub), (10, .istore 8), (12, .iload 8), (14, .iload_n 2), (15, .iload 4), (17, .iadd), (18, .if_icmp .gt (101)), (21, .iload_n 1), (22, .iload_n 3), (23, .isub), (24, .istore 9), (26, .iload 9), (28, .iload_n 1), (29, .iload_n 3), (30, .iadd), (31, .if_icmp .gt (53)), (34, .aload_n 0), (35, .iload 9), (37, .iload 8), (39, .invokevirtual 85), (42, .istore 10), (44, .iload 6), (46, .ifCond .ne (8)), (49, .iload 10), (51, .ifCond .eq (7)), (54, .iconst 1), (55, .goto (4)), (58, .iconst 0), (59, .istore 6), (61, .iload 7), (63, .ifCond .eq (12)), (66, .iload 10), (68, .ifCond .eq (7)), (71, .iconst 1), (72, .goto (4)), (75, .iconst 0), (76, .istore 7), (78, .iinc 9 (1)), (81, .goto (-55)), (84, .iload 5), (86, .ifCond .eq (11)), (89, .iload 7), (91, .ifCond .ne (22)), (94, .goto (8)), (97, .iload 6), (99, .ifCond .eq (14)), (102, .iload 5), (104, .ifCond .ne (7)), (107, .iconst 1), (108, .goto (4)), (111, .iconst 0), (112, .ireturn), (113, .iinc 8 (1)), (116, .goto (-104)), (119, .iload 5), (121, .ireturn)]
def T_mo_isRound : hp_T := ("EdgeSweepsModel", K_mo_isRound, fl_mo, cl_mo, ne_mo, ex_mo, it_mo, lo_mo)
theorem V_mo_isRound : hp_val T_mo_isRound Y_mo_isRound := ⟨hp_okc_of (by decide +kernel), fv_mo, cv_mo, iv_mo, lv_mo, nv_mo⟩
def K_mo_shapes : List (Nat × Instr) := [(0, .aload_n 0), (1, .iload_n 1), (2, .invokevirtual 120), (5, .ifCond .eq (10)), (8, .aload_n 0), (9, .getfield 82), (12, .goto (4)), (15, .iconst 0), (16, .ireturn)]
def T_mo_shapes : hp_T := ("EdgeSweepsModel", K_mo_shapes, fl_mo, cl_mo, ne_mo, ex_mo, it_mo, lo_mo)
theorem V_mo_shapes : hp_val T_mo_shapes Y_mo_shapes := ⟨hp_okc_of (by decide +kernel), fv_mo, cv_mo, iv_mo, lv_mo, nv_mo⟩
def K_mo_isReady : List (Nat × Instr) := [(0, .aload_n 0), (1, .aload_n 0), (2, .iload_n 1), (3, .invokevirtual 98), (6, .ifCond .eq (7)), (9, .iconst 0), (10, .goto (4)), (13, .iconst 1), (14, .putfield 59), (17, .aload_n 0), (18, .getfield 59), (21, .ifCond .le (5)), (24, .iconst 0), (25, .ireturn), (26, .aload_n 0), (27, .iload_n 1), (28, .iconst 1), (29, .invokevirtual 101), (32, .aload_n 0), (33, .invokevirtual 92), (36, .iconst 1), (37, .ireturn)]
def T_mo_isReady : hp_T := ("EdgeSweepsModel", K_mo_isReady, fl_mo, cl_mo, ne_mo, ex_mo, it_mo, lo_mo)
theorem V_mo_isReady : hp_val T_mo_isReady Y_mo_isReady := ⟨hp_okc_of (by decide +kernel), fv_mo, cv_mo, iv_mo, lv_mo, nv_mo⟩
def K_mo_at : List (Nat × Instr) := [(0, .aload_n 0), (1, .iload_n 1), (2, .invokevirtual 120), (5, .ifCond .eq (26)), (8, .iload_n 2), (9, .ifCond .lt (22)), (12, .iload_n 2), (13, .aload_n 0), (14, .getfield 82), (17, .if_icmp .ge (14)), (20, .iload 4), (22, .ifCond .lt (9)), (25, .iload 4), (27, .iconst 1), (28, .if_icmp .le (10)), (31, .aload_n 0), (32, .iconst 1), (33, .putfield 59), (36, .lconst 0), (37, .lreturn), (38, .iload_n 3), (39, .istore 5), (41, .iconst 0), (42, .istore 6), (44, .iload 6), (46, .bipush (64)), (48, .if_icmp .gt (60)), (51, .iconst 0), (52, .istore 7), (54, .iload 7), (56, .bipush (64)), (58, .if_icmp .gt (44)), (61, .aload_n 0), (62, .iload_n 2), (63, .iload 7), (65, .iload 6), (67, .invokevirtual 126), (70, .ifCond .eq (26)), (73, .iload 5), (75, .ifCond .ne (18)), (78, .iload 4), (80, .ifCond .ne (9)), (83, .iload 7), (85, .i2l), (86, .goto (6)), (89, .iload 6), (91, .i2l), (92, .lreturn), (93, .iinc 5 (-1)), (96, .iinc 7 (1)), (99, .goto (-45)), (102, .iinc 6 (1)), (105, .goto (-61)), (108, .aload_n 0), (109, .iconst 1), (110, .putfield 59), (113, .lconst 0), (114, .lreturn)]
def T_mo_at : hp_T := ("EdgeSweepsModel", K_mo_at, fl_mo, cl_mo, ne_mo, ex_mo, it_mo, lo_mo)
theorem V_mo_at : hp_val T_mo_at Y_mo_at := ⟨hp_okc_of (by decide +kernel), fv_mo, cv_mo, iv_mo, lv_mo, nv_mo⟩
def K_mo_isCorner : List (Nat × Instr) := [(0, .aload_n 0), (1, .iload_n 1), (2, .iload_n 2), (3, .iconst 1), (4, .isub), (5, .iload_n 3), (6, .iconst 1), (7, .isub), (8, .invokevirtual 123), (11, .istore 4), (13, .aload_n 0), (14, .iload_n 1), (15, .iload_n 2), (16, .iload_n 3), (17, .iconst 1), (18, .isub), (19, .invokevirtual 123), (22, .istore 5), (24, .aload_n 0), (25, .iload_n 1), (26, .iload_n 2), (27, .iconst 1), (28, .isub), (29, .iload_n 3), (30, .invokevirtual 123), (33, .istore 6), (35, .aload_n 0), (36, .iload_n 1), (37, .iload_n 2), (38, .iload_n 3), (39, .invokevirtual 123), (42, .istore 7), (44, .iload 4), (46, .ifCond .eq (7)), (49, .iconst 1), (50, .goto (4)), (53, .iconst 0), (54, .iload 5), (56, .ifCond .eq (7)), (59, .iconst 1), (60, .goto (4)), (63, .iconst 0), (64, .iadd), (65, .iload 6), (67, .ifCond .eq (7)), (70, .iconst 1), (71, .goto (4)), (74, .iconst 0), (75, .iadd), (76, .iload 7), (78, .ifCond .eq (7)), (81, .iconst 1), (82, .goto (4)), (85, .iconst 0), (86, .iadd), (87, .istore 8), (89, .iload 8), (91, .iconst 1), (92, .if_icmp .eq (22)), (95, .iload 8), (97, .iconst 3), (98, .if_icmp .eq (16)), (101, .iload 8), (103, .iconst 2), (104, .if_icmp .ne (14)), (107, .iload 4), (109, .iload 7), (111, .if_icmp .ne (7)), (114, .iconst 1), (115, .goto (4)), (118, .iconst 0), (119, .ireturn)]
def T_mo_isCorner : hp_T := ("EdgeSweepsModel", K_mo_isCorner, fl_mo, cl_mo, ne_mo, ex_mo, it_mo, lo_mo)
theorem V_mo_isCorner : hp_val T_mo_isCorner Y_mo_isCorner := ⟨hp_okc_of (by decide +kernel), fv_mo, cv_mo, iv_mo, lv_mo, nv_mo⟩
def K_mo_isOf : List (Nat × Instr) := [(0, .iload_n 2), (1, .ifCond .lt (38)), (4, .iload_n 2), (5, .bipush (64)), (7, .if_icmp .ge (32)), (10, .iload_n 3), (11, .ifCond .lt (28)), (14, .iload_n 3), (15, .bipush (64)), (17, .if_icmp .ge (22)), (20, .aload_n 0), (21, .getfield 39), (24, .bipush (64)), (26, .iload_n 3), (27, .imul), (28, .iload_n 2), (29, .iadd), (30, .iaload), (31, .iload_n 1), (32, .if_icmp .ne (7)), (35, .iconst 1), (36, .goto (4)), (39, .iconst 0), (40, .ireturn)]
def T_mo_isOf : hp_T := ("EdgeSweepsModel", K_mo_isOf, fl_mo, cl_mo, ne_mo, ex_mo, it_mo, lo_mo)
theorem V_mo_isOf : hp_val T_mo_isOf Y_mo_isOf := ⟨hp_okc_of (by decide +kernel), fv_mo, cv_mo, iv_mo, lv_mo, nv_mo⟩
def K_mo_in : List (Nat × Instr) := [(0, .aload_n 0), (1, .aload_n 0), (2, .iload_n 1), (3, .invokevirtual 98), (6, .ifCond .eq (7)), (9, .iconst 0), (10, .goto (4)), (13, .iconst 1), (14, .putfield 59), (17, .aload_n 0), (18, .getfield 59), (21, .ifCond .gt (33)), (24, .lload_n 2), (25, .lconst 0), (26, .lcmp), (27, .ifCond .lt (27)), (30, .lload_n 2), (31, .ldc2_w 68), (34, .lcmp), (35, .ifCond .ge (19)), (38, .lload 4), (40, .lconst 0), (41, .lcmp), (42, .ifCond .lt (12)), (45, .lload 4), (47, .ldc2_w 68), (50, .lcmp), (51, .ifCond .lt (5)), (54, .iconst 0), (55, .ireturn), (56, .aload_n 0), (57, .iload_n 1), (58, .iconst 1), (59, .invokevirtual 101), (62, .aload_n 0), (63, .lload_n 2), (64, .l2i), (65, .lload 4), (67, .l2i), (68, .invokevirtual 85), (71, .ireturn)]
def T_mo_in : hp_T := ("EdgeSweepsModel", K_mo_in, fl_mo, cl_mo, ne_mo, ex_mo, it_mo, lo_mo)
theorem V_mo_in : hp_val T_mo_in Y_mo_in := ⟨hp_okc_of (by decide +kernel), fv_mo, cv_mo, iv_mo, lv_mo, nv_mo⟩
def K_mo_touching : List (Nat × Instr) := [(0, .aload_n 0), (1, .aload_n 0), (2, .iload_n 1), (3, .invokevirtual 98), (6, .ifCond .eq (15)), (9, .aload_n 0), (10, .iload_n 2), (11, .invokevirtual 98), (14, .ifCond .eq (7)), (17, .iload_n 3), (18, .ifCond .ge (7)), (21, .iconst 1), (22, .goto (4)), (25, .iconst 0), (26, .putfield 59), (29, .aload_n 0), (30, .getfield 59), (33, .ifCond .le (5)), (36, .iconst 0), (37, .ireturn), (38, .aload_n 0), (39, .iload_n 1), (40, .iconst 1), (41, .invokevirtual 101), (44, .aload_n 0), (45, .iload_n 2), (46, .iconst 0), (47, .invokevirtual 101), (50, .aload_n 0), (51, .invokevirtual 105), (54, .iload_n 3), (55, .istore 4), (57, .iconst 0), (58, .istore 5), (60, .iload 5), (62, .aload_n 0), (63, .getfield 82), (66, .if_icmp .ge (30)), (69, .aload_n 0), (70, .getfield 52), (73, .iload 5), (75, .baload), (76, .ifCond .eq (14)), (79, .iload 4), (81, .ifCond .ne (6)), (84, .iload 5), (86, .ireturn), (87, .iinc 4 (-1)), (90, .iinc 5 (1)), (93, .goto (-33)), (96, .iconst (-1)), (97, .ireturn)]
def T_mo_touching : hp_T := ("EdgeSweepsModel", K_mo_touching, fl_mo, cl_mo, ne_mo, ex_mo, it_mo, lo_mo)
theorem V_mo_touching : hp_val T_mo_touching Y_mo_touching := ⟨hp_okc_of (by decide +kernel), fv_mo, cv_mo, iv_mo, lv_mo, nv_mo⟩
def K_mo_nets : List (Nat × Instr) := [(0, .aload_n 0), (1, .iload_n 1), (2, .invokevirtual 120), (5, .ifCond .ne (5)), (8, .iconst 0), (9, .ireturn), (10, .aload_n 0), (11, .invokevirtual 129), (14, .iconst 0), (15, .istore_n 2), (16, .iconst 0), (17, .istore_n 3), (18, .iload_n 3), (19, .aload_n 0), (20, .getfield 82), (23, .if_icmp .ge (27)), (26, .iload_n 2), (27, .aload_n 0), (28, .getfield 45), (31, .iload_n 3), (32, .iaload), (33, .iload_n 3), (34, .if_icmp .ne (7)), (37, .iconst 1), (38, .goto (4)), (41, .iconst 0), (42, .iadd), (43, .istore_n 2), (44, .iinc 3 (1)), (47, .goto (-29)), (50, .iload_n 2), (51, .ireturn)]
def T_mo_nets : hp_T := ("EdgeSweepsModel", K_mo_nets, fl_mo, cl_mo, ne_mo, ex_mo, it_mo, lo_mo)
theorem V_mo_nets : hp_val T_mo_nets Y_mo_nets := ⟨hp_okc_of (by decide +kernel), fv_mo, cv_mo, iv_mo, lv_mo, nv_mo⟩
def K_mo_join : List (Nat × Instr) := [(0, .iconst 0), (1, .istore_n 1), (2, .iload_n 1), (3, .aload_n 0), (4, .getfield 82), (7, .if_icmp .ge (16)), (10, .aload_n 0), (11, .getfield 45), (14, .iload_n 1), (15, .iload_n 1), (16, .iastore), (17, .iinc 1 (1)), (20, .goto (-18)), (23, .iconst 1), (24, .istore_n 1), (25, .iload_n 1), (26, .ifCond .eq (188)), (29, .iconst 0), (30, .istore_n 1), (31, .iconst 0), (32, .istore_n 2), (33, .iload_n 2), (34, .sipush (4096)), (37, .if_icmp .ge (174)), (40, .iconst 0), (41, .istore_n 3), (42, .iload_n 3), (43, .iconst 2), (44, .if_icmp .ge (161)), (47, .aload_n 0), (48, .getfield 39), (51, .iload_n 2), (52, .iaload), (53, .iconst (-1)), (54, .if_icmp .eq (151)), (57, .iload_n 2), (58, .bipush (64)), (60, .irem), (61, .iload_n 3), (62, .ifCond .ne (7)), (65, .iconst 1), (66, .goto (4)), (69, .iconst (-1)), (70, .iadd), (71, .istore 4), (73, .iload_n 2), (74, .bipush (64)), (76, .idiv), (77, .iconst 1), (78, .iadd), (79, .istore 5), (81, .aload_n 0), (82, .iload 4), (84, .iload 5), (86, .invokevirtual 85), (89, .ifCond .ne (6)), (92, .goto (107)), (95, .aload_n 0), (96, .getfield 39), (99, .iload_n 2), (100, .iaload), (101, .istore 6), (103, .aload_n 0), (104, .getfield 39), (107, .bipush (64)), (109, .iload 5), (111, .imul), (112, .iload 4), (114, .iadd), (115, .iaload), (116, .istore 7), (118, .aload_n 0), (119, .getfield 45), (122, .iload 6), (124, .iaload), (125, .aload_n 0), (126, .getfield 45), (129, .iload 7), (131, .iaload), (132, .if_icmp .ge (13)), (135, .aload_n 0), (136, .getfield 45), (139, .iload 6), (141, .iaload), (142, .goto (10)), (145, .aload_n 0), (146, .getfield 45), (149, .iload 7), (151, .iaload), (152, .istore 8), (154, .iload_n 1), (155, .ifCond .ne (20)), (158, .aload_n 0), (159, .getfield 45), (162, .iload 6), (164, .iaload), (165, .aload_n 0), (166, .getfield 45), (169, .iload 7), (171, .iaload), (172, .if_icmp .eq (7)), (175, .iconst 1), (176, .goto (4)), (179, .iconst 0), (180, .istore_n 1), (181, .aload_n 0), (182, .getfield 45), (185, .iload 6), (187, .iload 8), (189, .iastore), (190, .aload_n 0), (191, .getfield 45), (194, .iload 7), (196, .iload 8), (198, .iastore), (199, .iinc 3 (1)), (202, .goto (-160)), (205, .iinc 2 (1)), (208, .goto (-175)), (211, .goto (-186)), (214, .return_)]
def T_mo_join : hp_T := ("EdgeSweepsModel", K_mo_join, fl_mo, cl_mo, ne_mo, ex_mo, it_mo, lo_mo)
theorem V_mo_join : hp_val T_mo_join Y_mo_join := ⟨hp_okc_of (by decide +kernel), fv_mo, cv_mo, iv_mo, lv_mo, nv_mo⟩
def K_mo_netOf : List (Nat × Instr) := [(0, .aload_n 0), (1, .iload_n 1), (2, .invokevirtual 120), (5, .ifCond .eq (15)), (8, .iload_n 2), (9, .ifCond .lt (11)), (12, .iload_n 2), (13, .aload_n 0), (14, .getfield 82), (17, .if_icmp .lt (10)), (20, .aload_n 0), (21, .iconst 1), (22, .putfield 59), (25, .iconst 0), (26, .ireturn), (27, .aload_n 0), (28, .invokevirtual 129), (31, .aload_n 0), (32, .getfield 45), (35, .iload_n 2), (36, .iaload), (37, .ireturn)]
def T_mo_netOf : hp_T := ("EdgeSweepsModel", K_mo_netOf, fl_mo, cl_mo, ne_mo, ex_mo, it_mo, lo_mo)
theorem V_mo_netOf : hp_val T_mo_netOf Y_mo_netOf := ⟨hp_okc_of (by decide +kernel), fv_mo, cv_mo, iv_mo, lv_mo, nv_mo⟩
def K_mo_edge : List (Nat × Instr) := [(0, .aload_n 0), (1, .aload_n 0), (2, .iload_n 1), (3, .invokevirtual 98), (6, .ifCond .eq (16)), (9, .iload_n 2), (10, .ifCond .lt (12)), (13, .iload_n 3), (14, .ifCond .lt (8)), (17, .iload_n 3), (18, .iconst 4), (19, .if_icmp .le (7)), (22, .iconst 1), (23, .goto (4)), (26, .iconst 0), (27, .putfield 59), (30, .aload_n 0), (31, .getfield 59), (34, .ifCond .le (5)), (37, .iconst 0), (38, .ireturn), (39, .aload_n 0), (40, .iload_n 1), (41, .iconst 1), (42, .invokevirtual 101), (45, .aload_n 0), (46, .iload_n 2), (47, .iconst 1), (48, .invokevirtual 151), (51, .istore 4), (53, .iload 4), (55, .ifCond .ge (7)), (58, .iconst 1), (59, .goto (4)), (62, .iconst 0), (63, .istore 5), (65, .iload 5), (67, .ifCond .ne (22)), (70, .aload_n 0), (71, .iload_n 2), (72, .iload 4), (74, .isub), (75, .iconst 0), (76, .invokevirtual 151), (79, .ifCond .lt (10)), (82, .aload_n 0), (83, .iconst 1), (84, .putfield 59), (87, .iconst 0), (88, .ireturn), (89, .iload_n 3), (90, .iconst 4), (91, .if_icmp .ne (8)), (94, .aload_n 0), (95, .getfield 148), (98, .ireturn), (99, .iload 5), (101, .ifCond .eq (33)), (104, .iload_n 3), (105, .ifCond .ne (10)), (108, .aload_n 0), (109, .getfield 142), (112, .goto (50)), (115, .iload_n 3), (116, .iconst 2), (117, .if_icmp .ne (10)), (120, .aload_n 0), (121, .getfield 145), (124, .goto (38)), (127, .aload_n 0), (128, .getfield 139), (131, .goto (31)), (134, .iload_n 3), (135, .iconst 1), (136, .if_icmp .ne (10)), (139, .aload_n 0), (140, .getfield 142), (143, .goto (19)), (146, .iload_n 3), (147, .iconst 3), (148, .if_icmp .ne (10)), (151, .aload_n 0), (152, .getfield 145), (155, .goto (7)), (158, .aload_n 0), (159, .getfield 139), (162, .ireturn)]
def T_mo_edge : hp_T := ("EdgeSweepsModel", K_mo_edge, fl_mo, cl_mo, ne_mo, ex_mo, it_mo, lo_mo)
theorem V_mo_edge : hp_val T_mo_edge Y_mo_edge := ⟨hp_okc_of (by decide +kernel), fv_mo, cv_mo, iv_mo, lv_mo, nv_mo⟩
def K_mo_findEdge : List (Nat × Instr) := [(0, .iconst 0), (1, .istore_n 3), (2, .iconst 0), (3, .istore 4), (5, .iload 4), (7, .bipush (64)), (9, .if_icmp .gt (191)), (12, .iconst 0), (13, .istore 5), (15, .iload 5), (17, .bipush (64)), (19, .if_icmp .ge (175)), (22, .iload_n 2), (23, .ifCond .eq (14)), (26, .aload_n 0), (27, .iload 5), (29, .iload 4), (31, .invokevirtual 132), (34, .goto (11)), (37, .aload_n 0), (38, .iload 4), (40, .iload 5), (42, .invokevirtual 136), (45, .istore 6), (47, .iload 5), (49, .ifCond .ne (7)), (52, .iconst 0), (53, .goto (30)), (56, .iload_n 2), (57, .ifCond .eq (16)), (60, .aload_n 0), (61, .iload 5), (63, .iconst 1), (64, .isub), (65, .iload 4), (67, .invokevirtual 132), (70, .goto (13)), (73, .aload_n 0), (74, .iload 4), (76, .iload 5), (78, .iconst 1), (79, .isub), (80, .invokevirtual 136), (83, .istore 7), (85, .iload 6), (87, .ifCond .eq (101)), (90, .iload 6), (92, .iload 7), (94, .if_icmp .ne (6)), (97, .goto (91)), (100, .iload_n 3), (101, .iload_n 1), (102, .if_icmp .ne (83)), (105, .aload_n 0), (106, .iload 4), (108, .putfield 139), (111, .aload_n 0), (112, .iload 5), (114, .putfield 142), (117, .aload_n 0), (118, .iload 5), (120, .putfield 145), (123, .aload_n 0), (124, .iload 6), (126, .putfield 148), (129, .aload_n 0), (130, .getfield 145), (133, .bipush (64)), (135, .if_icmp .ge (48)), (138, .iload_n 2), (139, .ifCond .eq (16)), (142, .aload_n 0), (143, .aload_n 0), (144, .getfield 145), (147, .iload 4), (149, .invokevirtual 132), (152, .goto (13)), (155, .aload_n 0), (156, .iload 4), (158, .aload_n 0), (159, .getfield 145), (162, .invokevirtual 136), (165, .iload 6), (167, .if_icmp .ne (16)), (170, .aload_n 0), (171, .dup), (172, .getfield 145), (175, .iconst 1), (176, .iadd), (177, .putfield 145), (180, .goto (-51)), (183, .iconst (-1)), (184, .ireturn), (185, .iinc 3 (1)), (188, .iinc 5 (1)), (191, .goto (-176)), (194, .iinc 4 (1)), (197, .goto (-192)), (200, .iload_n 3), (201, .ireturn)]
def T_mo_findEdge : hp_T := ("EdgeSweepsModel", K_mo_findEdge, fl_mo, cl_mo, ne_mo, ex_mo, it_mo, lo_mo)
theorem V_mo_findEdge : hp_val T_mo_findEdge Y_mo_findEdge := ⟨hp_okc_of (by decide +kernel), fv_mo, cv_mo, iv_mo, lv_mo, nv_mo⟩
def K_mo_lying : List (Nat × Instr) := [(0, .aload_n 0), (1, .iload_n 1), (2, .iload_n 2), (3, .invokevirtual 85), (6, .istore_n 3), (7, .aload_n 0), (8, .iload_n 1), (9, .iload_n 2), (10, .iconst 1), (11, .isub), (12, .invokevirtual 85), (15, .istore 4), (17, .iload_n 3), (18, .iload 4), (20, .if_icmp .ne (7)), (23, .iconst 0), (24, .goto (12)), (27, .iload_n 3), (28, .ifCond .eq (7)), (31, .iconst 1), (32, .goto (4)), (35, .iconst (-1)), (36, .ireturn)]
def T_mo_lying : hp_T := ("EdgeSweepsModel", K_mo_lying, fl_mo, cl_mo, ne_mo, ex_mo, it_mo, lo_mo)
theorem V_mo_lying : hp_val T_mo_lying Y_mo_lying := ⟨hp_okc_of (by decide +kernel), fv_mo, cv_mo, iv_mo, lv_mo, nv_mo⟩
def K_mo_standing : List (Nat × Instr) := [(0, .aload_n 0), (1, .iload_n 1), (2, .iload_n 2), (3, .invokevirtual 85), (6, .istore_n 3), (7, .aload_n 0), (8, .iload_n 1), (9, .iconst 1), (10, .isub), (11, .iload_n 2), (12, .invokevirtual 85), (15, .istore 4), (17, .iload_n 3), (18, .iload 4), (20, .if_icmp .ne (7)), (23, .iconst 0), (24, .goto (12)), (27, .iload_n 3), (28, .ifCond .eq (7)), (31, .iconst 1), (32, .goto (4)), (35, .iconst (-1)), (36, .ireturn)]
def T_mo_standing : hp_T := ("EdgeSweepsModel", K_mo_standing, fl_mo, cl_mo, ne_mo, ex_mo, it_mo, lo_mo)
theorem V_mo_standing : hp_val T_mo_standing Y_mo_standing := ⟨hp_okc_of (by decide +kernel), fv_mo, cv_mo, iv_mo, lv_mo, nv_mo⟩
def K_mo_area2 : List (Nat × Instr) := [(0, .aload_n 0), (1, .aload_n 0), (2, .iload_n 1), (3, .invokevirtual 98), (6, .ifCond .eq (12)), (9, .iload_n 2), (10, .ifCond .lt (8)), (13, .iload_n 2), (14, .iconst 1), (15, .if_icmp .le (7)), (18, .iconst 1), (19, .goto (4)), (22, .iconst 0), (23, .putfield 59), (26, .aload_n 0), (27, .getfield 59), (30, .ifCond .le (5)), (33, .lconst 0), (34, .lreturn), (35, .aload_n 0), (36, .iload_n 1), (37, .iconst 1), (38, .invokevirtual 101), (41, .lconst 0), (42, .lstore_n 3), (43, .lconst 0), (44, .lstore 5), (46, .iconst 0), (47, .istore 7), (49, .iload 7), (51, .bipush (64)), (53, .if_icmp .gt (100)), (56, .iconst 0), (57, .istore 8), (59, .iload 8), (61, .bipush (64)), (63, .if_icmp .gt (84)), (66, .lload_n 3), (67, .aload_n 0), (68, .iload 8), (70, .iload 7), (72, .invokevirtual 85), (75, .ifCond .eq (7)), (78, .lconst 1), (79, .goto (4)), (82, .lconst 0), (83, .ladd), (84, .lstore_n 3), (85, .lload 5), (87, .iload 8), (89, .bipush (64)), (91, .if_icmp .ge (18)), (94, .aload_n 0), (95, .iload 8), (97, .iload 7), (99, .invokevirtual 132), (102, .ifCond .eq (7)), (105, .lconst 1), (106, .goto (4)), (109, .lconst 0), (110, .ladd), (111, .lstore 5), (113, .lload 5), (115, .iload 7), (117, .bipush (64)), (119, .if_icmp .ge (18)), (122, .aload_n 0), (123, .iload 8), (125, .iload 7), (127, .invokevirtual 136), (130, .ifCond .eq (7)), (133, .lconst 1), (134, .goto (4)), (137, .lconst 0), (138, .ladd), (139, .lstore 5), (141, .iinc 8 (1)), (144, .goto (-85)), (147, .iinc 7 (1)), (150, .goto (-101)), (153, .iload_n 2), (154, .ifCond .ne (11)), (157, .ldc2_w 155), (160, .lload_n 3), (161, .lmul), (162, .goto (5)), (165, .lload 5), (167, .lreturn)]
def T_mo_area2 : hp_T := ("EdgeSweepsModel", K_mo_area2, fl_mo, cl_mo, ne_mo, ex_mo, it_mo, lo_mo)
theorem V_mo_area2 : hp_val T_mo_area2 Y_mo_area2 := ⟨hp_okc_of (by decide +kernel), fv_mo, cv_mo, iv_mo, lv_mo, nv_mo⟩
def K_mo_trapezoid : List (Nat × Instr) := [(0, .aload_n 0), (1, .aload_n 0), (2, .iload_n 1), (3, .invokevirtual 98), (6, .ifCond .eq (16)), (9, .iload_n 2), (10, .ifCond .lt (12)), (13, .iload_n 3), (14, .ifCond .lt (8)), (17, .iload_n 3), (18, .iconst 3), (19, .if_icmp .le (7)), (22, .iconst 1), (23, .goto (4)), (26, .iconst 0), (27, .putfield 59), (30, .aload_n 0), (31, .getfield 59), (34, .ifCond .le (5)), (37, .iconst 0), (38, .ireturn), (39, .aload_n 0), (40, .iload_n 1), (41, .iconst 1), (42, .invokevirtual 101), (45, .iload_n 2), (46, .istore 4), (48, .iconst 0), (49, .istore 5), (51, .iload 5), (53, .bipush (64)), (55, .if_icmp .ge (153)), (58, .aload_n 0), (59, .iload 5), (61, .invokevirtual 157), (64, .ifCond .ne (6)), (67, .goto (135)), (70, .iload 5), (72, .iconst 1), (73, .iadd), (74, .istore 6), (76, .iload 6), (78, .bipush (64)), (80, .if_icmp .ge (18)), (83, .aload_n 0), (84, .iload 6), (86, .invokevirtual 157), (89, .ifCond .ne (9)), (92, .iinc 6 (1)), (95, .goto (-19)), (98, .iconst 0), (99, .istore 7), (101, .iload 7), (103, .bipush (64)), (105, .if_icmp .ge (97)), (108, .aload_n 0), (109, .iload 7), (111, .iload 5), (113, .invokevirtual 85), (116, .ifCond .eq (80)), (119, .aload_n 0), (120, .iload 7), (122, .iconst 1), (123, .isub), (124, .iload 5), (126, .invokevirtual 85), (129, .ifCond .eq (6)), (132, .goto (64)), (135, .iload 4), (137, .ifCond .ne (56)), (140, .iload 7), (142, .istore 8), (144, .aload_n 0), (145, .iload 8), (147, .iload 5), (149, .invokevirtual 85), (152, .ifCond .eq (9)), (155, .iinc 8 (1)), (158, .goto (-14)), (161, .iload_n 3), (162, .ifCond .ne (8)), (165, .iload 7), (167, .goto (25)), (170, .iload_n 3), (171, .iconst 1), (172, .if_icmp .ne (8)), (175, .iload 5), (177, .goto (15)), (180, .iload_n 3), (181, .iconst 2), (182, .if_icmp .ne (8)), (185, .iload 8), (187, .goto (5)), (190, .iload 6), (192, .ireturn), (193, .iinc 4 (-1)), (196, .iinc 7 (1)), (199, .goto (-98)), (202, .iinc 5 (1)), (205, .goto (-154)), (208, .aload_n 0), (209, .iconst 1), (210, .putfield 59), (213, .iconst 0), (214, .ireturn)]
def T_mo_trapezoid : hp_T := ("EdgeSweepsModel", K_mo_trapezoid, fl_mo, cl_mo, ne_mo, ex_mo, it_mo, lo_mo)
theorem V_mo_trapezoid : hp_val T_mo_trapezoid Y_mo_trapezoid := ⟨hp_okc_of (by decide +kernel), fv_mo, cv_mo, iv_mo, lv_mo, nv_mo⟩
def K_mo_isLine : List (Nat × Instr) := [(0, .iconst 0), (1, .istore_n 2), (2, .iconst 0), (3, .istore_n 3), (4, .iload_n 3), (5, .bipush (64)), (7, .if_icmp .ge (28)), (10, .iload_n 2), (11, .ifCond .ne (12)), (14, .aload_n 0), (15, .iload_n 3), (16, .iload_n 1), (17, .invokevirtual 132), (20, .ifCond .eq (7)), (23, .iconst 1), (24, .goto (4)), (27, .iconst 0), (28, .istore_n 2), (29, .iinc 3 (1)), (32, .goto (-28)), (35, .iload_n 2), (36, .ireturn)]
def T_mo_isLine : hp_T := ("EdgeSweepsModel", K_mo_isLine, fl_mo, cl_mo, ne_mo, ex_mo, it_mo, lo_mo)
theorem V_mo_isLine : hp_val T_mo_isLine Y_mo_isLine := ⟨hp_okc_of (by decide +kernel), fv_mo, cv_mo, iv_mo, lv_mo, nv_mo⟩
end
section
/-! the tables of EdgeSweepsLaw -/
def fl_la : List (Nat × Nat × Nat) := []
theorem fv_la : ∀ q ∈ fl_la, ∃ r0 : vw_C, classes[q.2.1]? = some r0 ∧ q.2.2 < r0.2.2 ∧ Jvm.Cond.fieldLink "EdgeSweepsLaw" q.1 (r0.2.1 q.2.2).1 (r0.2.1 q.2.2).2.1 (r0.2.1 q.2.2).2.2.1 ∈ hp_Ts := (fun _ h => absurd h List.not_mem_nil)
def cl_la : List (Nat × Nat × hp_Y) := [(7, 2, Y_es_polygon), (17, 2, Y_es_corner), (23, 2, Y_es_op), (27, 2, Y_es_size), (31, 2, Y_es_shapes), (34, 2, Y_es_at), (38, 2, Y_es_in), (41, 2, Y_es_area2), (45, 2, Y_es_touching), (48, 2, Y_es_nets), (51, 2, Y_es_netOf), (55, 2, Y_es_strips), (58, 2, Y_es_edge), (61, 2, Y_es_trapezoid)]
theorem cv_la_7 : hp_vcall "EdgeSweepsLaw" 7 2 Y_es_polygon := ⟨cd_es_polygon, tm_in (List.mem_of_getElem? (i := 139) (by decide +kernel)), tm_in (List.mem_of_getElem? (i := 140) (by decide +kernel)), tm_in (List.mem_of_getElem? (i := 141) (by decide +kernel)), tm_in (List.mem_of_getElem? (i := 1) (by decide +kernel)), ⟨by decide, by decide⟩, (by unfold hp_np; decide +kernel)⟩
theorem cv_la_17 : hp_vcall "EdgeSweepsLaw" 17 2 Y_es_corner := ⟨cd_es_corner, tm_in (List.mem_of_getElem? (i := 243) (by decide +kernel)), tm_in (List.mem_of_getElem? (i := 244) (by decide +kernel)), tm_in (List.mem_of_getElem? (i := 245) (by decide +kernel)), tm_in (List.mem_of_getElem? (i := 1) (by decide +kernel)), ⟨by decide, by decide⟩, (by unfold hp_np; decide +kernel)⟩
theorem cv_la_23 : hp_vcall "EdgeSweepsLaw" 23 2 Y_es_op := ⟨cd_es_op, tm_in (List.mem_of_getElem? (i := 285) (by decide +kernel)), tm_in (List.mem_of_getElem? (i := 286) (by decide +kernel)), tm_in (List.mem_of_getElem? (i := 287) (by decide +kernel)), tm_in (List.mem_of_getElem? (i := 1) (by decide +kernel)), ⟨by decide, by decide⟩, (by unfold hp_np; decide +kernel)⟩
theorem cv_la_27 : hp_vcall "EdgeSweepsLaw" 27 2 Y_es_size := ⟨cd_es_size, tm_in (List.mem_of_getElem? (i := 419) (by decide +kernel)), tm_in (List.mem_of_getElem? (i := 420) (by decide +kernel)), tm_in (List.mem_of_getElem? (i := 421) (by decide +kernel)), tm_in (List.mem_of_getElem? (i := 1) (by decide +kernel)), ⟨by decide, by decide⟩, (by unfold hp_np; decide +kernel)⟩
theorem cv_la_31 : hp_vcall "EdgeSweepsLaw" 31 2 Y_es_shapes := ⟨cd_es_shapes, tm_in (List.mem_of_getElem? (i := 428) (by decide +kernel)), tm_in (List.mem_of_getElem? (i := 429) (by decide +kernel)), tm_in (List.mem_of_getElem? (i := 430) (by decide +kernel)), tm_in (List.mem_of_getElem? (i := 1) (by decide +kernel)), ⟨by decide, by decide⟩, (by unfold hp_np; decide +kernel)⟩
theorem cv_la_34 : hp_vcall "EdgeSweepsLaw" 34 2 Y_es_at := ⟨cd_es_at, tm_in (List.mem_of_getElem? (i := 439) (by decide +kernel)), tm_in (List.mem_of_getElem? (i := 440) (by decide +kernel)), tm_in (List.mem_of_getElem? (i := 441) (by decide +kernel)), tm_in (List.mem_of_getElem? (i := 1) (by decide +kernel)), ⟨by decide, by decide⟩, (by unfold hp_np; decide +kernel)⟩
theorem cv_la_38 : hp_vcall "EdgeSweepsLaw" 38 2 Y_es_in := ⟨cd_es_in, tm_in (List.mem_of_getElem? (i := 469) (by decide +kernel)), tm_in (List.mem_of_getElem? (i := 470) (by decide +kernel)), tm_in (List.mem_of_getElem? (i := 471) (by decide +kernel)), tm_in (List.mem_of_getElem? (i := 1) (by decide +kernel)), ⟨by decide, by decide⟩, (by unfold hp_np; decide +kernel)⟩
theorem cv_la_41 : hp_vcall "EdgeSweepsLaw" 41 2 Y_es_area2 := ⟨cd_es_area2, tm_in (List.mem_of_getElem? (i := 477) (by decide +kernel)), tm_in (List.mem_of_getElem? (i := 478) (by decide +kernel)), tm_in (List.mem_of_getElem? (i := 479) (by decide +kernel)), tm_in (List.mem_of_getElem? (i := 1) (by decide +kernel)), ⟨by decide, by decide⟩, (by unfold hp_np; decide +kernel)⟩
theorem cv_la_45 : hp_vcall "EdgeSweepsLaw" 45 2 Y_es_touching := ⟨cd_es_touching, tm_in (List.mem_of_getElem? (i := 492) (by decide +kernel)), tm_in (List.mem_of_getElem? (i := 493) (by decide +kernel)), tm_in (List.mem_of_getElem? (i := 494) (by decide +kernel)), tm_in (List.mem_of_getElem? (i := 1) (by decide +kernel)), ⟨by decide, by decide⟩, (by unfold hp_np; decide +kernel)⟩
theorem cv_la_48 : hp_vcall "EdgeSweepsLaw" 48 2 Y_es_nets := ⟨cd_es_nets, tm_in (List.mem_of_getElem? (i := 504) (by decide +kernel)), tm_in (List.mem_of_getElem? (i := 505) (by decide +kernel)), tm_in (List.mem_of_getElem? (i := 506) (by decide +kernel)), tm_in (List.mem_of_getElem? (i := 1) (by decide +kernel)), ⟨by decide, by decide⟩, (by unfold hp_np; decide +kernel)⟩
theorem cv_la_51 : hp_vcall "EdgeSweepsLaw" 51 2 Y_es_netOf := ⟨cd_es_netOf, tm_in (List.mem_of_getElem? (i := 519) (by decide +kernel)), tm_in (List.mem_of_getElem? (i := 520) (by decide +kernel)), tm_in (List.mem_of_getElem? (i := 521) (by decide +kernel)), tm_in (List.mem_of_getElem? (i := 1) (by decide +kernel)), ⟨by decide, by decide⟩, (by unfold hp_np; decide +kernel)⟩
theorem cv_la_55 : hp_vcall "EdgeSweepsLaw" 55 2 Y_es_strips := ⟨cd_es_strips, tm_in (List.mem_of_getElem? (i := 530) (by decide +kernel)), tm_in (List.mem_of_getElem? (i := 531) (by decide +kernel)), tm_in (List.mem_of_getElem? (i := 532) (by decide +kernel)), tm_in (List.mem_of_getElem? (i := 1) (by decide +kernel)), ⟨by decide, by decide⟩, (by unfold hp_np; decide +kernel)⟩
theorem cv_la_58 : hp_vcall "EdgeSweepsLaw" 58 2 Y_es_edge := ⟨cd_es_edge, tm_in (List.mem_of_getElem? (i := 538) (by decide +kernel)), tm_in (List.mem_of_getElem? (i := 539) (by decide +kernel)), tm_in (List.mem_of_getElem? (i := 540) (by decide +kernel)), tm_in (List.mem_of_getElem? (i := 1) (by decide +kernel)), ⟨by decide, by decide⟩, (by unfold hp_np; decide +kernel)⟩
theorem cv_la_61 : hp_vcall "EdgeSweepsLaw" 61 2 Y_es_trapezoid := ⟨cd_es_trapezoid, tm_in (List.mem_of_getElem? (i := 574) (by decide +kernel)), tm_in (List.mem_of_getElem? (i := 575) (by decide +kernel)), tm_in (List.mem_of_getElem? (i := 576) (by decide +kernel)), tm_in (List.mem_of_getElem? (i := 1) (by decide +kernel)), ⟨by decide, by decide⟩, (by unfold hp_np; decide +kernel)⟩
theorem cv_la : ∀ q ∈ cl_la, hp_vcall "EdgeSweepsLaw" q.1 q.2.1 q.2.2 := List.forall_mem_cons.mpr ⟨cv_la_7, List.forall_mem_cons.mpr ⟨cv_la_17, List.forall_mem_cons.mpr ⟨cv_la_23, List.forall_mem_cons.mpr ⟨cv_la_27, List.forall_mem_cons.mpr ⟨cv_la_31, List.forall_mem_cons.mpr ⟨cv_la_34, List.forall_mem_cons.mpr ⟨cv_la_38, List.forall_mem_cons.mpr ⟨cv_la_41, List.forall_mem_cons.mpr ⟨cv_la_45, List.forall_mem_cons.mpr ⟨cv_la_48, List.forall_mem_cons.mpr ⟨cv_la_51, List.forall_mem_cons.mpr ⟨cv_la_55, List.forall_mem_cons.mpr ⟨cv_la_58, List.forall_mem_cons.mpr ⟨cv_la_61, (fun _ h => absurd h List.not_mem_nil)⟩⟩⟩⟩⟩⟩⟩⟩⟩⟩⟩⟩⟩⟩
def it_la : List (Nat × Int32) := []
theorem iv_la : ∀ q ∈ it_la, Jvm.Cond.constant "EdgeSweepsLaw" q.1 q.2 ∈ hp_Ts := (fun _ h => absurd h List.not_mem_nil)
def lo_la : List (Nat × Int64) := []
theorem lv_la : ∀ q ∈ lo_la, Jvm.Cond.constantLong "EdgeSweepsLaw" q.1 q.2 ∈ hp_Ts := (fun _ h => absurd h List.not_mem_nil)
def ne_la : List (Nat × Nat) := []
theorem nv_la : ∀ q ∈ ne_la, ∃ r0 : vw_C, classes[q.2]? = some r0 ∧ Jvm.Cond.classLink "EdgeSweepsLaw" q.1 r0.1 ∈ hp_Ts := (fun _ h => absurd h List.not_mem_nil)
def ex_la : List (Nat × Nat) := []
def K_la_cell : List (Nat × Instr) := [(0, .iload_n 1), (1, .aload_n 0), (2, .arraylength), (3, .if_icmp .ge (9)), (6, .aload_n 0), (7, .iload_n 1), (8, .iaload), (9, .goto (4)), (12, .iconst 0), (13, .ireturn)]
def T_la_cell : hp_T := ("EdgeSweepsLaw", K_la_cell, fl_la, cl_la, ne_la, ex_la, it_la, lo_la)
theorem V_la_cell : hp_val T_la_cell Y_la_cell := ⟨hp_okc_of (by decide +kernel), fv_la, cv_la, iv_la, lv_la, nv_la⟩
def K_la_polygon : List (Nat × Instr) := [(0, .aload_n 2), (1, .iconst 0), (2, .aload_n 0), (3, .iload_n 1), (4, .invokevirtual 7), (7, .i2l), (8, .lastore), (9, .goto (9)), (12, .astore_n 3), (13, .iconst 1), (14, .ireturn), (15, .astore_n 3), (16, .iconst 2), (17, .ireturn), (18, .iconst 0), (19, .ireturn)]
def T_la_polygon : hp_T := ("EdgeSweepsLaw", K_la_polygon, fl_la, cl_la, ne_la, ex_la, it_la, lo_la)
theorem V_la_polygon : hp_val T_la_polygon Y_la_polygon := ⟨hp_okc_of (by decide +kernel), fv_la, cv_la, iv_la, lv_la, nv_la⟩
def K_la_corner : List (Nat × Instr) := [(0, .aload 6), (2, .iconst 0), (3, .aload_n 0), (4, .iload_n 1), (5, .lload_n 2), (6, .lload 4), (8, .invokevirtual 17), (11, .ifCond .eq (7)), (14, .lconst 1), (15, .goto (4)), (18, .lconst 0), (19, .lastore), (20, .goto (15)), (23, .astore 7), (25, .iconst 1), (26, .ireturn), (27, .astore 7), (29, .iconst 2), (30, .ireturn), (31, .astore 7), (33, .iconst 3), (34, .ireturn), (35, .iconst 0), (36, .ireturn)]
def T_la_corner : hp_T := ("EdgeSweepsLaw", K_la_corner, fl_la, cl_la, ne_la, ex_la, it_la, lo_la)
theorem V_la_corner : hp_val T_la_corner Y_la_corner := ⟨hp_okc_of (by decide +kernel), fv_la, cv_la, iv_la, lv_la, nv_la⟩
def K_la_op : List (Nat × Instr) := [(0, .aload 4), (2, .iconst 0), (3, .aload_n 0), (4, .iload_n 1), (5, .iload_n 2), (6, .iload_n 3), (7, .invokevirtual 23), (10, .i2l), (11, .lastore), (12, .goto (15)), (15, .astore 5), (17, .iconst 1), (18, .ireturn), (19, .astore 5), (21, .iconst 2), (22, .ireturn), (23, .astore 5), (25, .iconst 3), (26, .ireturn), (27, .iconst 0), (28, .ireturn)]
def T_la_op : hp_T := ("EdgeSweepsLaw", K_la_op, fl_la, cl_la, ne_la, ex_la, it_la, lo_la)
theorem V_la_op : hp_val T_la_op Y_la_op := ⟨hp_okc_of (by decide +kernel), fv_la, cv_la, iv_la, lv_la, nv_la⟩
def K_la_size : List (Nat × Instr) := [(0, .aload 5), (2, .iconst 0), (3, .aload_n 0), (4, .iload_n 1), (5, .lload_n 2), (6, .iload 4), (8, .invokevirtual 27), (11, .i2l), (12, .lastore), (13, .goto (15)), (16, .astore 6), (18, .iconst 1), (19, .ireturn), (20, .astore 6), (22, .iconst 2), (23, .ireturn), (24, .astore 6), (26, .iconst 3), (27, .ireturn), (28, .iconst 0), (29, .ireturn)]
def T_la_size : hp_T := ("EdgeSweepsLaw", K_la_size, fl_la, cl_la, ne_la, ex_la, it_la, lo_la)
theorem V_la_size : hp_val T_la_size Y_la_size := ⟨hp_okc_of (by decide +kernel), fv_la, cv_la, iv_la, lv_la, nv_la⟩
def K_la_shapes : List (Nat × Instr) := [(0, .aload_n 2), (1, .iconst 0), (2, .aload_n 0), (3, .iload_n 1), (4, .invokevirtual 31), (7, .i2l), (8, .lastore), (9, .goto (6)), (12, .astore_n 3), (13, .iconst 1), (14, .ireturn), (15, .iconst 0), (16, .ireturn)]
def T_la_shapes : hp_T := ("EdgeSweepsLaw", K_la_shapes, fl_la, cl_la, ne_la, ex_la, it_la, lo_la)
theorem V_la_shapes : hp_val T_la_shapes Y_la_shapes := ⟨hp_okc_of (by decide +kernel), fv_la, cv_la, iv_la, lv_la, nv_la⟩
def K_la_at : List (Nat × Instr) := [(0, .aload 5), (2, .iconst 0), (3, .aload_n 0), (4, .iload_n 1), (5, .iload_n 2), (6, .iload_n 3), (7, .iload 4), (9, .invokevirtual 34), (12, .lastore), (13, .goto (7)), (16, .astore 6), (18, .iconst 1), (19, .ireturn), (20, .iconst 0), (21, .ireturn)]
def T_la_at : hp_T := ("EdgeSweepsLaw", K_la_at, fl_la, cl_la, ne_la, ex_la, it_la, lo_la)
theorem V_la_at : hp_val T_la_at Y_la_at := ⟨hp_okc_of (by decide +kernel), fv_la, cv_la, iv_la, lv_la, nv_la⟩
def K_la_in : List (Nat × Instr) := [(0, .aload 6), (2, .iconst 0), (3, .aload_n 0), (4, .iload_n 1), (5, .lload_n 2), (6, .lload 4), (8, .invokevirtual 38), (11, .ifCond .eq (7)), (14, .lconst 1), (15, .goto (4)), (18, .lconst 0), (19, .lastore), (20, .goto (7)), (23, .astore 7), (25, .iconst 1), (26, .ireturn), (27, .iconst 0), (28, .ireturn)]
def T_la_in : hp_T := ("EdgeSweepsLaw", K_la_in, fl_la, cl_la, ne_la, ex_la, it_la, lo_la)
theorem V_la_in : hp_val T_la_in Y_la_in := ⟨hp_okc_of (by decide +kernel), fv_la, cv_la, iv_la, lv_la, nv_la⟩
def K_la_area2 : List (Nat × Instr) := [(0, .aload_n 3), (1, .iconst 0), (2, .aload_n 0), (3, .iload_n 1), (4, .iload_n 2), (5, .invokevirtual 41), (8, .lastore), (9, .goto (7)), (12, .astore 4), (14, .iconst 1), (15, .ireturn), (16, .iconst 0), (17, .ireturn)]
def T_la_area2 : hp_T := ("EdgeSweepsLaw", K_la_area2, fl_la, cl_la, ne_la, ex_la, it_la, lo_la)
theorem V_la_area2 : hp_val T_la_area2 Y_la_area2 := ⟨hp_okc_of (by decide +kernel), fv_la, cv_la, iv_la, lv_la, nv_la⟩
def K_la_touching : List (Nat × Instr) := [(0, .aload 4), (2, .iconst 0), (3, .aload_n 0), (4, .iload_n 1), (5, .iload_n 2), (6, .iload_n 3), (7, .invokevirtual 45), (10, .i2l), (11, .lastore), (12, .goto (7)), (15, .astore 5), (17, .iconst 1), (18, .ireturn), (19, .iconst 0), (20, .ireturn)]
def T_la_touching : hp_T := ("EdgeSweepsLaw", K_la_touching, fl_la, cl_la, ne_la, ex_la, it_la, lo_la)
theorem V_la_touching : hp_val T_la_touching Y_la_touching := ⟨hp_okc_of (by decide +kernel), fv_la, cv_la, iv_la, lv_la, nv_la⟩
def K_la_nets : List (Nat × Instr) := [(0, .aload_n 2), (1, .iconst 0), (2, .aload_n 0), (3, .iload_n 1), (4, .invokevirtual 48), (7, .i2l), (8, .lastore), (9, .goto (6)), (12, .astore_n 3), (13, .iconst 1), (14, .ireturn), (15, .iconst 0), (16, .ireturn)]
def T_la_nets : hp_T := ("EdgeSweepsLaw", K_la_nets, fl_la, cl_la, ne_la, ex_la, it_la, lo_la)
theorem V_la_nets : hp_val T_la_nets Y_la_nets := ⟨hp_okc_of (by decide +kernel), fv_la, cv_la, iv_la, lv_la, nv_la⟩
def K_la_netOf : List (Nat × Instr) := [(0, .aload_n 3), (1, .iconst 0), (2, .aload_n 0), (3, .iload_n 1), (4, .iload_n 2), (5, .invokevirtual 51), (8, .i2l), (9, .lastore), (10, .goto (7)), (13, .astore 4), (15, .iconst 1), (16, .ireturn), (17, .iconst 0), (18, .ireturn)]
def T_la_netOf : hp_T := ("EdgeSweepsLaw", K_la_netOf, fl_la, cl_la, ne_la, ex_la, it_la, lo_la)
theorem V_la_netOf : hp_val T_la_netOf Y_la_netOf := ⟨hp_okc_of (by decide +kernel), fv_la, cv_la, iv_la, lv_la, nv_la⟩
def K_la_strips : List (Nat × Instr) := [(0, .aload_n 2), (1, .iconst 0), (2, .aload_n 0), (3, .iload_n 1), (4, .invokevirtual 55), (7, .i2l), (8, .lastore), (9, .goto (6)), (12, .astore_n 3), (13, .iconst 1), (14, .ireturn), (15, .iconst 0), (16, .ireturn)]
def T_la_strips : hp_T := ("EdgeSweepsLaw", K_la_strips, fl_la, cl_la, ne_la, ex_la, it_la, lo_la)
theorem V_la_strips : hp_val T_la_strips Y_la_strips := ⟨hp_okc_of (by decide +kernel), fv_la, cv_la, iv_la, lv_la, nv_la⟩
def K_la_edge : List (Nat × Instr) := [(0, .aload 4), (2, .iconst 0), (3, .aload_n 0), (4, .iload_n 1), (5, .iload_n 2), (6, .iload_n 3), (7, .invokevirtual 58), (10, .i2l), (11, .lastore), (12, .goto (7)), (15, .astore 5), (17, .iconst 1), (18, .ireturn), (19, .iconst 0), (20, .ireturn)]
def T_la_edge : hp_T := ("EdgeSweepsLaw", K_la_edge, fl_la, cl_la, ne_la, ex_la, it_la, lo_la)
theorem V_la_edge : hp_val T_la_edge Y_la_edge := ⟨hp_okc_of (by decide +kernel), fv_la, cv_la, iv_la, lv_la, nv_la⟩
def K_la_trapezoid : List (Nat × Instr) := [(0, .aload 4), (2, .iconst 0), (3, .aload_n 0), (4, .iload_n 1), (5, .iload_n 2), (6, .iload_n 3), (7, .invokevirtual 61), (10, .i2l), (11, .lastore), (12, .goto (7)), (15, .astore 5), (17, .iconst 1), (18, .ireturn), (19, .iconst 0), (20, .ireturn)]
def T_la_trapezoid : hp_T := ("EdgeSweepsLaw", K_la_trapezoid, fl_la, cl_la, ne_la, ex_la, it_la, lo_la)
theorem V_la_trapezoid : hp_val T_la_trapezoid Y_la_trapezoid := ⟨hp_okc_of (by decide +kernel), fv_la, cv_la, iv_la, lv_la, nv_la⟩
end
section
/-! BITS of a long -/
def bb (x : Int64) (i : Nat) : Bool := x.toBitVec.getLsbD i
theorem bb_ext {x y : Int64} (h : ∀ i, i < 64 → bb x i = bb y i) : x = y := Int64.toBitVec_inj.mp (BitVec.eq_of_getLsbD_eq h)
theorem bb_and (x y : Int64) (i : Nat) : bb (x &&& y) i = (bb x i && bb y i) := by unfold bb; rw [Int64.toBitVec_and, BitVec.getLsbD_and]
theorem bb_or (x y : Int64) (i : Nat) : bb (x ||| y) i = (bb x i || bb y i) := by unfold bb; rw [Int64.toBitVec_or, BitVec.getLsbD_or]
theorem bb_xor (x y : Int64) (i : Nat) : bb (x ^^^ y) i = (bb x i ^^ bb y i) := by unfold bb; rw [Int64.toBitVec_xor, BitVec.getLsbD_xor]
theorem bb_0 (i : Nat) : bb 0 i = false := by
  show (0#64).getLsbD i = false
  simp
theorem bb_m1 {i : Nat} (hi : i < 64) : bb (-1) i = true := by
  have h : (-1 : Int64).toBitVec = BitVec.allOnes 64 := by decide
  unfold bb
  rw [h, BitVec.getLsbD_allOnes]
  simp [hi]
theorem bb_not (x : Int64) {i : Nat} (hi : i < 64) : bb (x ^^^ (-1)) i = !bb x i := by
  rw [bb_xor, bb_m1 hi, Bool.xor_true]
theorem bb_big {x : Int64} {i : Nat} (h : 64 ≤ i) : bb x i = false := BitVec.getLsbD_of_ge _ _ h
theorem wb_tb (n : Nat) : (lN n).toBitVec = BitVec.ofNat 64 n := rfl
theorem wb_inj {a b : Int64} (h : a.toBitVec = b.toBitVec) : a = b := Int64.toBitVec_inj.mp h
theorem wb_c : ∀ k, k < 64 → ((nI k).toInt64 &&& 63) = lN k := by decide +kernel
theorem wb_cu : ∀ k, k < 64 → ((nI k).toInt64.toUInt64 &&& Int64.toUInt64 63) = UInt64.ofNat k := by decide +kernel
theorem wb_sm : ∀ k, k < 64 → (BitVec.ofNat 64 k).smod 64 = BitVec.ofNat 64 k := by decide +kernel
theorem bb_shl {k : Nat} (hk : k < 64) (x : Int64) {i : Nat} (hi : i < 64) : bb (x <<< ((nI k).toInt64 &&& 63)) i = (decide (k ≤ i) && bb x (i - k)) := by
  rw [wb_c k hk]
  unfold bb
  rw [Int64.toBitVec_shiftLeft, wb_tb, wb_sm k hk, BitVec.shiftLeft_eq', BitVec.getLsbD_shiftLeft, BitVec.toNat_ofNat, Nat.mod_eq_of_lt (show k < 2 ^ 64 by omega)]
  by_cases h : k ≤ i
  · simp [h, hi, Nat.not_lt.mpr h]
  · simp [h, Nat.lt_of_not_le h]
theorem bb_shr {k : Nat} (hk : k < 64) (x : Int64) (i : Nat) : bb ((x.toUInt64 >>> ((nI k).toInt64.toUInt64 &&& Int64.toUInt64 63)).toInt64) i = bb x (k + i) := by
  rw [wb_cu k hk]
  have e : (x.toUInt64 >>> UInt64.ofNat k).toInt64.toBitVec = x.toBitVec >>> k := by
    apply BitVec.eq_of_toNat_eq
    show (x.toUInt64 >>> UInt64.ofNat k).toNat = _
    have h1 : (UInt64.ofNat k).toNat = k := by
      show (BitVec.ofNat 64 k).toNat = k
      rw [BitVec.toNat_ofNat, Nat.mod_eq_of_lt (by omega)]
    rw [UInt64.toNat_shiftRight, h1, Nat.mod_eq_of_lt hk, BitVec.toNat_ushiftRight]
    rfl
  unfold bb
  rw [e, BitVec.getLsbD_ushiftRight]
/-! COUNTING BITS -/
def cn (f : Nat → Bool) : Nat → Nat
  | 0 => 0
  | n + 1 => cn f n + (f n).toNat
theorem cn_le (f : Nat → Bool) : ∀ n, cn f n ≤ n
  | 0 => Nat.le_refl _
  | n + 1 => by
    have := cn_le f n
    have h2 : (f n).toNat ≤ 1 := by cases f n <;> decide
    show cn f n + _ ≤ _
    omega
theorem cn_congr {f g : Nat → Bool} : ∀ n, (∀ i, i < n → f i = g i) → cn f n = cn g n
  | 0, _ => rfl
  | n + 1, h => by
    show cn f n + _ = cn g n + _
    rw [cn_congr n (fun i hi => h i (by omega)), h n (by omega)]
/-- a number made of fields of w bits -/
def fs (w : Nat) (c : Nat → Nat) : Nat → Nat
  | 0 => 0
  | m + 1 => fs w c m + 2 ^ (w * m) * c m
theorem fs_congr {w : Nat} {c d : Nat → Nat} : ∀ m, (∀ j, j < m → c j = d j) → fs w c m = fs w d m
  | 0, _ => rfl
  | m + 1, h => by
    show fs w c m + _ = fs w d m + _
    rw [fs_congr m (fun j hj => h j (by omega)), h m (by omega)]
theorem fs_add {w : Nat} (c d : Nat → Nat) : ∀ m, fs w c m + fs w d m = fs w (fun j => c j + d j) m
  | 0 => rfl
  | m + 1 => by
    show fs w c m + 2 ^ (w * m) * c m + (fs w d m + 2 ^ (w * m) * d m) = fs w (fun j => c j + d j) m + 2 ^ (w * m) * (c m + d m)
    rw [← fs_add c d m, Nat.mul_add]
    omega
theorem fs_lt {w : Nat} {c : Nat → Nat} : ∀ m, (∀ j, j < m → c j < 2 ^ w) → fs w c m < 2 ^ (w * m)
  | 0, _ => by simp [fs]
  | m + 1, h => by
    have h1 := fs_lt m (fun j hj => h j (by omega))
    have h2 : 2 ^ (w * m) * (c m + 1) ≤ 2 ^ (w * m) * 2 ^ w := Nat.mul_le_mul_left _ (h m (by omega))
    have h3 : 2 ^ (w * (m + 1)) = 2 ^ (w * m) * 2 ^ w := by rw [← Nat.pow_add, Nat.mul_succ]
    rw [h3]
    show fs w c m + 2 ^ (w * m) * c m < _
    rw [Nat.mul_add, Nat.mul_one] at h2
    omega
/-- the bits of such a number -/
theorem fs_bit {w : Nat} {c : Nat → Nat} : ∀ m, (∀ j, j < m → c j < 2 ^ w) → ∀ j t, t < w → (fs w c m).testBit (w * j + t) = (decide (j < m) && (c j).testBit t)
  | 0, _, j, t, _ => by simp [fs]
  | m + 1, h, j, t, ht => by
    have hlt := fs_lt m (fun j hj => h j (Nat.lt_succ_of_lt hj))
    have ih := fs_bit m (fun j hj => h j (Nat.lt_succ_of_lt hj)) j t ht
    show (fs w c m + 2 ^ (w * m) * c m).testBit _ = _
    rw [Nat.add_comm, Nat.testBit_two_pow_mul_add _ hlt]
    by_cases hj : j < m
    · have h1 : w * j + t < w * m := by
        have : w * (j + 1) ≤ w * m := Nat.mul_le_mul_left w hj
        rw [Nat.mul_succ] at this
        omega
      rw [if_pos h1, ih]
      simp [hj, Nat.lt_succ_of_lt hj]
    · have h1 : ¬ w * j + t < w * m := by
        have : w * m ≤ w * j := Nat.mul_le_mul_left w (Nat.le_of_not_lt hj)
        omega
      rw [if_neg h1]
      by_cases e : j = m
      · subst e
        rw [Nat.add_sub_cancel_left]
        simp
      · have h2 : m + 1 ≤ j := by omega
        have h3 : w ≤ w * j + t - w * m := by
          have : w * (m + 1) ≤ w * j := Nat.mul_le_mul_left w h2
          rw [Nat.mul_succ] at this
          omega
        have h4 : (c m).testBit (w * j + t - w * m) = false := Nat.testBit_lt_two_pow (Nat.lt_of_lt_of_le (h m (Nat.lt_succ_self m)) (Nat.pow_le_pow_right (by decide) h3))
        rw [h4]
        simp [Nat.not_lt.mpr h2]
/-- two such numbers of the same bits -/
theorem fs_ext {n w : Nat} {c : Nat → Nat} {m : Nat} (hw : 0 < w) (hc : ∀ j, j < m → c j < 2 ^ w) (h : ∀ j t, t < w → n.testBit (w * j + t) = (decide (j < m) && (c j).testBit t)) : n = fs w c m := by
  apply Nat.eq_of_testBit_eq
  intro i
  have e : i = w * (i / w) + i % w := (Nat.div_add_mod i w).symm
  rw [e, h _ _ (Nat.mod_lt _ hw), fs_bit m hc _ _ (Nat.mod_lt _ hw)]
theorem fs_drop {w : Nat} {c : Nat → Nat} (t : Nat) : ∀ m, (∀ j, j < m + t → c j < 2 ^ w) → fs w c (m + t) / 2 ^ (w * t) = fs w (fun j => c (j + t)) m
  | 0, h => by
    rw [Nat.zero_add] at h ⊢
    exact Nat.div_eq_of_lt (fs_lt t h)
  | m + 1, h => by
    have ih := fs_drop t m (fun j hj => h j (by omega))
    have e : m + 1 + t = m + t + 1 := by omega
    rw [e]
    show (fs w c (m + t) + 2 ^ (w * (m + t)) * c (m + t)) / 2 ^ (w * t) = fs w (fun j => c (j + t)) m + 2 ^ (w * m) * c (m + t)
    have e2 : 2 ^ (w * (m + t)) = 2 ^ (w * t) * 2 ^ (w * m) := by rw [← Nat.pow_add, Nat.mul_add, Nat.add_comm]
    rw [e2, Nat.mul_assoc, Nat.add_mul_div_left _ _ (Nat.two_pow_pos _), ih]
theorem tb_mask (w t : Nat) : (2 ^ w - 1).testBit t = decide (t < w) := Nat.testBit_two_pow_sub_one w t
theorem fs_even {w : Nat} {c : Nat → Nat} {m : Nat} (hw : 0 < w) (hc : ∀ j, j < 2 * m → c j < 2 ^ w) : fs w c (2 * m) &&& fs (2 * w) (fun _ => 2 ^ w - 1) m = fs (2 * w) (fun j => c (2 * j)) m := by
  have hp : 2 ^ w ≤ 2 ^ (2 * w) := Nat.pow_le_pow_right (by decide) (by omega)
  have h0 := Nat.two_pow_pos w
  refine fs_ext (by omega) (fun j hj => Nat.lt_of_lt_of_le (hc _ (by omega)) hp) (fun j t ht => ?_)
  rw [Nat.testBit_and, fs_bit m (fun j _ => by omega) j t ht, tb_mask]
  by_cases h1 : t < w
  · have e : 2 * w * j + t = w * (2 * j) + t := by rw [Nat.mul_comm 2 w, Nat.mul_assoc]
    rw [e, fs_bit (2 * m) hc _ t h1]
    by_cases h2 : j < m
    · have h3 : 2 * j < 2 * m := by omega
      simp [h1, h2, h3]
    · have h3 : ¬ 2 * j < 2 * m := by omega
      simp [h2, h3]
  · by_cases h2 : j < m
    · have h4 : (c (2 * j)).testBit t = false := Nat.testBit_lt_two_pow (Nat.lt_of_lt_of_le (hc _ (by omega)) (Nat.pow_le_pow_right (by decide) (by omega)))
      simp [h1, h4]
    · simp [h2]
theorem fs_odd {w : Nat} {c : Nat → Nat} {m : Nat} (hw : 0 < w) (hc : ∀ j, j < 2 * m → c j < 2 ^ w) : fs w c (2 * m) / 2 ^ w &&& fs (2 * w) (fun _ => 2 ^ w - 1) m = fs (2 * w) (fun j => c (2 * j + 1)) m := by
  have hp : 2 ^ w ≤ 2 ^ (2 * w) := Nat.pow_le_pow_right (by decide) (by omega)
  have h0 := Nat.two_pow_pos w
  by_cases hm : m = 0
  · subst hm; simp [fs]
  refine fs_ext (by omega) (fun j hj => Nat.lt_of_lt_of_le (hc _ (by omega)) hp) (fun j t ht => ?_)
  rw [Nat.testBit_and, fs_bit m (fun j _ => by omega) j t ht, tb_mask, Nat.testBit_div_two_pow]
  by_cases h1 : t < w
  · have e : 2 * w * j + t + w = w * (2 * j + 1) + t := by rw [Nat.mul_add, Nat.mul_one, Nat.mul_comm 2 w, Nat.mul_assoc]; omega
    rw [e, fs_bit (2 * m) hc _ t h1]
    by_cases h2 : j < m
    · have h3 : 2 * j + 1 < 2 * m := by omega
      simp [h1, h2, h3]
    · have h3 : ¬ 2 * j + 1 < 2 * m := by omega
      simp [h2, h3]
  · by_cases h2 : j < m
    · have h4 : (c (2 * j + 1)).testBit t = false := Nat.testBit_lt_two_pow (Nat.lt_of_lt_of_le (hc _ (by omega)) (Nat.pow_le_pow_right (by decide) (by omega)))
      simp [h1, h4]
    · simp [h2]
/-- so many fields down, added -/
theorem fs_down {w : Nat} {c : Nat → Nat} (t m : Nat) (hc : ∀ j, j < m + t → c j < 2 ^ w) : fs w c (m + t) + fs w c (m + t) / 2 ^ (w * t) = fs w (fun j => c j + if j < m then c (j + t) else 0) (m + t) := by
  rw [fs_drop t m hc]
  have e : ∀ u, fs w (fun j => c (j + t)) m = fs w (fun j => if j < m then c (j + t) else 0) (m + u) := by
    intro u
    induction u with
    | zero => exact fs_congr m (fun j hj => by rw [if_pos hj])
    | succ u ih =>
      show _ = fs w _ (m + u) + 2 ^ (w * (m + u)) * (if m + u < m then _ else 0)
      rw [← ih, if_neg (by omega)]
      rfl
  rw [e t, fs_add]
theorem fs_mod {w : Nat} {c : Nat → Nat} : ∀ m, fs w c (m + 1) % 2 ^ w = c 0 % 2 ^ w
  | 0 => by
    show (0 + 2 ^ (w * 0) * c 0) % 2 ^ w = _
    rw [Nat.mul_zero, Nat.pow_zero, Nat.one_mul, Nat.zero_add]
  | m + 1 => by
    show (fs w c (m + 1) + 2 ^ (w * (m + 1)) * c (m + 1)) % 2 ^ w = _
    have e : 2 ^ (w * (m + 1)) * c (m + 1) = 2 ^ w * (2 ^ (w * m) * c (m + 1)) := by rw [← Nat.mul_assoc, ← Nat.pow_add, Nat.mul_succ, Nat.add_comm]
    rw [e, Nat.add_mul_mod_self_left]
    exact fs_mod m
def sm (c : Nat → Nat) : Nat → Nat
  | 0 => 0
  | m + 1 => sm c m + c m
theorem sm_pair (c : Nat → Nat) : ∀ m, sm c (2 * m) = sm (fun j => c (2 * j) + c (2 * j + 1)) m
  | 0 => rfl
  | m + 1 => by
    have e : 2 * (m + 1) = 2 * m + 1 + 1 := by omega
    rw [e]
    show sm c (2 * m) + c (2 * m) + c (2 * m + 1) = sm _ m + (c (2 * m) + c (2 * m + 1))
    rw [sm_pair c m]
    omega
theorem cn_sm (f : Nat → Bool) : ∀ n, cn f n = sm (fun j => (f j).toNat) n
  | 0 => rfl
  | n + 1 => by show cn f n + _ = sm _ n + _; rw [cn_sm f n]
def pp (c : Nat → Nat) (j : Nat) : Nat := c (2 * j) + c (2 * j + 1)
theorem bn_le (b : Bool) : b.toNat ≤ 1 := by cases b <;> decide
/-- the first step of the count, on numbers -/
theorem pc_1 {n : Nat} (hn : n < 2 ^ 64) : n - (n / 2 &&& 0x5555555555555555) = fs 2 (pp fun j => (n.testBit j).toNat) 32 := by
  have hM : 0x5555555555555555 = fs 2 (fun _ => 2 ^ 1 - 1) 32 := by decide +kernel
  have hN : n = fs 1 (fun j => (n.testBit j).toNat) (2 * 32) := by
    refine fs_ext (by decide) (fun j _ => by have := bn_le (n.testBit j); omega) (fun j t ht => ?_)
    have e : t = 0 := by omega
    subst e
    rw [Nat.one_mul, Nat.add_zero]
    by_cases h : j < 2 * 32
    · cases hb : n.testBit j <;> simp [h]
    · have h2 : n.testBit j = false := Nat.testBit_lt_two_pow (Nat.lt_of_lt_of_le hn (Nat.pow_le_pow_right (by decide) (by omega)))
      simp [h, h2]
  have hc : ∀ j, j < 2 * 32 → (fun j => (n.testBit j).toNat) j < 2 ^ 1 := fun j _ => by have := bn_le (n.testBit j); show (n.testBit j).toNat < 2; omega
  have hO : n / 2 &&& 0x5555555555555555 = fs 2 (fun j => (n.testBit (2 * j + 1)).toNat) 32 := by
    have h := fs_odd (w := 1) (c := fun j => (n.testBit j).toNat) (m := 32) (by decide) hc
    rw [← hN] at h
    rw [hM]
    exact h
  have hA : n = fs 2 (fun j => (n.testBit (2 * j)).toNat + (n.testBit (2 * j + 1)).toNat + (n.testBit (2 * j + 1)).toNat) 32 := by
    refine fs_ext (by decide) (fun j _ => by have := bn_le (n.testBit (2 * j)); have := bn_le (n.testBit (2 * j + 1)); omega) (fun j t ht => ?_)
    by_cases h : j < 32
    · have e : t = 0 ∨ t = 1 := by omega
      rcases e with e | e <;> subst e
      · cases h0 : n.testBit (2 * j) <;> cases h1 : n.testBit (2 * j + 1) <;> simp [h, h0] <;> decide
      · cases h0 : n.testBit (2 * j) <;> cases h1 : n.testBit (2 * j + 1) <;> simp [h, h1] <;> decide
    · have h2 : n.testBit (2 * j + t) = false := Nat.testBit_lt_two_pow (Nat.lt_of_lt_of_le hn (Nat.pow_le_pow_right (by decide) (by omega)))
      simp [h, h2]
  rw [hO]
  have h3 := fs_add (w := 2) (fun j => (n.testBit (2 * j)).toNat + (n.testBit (2 * j + 1)).toNat) (fun j => (n.testBit (2 * j + 1)).toNat) 32
  rw [← hA] at h3
  show n - _ = fs 2 (fun j => (n.testBit (2 * j)).toNat + (n.testBit (2 * j + 1)).toNat) 32
  omega
/-- all steps of the count, on numbers -/
theorem pc_all {n : Nat} (hn : n < 2 ^ 64) {a b c d e f : Nat} (ha : a = n - (n / 2 &&& 0x5555555555555555)) (hb : b = (a &&& 0x3333333333333333) + (a / 4 &&& 0x3333333333333333)) (hc : c = (b + b / 16) &&& 0x0f0f0f0f0f0f0f0f) (hd : d = c + c / 256) (he : e = d + d / 65536) (hf : f = e + e / 4294967296) :
    f % 256 = cn n.testBit 64 ∧ a < 2 ^ 64 ∧ b < 2 ^ 64 ∧ b + b / 16 < 2 ^ 64 ∧ c < 2 ^ 64 ∧ d < 2 ^ 64 ∧ e < 2 ^ 64 ∧ f < 2 ^ 64 := by
  let q0 : Nat → Nat := fun j => (n.testBit j).toNat
  have b0 : ∀ j, q0 j ≤ 1 := fun j => bn_le _
  have b1 : ∀ j, pp q0 j ≤ 2 := fun j => by have := b0 (2 * j); have := b0 (2 * j + 1); show q0 _ + q0 _ ≤ _; omega
  have b2 : ∀ j, pp (pp q0) j ≤ 4 := fun j => by have := b1 (2 * j); have := b1 (2 * j + 1); show pp q0 _ + pp q0 _ ≤ _; omega
  have b3 : ∀ j, pp (pp (pp q0)) j ≤ 8 := fun j => by have := b2 (2 * j); have := b2 (2 * j + 1); show pp (pp q0) _ + pp (pp q0) _ ≤ _; omega
  have hA : a = fs 2 (pp q0) (2 * 16) := ha.trans (pc_1 hn)
  have l1 : ∀ j, j < 2 * 16 → pp q0 j < 2 ^ 2 := fun j _ => by have := b1 j; omega
  have hM2 : 0x3333333333333333 = fs (2 * 2) (fun _ => 2 ^ 2 - 1) 16 := by decide +kernel
  have hB : b = fs 4 (pp (pp q0)) 16 := by
    have h1 := fs_even (w := 2) (m := 16) (by decide) l1
    have h2 := fs_odd (w := 2) (m := 16) (by decide) l1
    rw [← hA, ← hM2] at h1 h2
    rw [hb]
    have h3 : a / 4 = a / 2 ^ 2 := rfl
    rw [h3, h1, h2, fs_add]
    rfl
  have l2 : ∀ j, j < 15 + 1 → pp (pp q0) j < 2 ^ 4 := fun j _ => by have := b2 j; omega
  have hB2 : b + b / 16 = fs 4 (fun j => pp (pp q0) j + if j < 15 then pp (pp q0) (j + 1) else 0) (2 * 8) := by
    rw [hB]
    exact fs_down 1 15 l2
  have l3 : ∀ j, j < 2 * 8 → (fun j => pp (pp q0) j + if j < 15 then pp (pp q0) (j + 1) else 0) j < 2 ^ 4 := fun j _ => by
    have := b2 j
    have := b2 (j + 1)
    show _ + (if j < 15 then _ else 0) < _
    split <;> omega
  have hM3 : 0x0f0f0f0f0f0f0f0f = fs (2 * 4) (fun _ => 2 ^ 4 - 1) 8 := by decide +kernel
  have hC : c = fs 8 (pp (pp (pp q0))) (7 + 1) := by
    have h1 := fs_even (w := 4) (m := 8) (by decide) l3
    rw [← hB2, ← hM3] at h1
    rw [hc, h1]
    refine fs_congr 8 (fun j hj => ?_)
    show pp (pp q0) (2 * j) + (if 2 * j < 15 then pp (pp q0) (2 * j + 1) else 0) = _
    rw [if_pos (by omega)]
    rfl
  let p := pp (pp (pp q0))
  have hD : d = fs 8 (fun j => p j + if j < 7 then p (j + 1) else 0) (6 + 2) := by
    rw [hd, hC]
    exact fs_down 1 7 (fun j _ => by have : p j ≤ 8 := b3 j; show p j < 2 ^ 8; omega)
  let q : Nat → Nat := fun j => p j + if j < 7 then p (j + 1) else 0
  have bq : ∀ j, q j ≤ 16 := fun j => by
    have : p j ≤ 8 := b3 j
    have : p (j + 1) ≤ 8 := b3 (j + 1)
    show p j + (if j < 7 then p (j + 1) else 0) ≤ _
    split <;> omega
  have hE : e = fs 8 (fun j => q j + if j < 6 then q (j + 2) else 0) (4 + 4) := by
    rw [he, hD]
    exact fs_down 2 6 (fun j _ => by have := bq j; show q j < _; omega)
  let r : Nat → Nat := fun j => q j + if j < 6 then q (j + 2) else 0
  have br : ∀ j, r j ≤ 32 := fun j => by
    have := bq j
    have := bq (j + 2)
    show q j + (if j < 6 then q (j + 2) else 0) ≤ _
    split <;> omega
  have hF : f = fs 8 (fun j => r j + if j < 4 then r (j + 4) else 0) 8 := by
    rw [hf, hE]
    exact fs_down 4 4 (fun j _ => by have := br j; show r j < _; omega)
  have bf : ∀ j, (fun j => r j + if j < 4 then r (j + 4) else 0) j < 2 ^ 8 := fun j => by
    have := br j
    have := br (j + 4)
    show r j + (if j < 4 then r (j + 4) else 0) < _
    split <;> omega
  have hsum : f % 256 = r 0 + r 4 := by
    rw [hF]
    have h1 : fs 8 (fun j => r j + if j < 4 then r (j + 4) else 0) 8 % 256 = (r 0 + r 4) % 256 := fs_mod (w := 8) (c := fun j => r j + if j < 4 then r (j + 4) else 0) 7
    have := br 0
    have := br 4
    rw [h1]
    omega
  have htot : cn n.testBit 64 = r 0 + r 4 := by
    rw [cn_sm, show (64 : Nat) = 2 * 32 from rfl, sm_pair, show (32 : Nat) = 2 * 16 from rfl, sm_pair, show (16 : Nat) = 2 * 8 from rfl, sm_pair]
    show sm p 8 = r 0 + r 4
    show 0 + p 0 + p 1 + p 2 + p 3 + p 4 + p 5 + p 6 + p 7 = (p 0 + p 1 + (p 2 + p 3)) + (p 4 + p 5 + (p 6 + p 7))
    omega
  refine ⟨hsum.trans htot.symm, ?_, ?_, ?_, ?_, ?_, ?_, ?_⟩
  · rw [hA]; exact fs_lt 32 l1
  · rw [hB]; exact fs_lt 16 l2
  · rw [hB2]; exact fs_lt 16 l3
  · rw [hC]; exact fs_lt 8 (fun j _ => by have : p j ≤ 8 := b3 j; show p j < 2 ^ 8; omega)
  · rw [hD]; exact fs_lt 8 (fun j _ => by have := bq j; show q j < _; omega)
  · rw [hE]; exact fs_lt 8 (fun j _ => by have := br j; show r j < _; omega)
  · rw [hF]; exact fs_lt 8 (fun j _ => bf j)
/-! the lowest bit, the lowest run -/
theorem low_of : ∀ n : Nat, n ≠ 0 → ∃ p u, n = 2 ^ p * (2 * u + 1) := by
  intro n
  induction n using Nat.strongRecOn with
  | _ n ih =>
    intro h
    rcases Nat.mod_two_eq_zero_or_one n with e | e
    · obtain ⟨p, u, hp⟩ := ih (n / 2) (by omega) (by omega)
      refine ⟨p + 1, u, ?_⟩
      have h2 : n = 2 * (n / 2) := by omega
      rw [h2, hp, Nat.pow_succ, Nat.mul_comm (2 ^ p) 2, Nat.mul_assoc]
    · exact ⟨0, n / 2, by rw [Nat.pow_zero, Nat.one_mul]; omega⟩
theorem tb_odd (u i : Nat) : (2 * u + 1).testBit i = if i = 0 then true else u.testBit (i - 1) := by
  cases i with
  | zero => rw [if_pos rfl, Nat.testBit_zero]; simp
  | succ i =>
    rw [if_neg (by omega), Nat.testBit_succ, Nat.add_sub_cancel]
    congr 1
    omega
theorem tb_low (p u i : Nat) : (2 ^ p * (2 * u + 1)).testBit i = (decide (p ≤ i) && if i = p then true else u.testBit (i - p - 1)) := by
  rw [Nat.testBit_two_pow_mul, tb_odd]
  by_cases h : p ≤ i
  · by_cases e : i = p
    · subst e; simp
    · have e2 : ¬ i - p = 0 := by omega
      simp [h, e, e2]
  · simp [h]
theorem low_lt {p u m : Nat} (h : 2 ^ p * (2 * u + 1) < 2 ^ m) : p < m ∧ u < 2 ^ (m - p - 1) := by
  have h1 : p < m := by
    rcases Nat.lt_or_ge p m with h1 | h1
    · exact h1
    · have h2 : 2 ^ m ≤ 2 ^ p := Nat.pow_le_pow_right (by decide) h1
      have h3 : 2 ^ p * 1 ≤ 2 ^ p * (2 * u + 1) := Nat.mul_le_mul_left _ (by omega)
      omega
  refine ⟨h1, ?_⟩
  have e : 2 ^ m = 2 ^ p * (2 * 2 ^ (m - p - 1)) := by
    rw [← Nat.pow_succ', ← Nat.pow_add]
    congr 1
    omega
  rw [e] at h
  have := Nat.lt_of_mul_lt_mul_left h
  omega
/-- minus n -/
theorem low_neg {p u : Nat} (h : 2 ^ p * (2 * u + 1) < 2 ^ 64) : 2 ^ 64 - 2 ^ p * (2 * u + 1) = 2 ^ p * (2 * (2 ^ (64 - p - 1) - (u + 1)) + 1) := by
  obtain ⟨h1, h2⟩ := low_lt h
  have e : 2 ^ 64 = 2 ^ p * (2 * 2 ^ (64 - p - 1)) := by
    rw [← Nat.pow_succ', ← Nat.pow_add]
    congr 1
    omega
  rw [e, ← Nat.mul_sub]
  congr 1
  omega
theorem low_and {n p u : Nat} (hn : n = 2 ^ p * (2 * u + 1)) (h : n < 2 ^ 64) : n &&& (2 ^ 64 - n) = 2 ^ p := by
  subst hn
  obtain ⟨h1, h2⟩ := low_lt h
  rw [low_neg h]
  apply Nat.eq_of_testBit_eq
  intro i
  rw [Nat.testBit_and, tb_low, tb_low, Nat.testBit_two_pow]
  by_cases e : i = p
  · subst e; simp
  · have e2 : ¬ p = i := fun q => e q.symm
    rw [if_neg e, if_neg e, Nat.testBit_two_pow_sub_succ h2]
    simp only [e2, decide_false]
    cases decide (p ≤ i) <;> cases u.testBit (i - p - 1) <;> simp
theorem low_clear {n p u : Nat} (hn : n = 2 ^ p * (2 * u + 1)) (i : Nat) : (n &&& (n - 1)).testBit i = (n.testBit i && !decide (i = p)) := by
  have hp := Nat.two_pow_pos p
  have e1 : n - 1 = 2 ^ p * (2 * u) + (2 ^ p - 1) := by
    rw [hn, Nat.mul_add, Nat.mul_one]
    omega
  rw [Nat.testBit_and, e1, Nat.testBit_two_pow_mul_add _ (by omega), hn, tb_low]
  by_cases h : i < p
  · have h2 : ¬ p ≤ i := by omega
    simp [h2]
  · rw [if_neg h]
    by_cases e : i = p
    · subst e
      simp
    · have e2 : i - p = (i - p - 1) + 1 := by omega
      rw [e2, Nat.testBit_succ, show 2 * u / 2 = u by omega, ← e2]
      have e3 : p ≤ i := by omega
      have e4 : i - p - 1 + 1 - 1 = i - p - 1 := by omega
      simp [e, e3]
/-- the lowest run of bits: p .. q - 1 -/
theorem run_of {n : Nat} (h0 : n ≠ 0) (h : n < 2 ^ 64) : ∃ p q, p < q ∧ q ≤ 64 ∧ (∀ i, i < p → n.testBit i = false) ∧ (∀ i, p ≤ i → i < q → n.testBit i = true) ∧ n.testBit q = false ∧ n &&& (2 ^ 64 - n) = 2 ^ p ∧
    ∀ i, i < 64 → (n.testBit i && !((n + 2 ^ p) % 2 ^ 64).testBit i) = decide (p ≤ i ∧ i < q) := by
  obtain ⟨p, u, hn⟩ := low_of n h0
  obtain ⟨r, t, hr⟩ := low_of (2 * u + 1 + 1) (by omega)
  have hr0 : 0 < r := by
    rcases Nat.eq_zero_or_pos r with e | e
    · subst e
      rw [Nat.pow_zero, Nat.one_mul] at hr
      omega
    · exact e
  have hp := Nat.two_pow_pos p
  have hpr := Nat.two_pow_pos r
  -- n + 2^p
  have hs : n + 2 ^ p = 2 ^ (p + r) * (2 * t + 1) := by
    rw [hn, Nat.pow_add, Nat.mul_assoc, ← hr, Nat.mul_add (2 ^ p) (2 * u + 1) 1, Nat.mul_one]
  have hnb : n = 2 ^ (p + r) * (2 * t) + 2 ^ p * (2 ^ r - 1) := by
    have e1 : 2 ^ p * (2 ^ r - 1) = 2 ^ (p + r) - 2 ^ p := by rw [Nat.mul_sub, Nat.mul_one, ← Nat.pow_add]
    have e2 : 2 ^ p ≤ 2 ^ (p + r) := Nat.pow_le_pow_right (by decide) (by omega)
    rw [Nat.mul_add, Nat.mul_one] at hs
    omega
  have hq : p + r ≤ 64 := by
    rcases Nat.lt_or_ge 64 (p + r) with e | e
    · have e1 : 2 ^ (p + r) ≤ 2 ^ (p + r) * (2 * t + 1) := Nat.le_mul_of_pos_right _ (by omega)
      have e2 : 2 ^ 65 ≤ 2 ^ (p + r) := Nat.pow_le_pow_right (by decide) e
      have e3 : 2 ^ p ≤ n := by rw [hn]; exact Nat.le_mul_of_pos_right _ (by omega)
      omega
    · exact e
  have hlow : 2 ^ p * (2 ^ r - 1) < 2 ^ (p + r) := by
    rw [Nat.pow_add]
    exact Nat.mul_lt_mul_of_pos_left (by omega) hp
  have hbit : ∀ i, n.testBit i = if i < p + r then decide (p ≤ i) else (2 * t).testBit (i - (p + r)) := by
    intro i
    rw [hnb, Nat.testBit_two_pow_mul_add _ hlow]
    by_cases hi : i < p + r
    · rw [if_pos hi, if_pos hi, Nat.testBit_two_pow_mul, Nat.testBit_two_pow_sub_one]
      by_cases h2 : p ≤ i
      · have h3 : i - p < r := by omega
        simp [h2, h3]
      · simp [h2]
    · rw [if_neg hi, if_neg hi]
  have hsb : ∀ i, i < 64 → ((n + 2 ^ p) % 2 ^ 64).testBit i = if i < p + r then false else if i = p + r then true else t.testBit (i - (p + r) - 1) := by
    intro i hi
    rw [Nat.testBit_mod_two_pow, hs, tb_low]
    simp only [hi, decide_true, Bool.true_and]
    by_cases h1 : i < p + r
    · have h2 : ¬ p + r ≤ i := by omega
      simp [h1, h2]
    · have h2 : p + r ≤ i := by omega
      simp [h1, h2]
  refine ⟨p, p + r, by omega, hq, fun i hi => ?_, fun i h1 h2 => ?_, ?_, low_and hn h, fun i hi => ?_⟩
  · rw [hbit, if_pos (by omega)]
    simp; omega
  · rw [hbit, if_pos h2]
    simp [h1]
  · rw [hbit, if_neg (by omega), Nat.sub_self, Nat.testBit_zero]
    simp
  · rw [hbit, hsb i hi]
    by_cases h1 : i < p + r
    · simp [h1]
    · by_cases h2 : i = p + r
      · subst h2; simp
      · have h3 : i - (p + r) = (i - (p + r) - 1) + 1 := by omega
        rw [if_neg h1, if_neg h1, if_neg h2, h3, Nat.testBit_succ, show 2 * t / 2 = t by omega, ← h3]
        have h4 : i - (p + r) - 1 + 1 - 1 = i - (p + r) - 1 := by omega
        simp [h1]
end
section
/-! small facts on heaps by place -/
theorem hq_self {h : hp_H} {a : Nat} {c : hp_C} (ha : h[a]? = some c) : h.set a c = h := by
  apply List.ext_getElem?
  intro i
  by_cases e : a = i
  · subst e
    rw [List.getElem?_set_self (List.getElem?_eq_some_iff.mp ha).1, ha]
  · rw [List.getElem?_set_ne e]
theorem hq_get {h : hp_H} {a : Nat} {c d : hp_C} (ha : h[a]? = some c) : (h.set a d)[a]? = some d := List.getElem?_set_self (List.getElem?_eq_some_iff.mp ha).1
theorem hq_ne {h : hp_H} {a b : Nat} {d : hp_C} (hn : a ≠ b) : (h.set a d)[b]? = h[b]? := List.getElem?_set_ne hn
theorem hq_set (h : hp_H) (a : Nat) (c d : hp_C) : (h.set a c).set a d = h.set a d := List.set_set ..
theorem in_nI {n N : Nat} (h : n < N) (hN : N < 2 ^ 31) : vp_in (nI n) N := vp_in_nI h hN
/-! the JDK's own -/
set_option maxRecDepth 20000 in
theorem c_jm_min (l : Launch) (h : hp_H) (a b : Int32) : hp_M l Y_jm_min [.int a, .int b] h true 0 0 (fun r h' => h' = h ∧ r = .inl (some (.int (if a ≤ b then a else b)))) := by
  refine hp_start (T := T_jm_min) (by decide +kernel) rfl (fun σ => Nat.le_of_ble_eq_true rfl) (fun G C => ?_)
  refine hp_run_sound hp_co V_jm_min C (fun _ _ _ _ _ _ _ hq => hq) [] 20 _ _ _ _ _ _ _ ?_
  refine And.intro (fun c1 => ?_) (fun c1 => ?_)
  · refine And.intro rfl (And.intro rfl (And.intro rfl ?_))
    first | rw [if_pos c1] | rw [if_neg (Int32.not_le.mpr c1)] | rw [if_neg c1]
  · refine And.intro rfl (And.intro rfl (And.intro rfl ?_))
    first | rw [if_neg c1] | rw [if_pos (Int32.not_lt.mp c1)] | rw [if_pos c1]
set_option maxRecDepth 20000 in
theorem c_jm_max (l : Launch) (h : hp_H) (a b : Int32) : hp_M l Y_jm_max [.int a, .int b] h true 0 0 (fun r h' => h' = h ∧ r = .inl (some (.int (if b ≤ a then a else b)))) := by
  refine hp_start (T := T_jm_max) (by decide +kernel) rfl (fun σ => Nat.le_of_ble_eq_true rfl) (fun G C => ?_)
  refine hp_run_sound hp_co V_jm_max C (fun _ _ _ _ _ _ _ hq => hq) [] 20 _ _ _ _ _ _ _ ?_
  refine And.intro (fun c1 => ?_) (fun c1 => ?_)
  · refine And.intro rfl (And.intro rfl (And.intro rfl ?_))
    first | rw [if_pos c1] | rw [if_neg (Int32.not_le.mpr c1)] | rw [if_neg c1]
  · refine And.intro rfl (And.intro rfl (And.intro rfl ?_))
    first | rw [if_neg c1] | rw [if_pos (Int32.not_lt.mp c1)] | rw [if_pos c1]
set_option maxRecDepth 20000 in
theorem c_ja_fill (l : Launch) (h : hp_H) (a N : Nat) (v : Int64) (f : Nat → Int64) (hN : N < 2 ^ 31) (ha : h[a]? = some (.inl (.long, N, .inr (.inl f)))) :
    hp_M l Y_ja_fill [.ref a, .long v] h false 0 0 (fun r h' => r = .inl none ∧ h' = h.set a (.inl (.long, N, .inr (.inl fun j => if j < N then v else f j)))) := by
  refine hp_start (T := T_ja_fill) (by decide +kernel) rfl (fun σ => Nat.le_of_ble_eq_true rfl) (fun G C => ?_)
  have key : ∀ (m i : Nat), i + m = N → hp_W G 6 [(0, .ref a), (1, .long v), (3, .int (nI i)), (4, .int (nI N))] [] (h.set a (.inl (.long, N, .inr (.inl fun j => if j < i then v else f j)))) false 0 0 := by
    intro m
    induction m with
    | zero =>
      intro i hi
      have e : i = N := by omega
      subst e
      refine hp_run_sound hp_co V_ja_fill C (fun _ _ _ _ _ _ _ hq => hq) [6] 6 _ _ _ _ _ _ _ ?_
      refine And.intro (fun c => ?_) (fun c => absurd (nI_le (Nat.le_refl i) hN) c)
      exact And.intro rfl (And.intro rfl (And.intro rfl rfl))
    | succ m ih =>
      intro i hi
      refine hp_run_sound hp_co V_ja_fill C (fun _ _ _ _ _ _ _ hq => hq) [6] 12 _ _ _ _ _ _ _ ?_
      refine And.intro (fun c => absurd c (nI_ge (by omega) hN)) (fun c => ?_)
      refine Exists.intro N (Exists.intro _ (And.intro (hq_get ha) (And.intro (in_nI (by omega) hN) ?_)))
      have hW := ih (i + 1) (by omega)
      rw [hq_set, nI_clamp (by omega)]
      have e1 : vp_updL (fun j => if j < i then v else f j) i v = fun j => if j < i + 1 then v else f j := by
        funext j
        unfold vp_updL
        by_cases h1 : j = i
        · rw [if_pos h1, if_pos (by omega)]
        · rw [if_neg h1]
          show (if j < i then v else f j) = _
          by_cases h2 : j < i
          · rw [if_pos h2, if_pos (by omega)]
          · rw [if_neg h2, if_neg (by omega)]
      rw [e1]
      rw [← nI_1 i] at hW
      exact hW
  have h0 := key N 0 (by omega)
  refine hp_run_sound hp_co V_ja_fill C (fun _ _ _ _ _ _ _ hq => hq) [6] 6 _ _ _ _ _ _ _ ?_
  refine Exists.intro _ (Exists.intro N (Exists.intro _ (And.intro ha ?_)))
  have e0 : h.set a (.inl (.long, N, .inr (.inl fun j => if j < 0 then v else f j))) = h := by
    have : (fun j => if j < 0 then v else f j) = f := by
      funext j
      rw [if_neg (by omega)]
    rw [this]
    exact hq_self ha
  rw [e0] at h0
  exact hp_W_dirty h0
end
section
/-! calls whose end is one end -/
abbrev hq_P (r0 : hp_R) (h0 : hp_H) : hp_R → hp_H → Prop := fun r h' => r = r0 ∧ h' = h0
theorem ic_P {l : Launch} {Y : hp_Y} {av : List Value} {h : hp_H} {wy : Bool} {dk dn dk0 dn0 k n : Nat} {r0 : hp_R} {h0 : hp_H} {F : Bool → Nat → Nat → hp_R → hp_H → Prop} (hM : hp_M l Y av h wy dk dn (hq_P r0 h0)) (h1 : k + dk ≤ dk0) (h2 : n + dn ≤ dn0) (hi : F wy dk dn r0 h0) :
    ∃ (wy : Bool) (dk dn : Nat) (Qy : hp_R → hp_H → Prop), hp_M l Y av h wy dk dn Qy ∧ k + dk ≤ dk0 ∧ n + dn ≤ dn0 ∧ ∀ r h', Qy r h' → F wy dk dn r h' :=
  ⟨wy, dk, dn, _, hM, h1, h2, fun r h' q => by obtain ⟨e1, e2⟩ := q; rw [e1, e2]; exact hi⟩
theorem ic_Q {l : Launch} {Y : hp_Y} {av : List Value} {h : hp_H} {wy : Bool} {dk dn dk0 dn0 k n : Nat} {Q : hp_R → hp_H → Prop} {F : Bool → Nat → Nat → hp_R → hp_H → Prop} (hM : hp_M l Y av h wy dk dn Q) (h1 : k + dk ≤ dk0) (h2 : n + dn ≤ dn0) (hi : ∀ r h', Q r h' → F wy dk dn r h') :
    ∃ (wy : Bool) (dk dn : Nat) (Qy : hp_R → hp_H → Prop), hp_M l Y av h wy dk dn Qy ∧ k + dk ≤ dk0 ∧ n + dn ≤ dn0 ∧ ∀ r h', Qy r h' → F wy dk dn r h' :=
  ⟨wy, dk, dn, _, hM, h1, h2, hi⟩
theorem M_swap {l : Launch} {Y : hp_Y} {av : List Value} {h : hp_H} {w : Bool} {dk dn : Nat} {r0 : hp_R} (hM : hp_M l Y av h w dk dn (fun r h' => h' = h ∧ r = r0)) : hp_M l Y av h w dk dn (hq_P r0 h) := hp_M_weak hM (fun _ _ q => ⟨q.2, q.1⟩)
/-! numbers of a long -/
def nn (x : Int64) : Nat := x.toBitVec.toNat
theorem nn_lt (x : Int64) : nn x < 2 ^ 64 := x.toBitVec.isLt
theorem nn_bit (x : Int64) (i : Nat) : (nn x).testBit i = bb x i := rfl
theorem nn_inj {x y : Int64} (h : nn x = nn y) : x = y := Int64.toBitVec_inj.mp (BitVec.eq_of_toNat_eq h)
theorem nn_add (x y : Int64) : nn (x + y) = (nn x + nn y) % 2 ^ 64 := by unfold nn; rw [Int64.toBitVec_add, BitVec.toNat_add]
theorem nn_sub (x y : Int64) : nn (x - y) = (2 ^ 64 - nn y + nn x) % 2 ^ 64 := by unfold nn; rw [Int64.toBitVec_sub, BitVec.toNat_sub]
theorem nn_neg (x : Int64) : nn (-x) = (2 ^ 64 - nn x) % 2 ^ 64 := by unfold nn; rw [Int64.toBitVec_neg, BitVec.toNat_neg]
theorem nn_and (x y : Int64) : nn (x &&& y) = nn x &&& nn y := by unfold nn; rw [Int64.toBitVec_and, BitVec.toNat_and]
theorem nn_shr {k : Nat} (hk : k < 64) (x : Int64) : nn ((x.toUInt64 >>> ((nI k).toInt64.toUInt64 &&& Int64.toUInt64 63)).toInt64) = nn x / 2 ^ k := by
  apply Nat.eq_of_testBit_eq
  intro i
  rw [Nat.testBit_div_two_pow, nn_bit, nn_bit, bb_shr hk, Nat.add_comm]
theorem nn_lN {n : Nat} (h : n < 2 ^ 64) : nn (lN n) = n := by
  show (BitVec.ofNat 64 n).toNat = n
  rw [BitVec.toNat_ofNat, Nat.mod_eq_of_lt h]
theorem nn_1 : nn 1 = 1 := rfl
theorem nn_0 : nn 0 = 0 := rfl
theorem nn_i (x : Int64) : x.toInt32 = nI (nn x) := by
  apply Int32.toBitVec_inj.mp
  rw [Int64.toBitVec_toInt32]
  show _ = BitVec.ofNat 32 (nn x)
  apply BitVec.eq_of_toNat_eq
  rw [BitVec.signExtend_eq_setWidth_of_le _ (by decide), BitVec.toNat_setWidth, BitVec.toNat_ofNat]
  rfl
/-! Long.bitCount -/
theorem pc_final {f : Nat} (h : f % 256 ≤ 64) : nI f &&& 127 = nI (f % 256) := by
  have e : nI f = nI (f % 2 ^ 32) := by
    apply Int32.toBitVec_inj.mp
    show BitVec.ofNat 32 f = BitVec.ofNat 32 (f % 2 ^ 32)
    apply BitVec.eq_of_toNat_eq
    rw [BitVec.toNat_ofNat, BitVec.toNat_ofNat, Nat.mod_mod]
  rw [e, pk_andN (n := f % 2 ^ 32) (Nat.mod_lt _ (by decide)) (m := 127) 7 (by decide)]
  congr 1
  have h2 : f % 2 ^ 32 % 2 ^ 7 = f % 2 ^ 7 := Nat.mod_mod_of_dvd f (by decide)
  rw [h2]
  have h3 : f % 256 % 2 ^ 7 = f % 2 ^ 7 := Nat.mod_mod_of_dvd f (by decide)
  rw [← h3]
  exact Nat.mod_eq_of_lt (by omega)
set_option maxRecDepth 20000 in
theorem c_jl_bitCount (l : Launch) (h : hp_H) (x : Int64) : hp_M l Y_jl_bitCount [.long x] h true 0 0 (hq_P (.inl (some (.int (nI (cn (bb x) 64))))) h) := by
  refine hp_start (T := T_jl_bitCount) (by decide) rfl (fun σ => Nat.le_of_ble_eq_true rfl) (fun G C => ?_)
  refine hp_run_sound hp_co V_jl_bitCount C (fun _ _ _ _ _ _ _ hq => hq) [] 60 _ _ _ _ _ _ _ ?_
  refine And.intro rfl (And.intro rfl (And.intro ?_ rfl))
  obtain ⟨a, ea⟩ : ∃ a, a = x - ((x.toUInt64 >>> ((nI 1).toInt64.toUInt64 &&& Int64.toUInt64 63)).toInt64 &&& 6148914691236517205) := ⟨_, rfl⟩
  obtain ⟨b, eb⟩ : ∃ b, b = (a &&& 3689348814741910323) + ((a.toUInt64 >>> ((nI 2).toInt64.toUInt64 &&& Int64.toUInt64 63)).toInt64 &&& 3689348814741910323) := ⟨_, rfl⟩
  obtain ⟨c, ec⟩ : ∃ c, c = (b + (b.toUInt64 >>> ((nI 4).toInt64.toUInt64 &&& Int64.toUInt64 63)).toInt64) &&& 1085102592571150095 := ⟨_, rfl⟩
  obtain ⟨d, ed⟩ : ∃ d, d = c + (c.toUInt64 >>> ((nI 8).toInt64.toUInt64 &&& Int64.toUInt64 63)).toInt64 := ⟨_, rfl⟩
  obtain ⟨e, ee⟩ : ∃ e, e = d + (d.toUInt64 >>> ((nI 16).toInt64.toUInt64 &&& Int64.toUInt64 63)).toInt64 := ⟨_, rfl⟩
  obtain ⟨f, ef⟩ : ∃ f, f = e + (e.toUInt64 >>> ((nI 32).toInt64.toUInt64 &&& Int64.toUInt64 63)).toInt64 := ⟨_, rfl⟩
  have hgoal : f.toInt32 &&& 127 = nI (cn (bb x) 64) := by
    obtain ⟨p0, pa, pb, pb2, pc, pd, pe, pf⟩ := pc_all (nn_lt x) rfl rfl rfl rfl rfl rfl
    have ha : nn a = nn x - (nn x / 2 &&& 0x5555555555555555) := by
      rw [ea, nn_sub, nn_and, nn_shr (by decide)]
      have h1 : nn x / 2 ^ 1 &&& nn 6148914691236517205 ≤ nn x := Nat.le_trans Nat.and_le_left (Nat.div_le_self _ _)
      have h2 := nn_lt x
      have h3 : nn 6148914691236517205 = 0x5555555555555555 := by decide
      rw [h3] at h1 ⊢
      show (2 ^ 64 - (nn x / 2 &&& 0x5555555555555555) + nn x) % 2 ^ 64 = _
      have h4 : (nn x / 2 &&& 0x5555555555555555) ≤ nn x := h1
      have h5 : 2 ^ 64 - (nn x / 2 &&& 0x5555555555555555) + nn x = (nn x - (nn x / 2 &&& 0x5555555555555555)) + 2 ^ 64 := by omega
      rw [h5, Nat.add_mod_right, Nat.mod_eq_of_lt (by omega)]
    have hb : nn b = (nn a &&& 0x3333333333333333) + (nn a / 4 &&& 0x3333333333333333) := by
      rw [eb, nn_add, nn_and, nn_and, nn_shr (by decide)]
      have h3 : nn 3689348814741910323 = 0x3333333333333333 := by decide
      rw [h3]
      refine Nat.mod_eq_of_lt ?_
      rw [ha]
      exact pb
    have hc : nn c = (nn b + nn b / 16) &&& 0x0f0f0f0f0f0f0f0f := by
      rw [ec, nn_and, nn_add, nn_shr (by decide)]
      have h3 : nn 1085102592571150095 = 0x0f0f0f0f0f0f0f0f := by decide
      rw [h3]
      congr 1
      refine Nat.mod_eq_of_lt ?_
      rw [hb, ha]
      exact pb2
    have hd : nn d = nn c + nn c / 256 := by
      rw [ed, nn_add, nn_shr (by decide)]
      refine Nat.mod_eq_of_lt ?_
      rw [hc, hb, ha]
      exact pd
    have he : nn e = nn d + nn d / 65536 := by
      rw [ee, nn_add, nn_shr (by decide)]
      refine Nat.mod_eq_of_lt ?_
      rw [hd, hc, hb, ha]
      exact pe
    have hf : nn f = nn e + nn e / 4294967296 := by
      rw [ef, nn_add, nn_shr (by decide)]
      refine Nat.mod_eq_of_lt ?_
      rw [he, hd, hc, hb, ha]
      exact pf
    have htot : nn f % 256 = cn (bb x) 64 := by
      rw [hf, he, hd, hc, hb, ha]
      exact p0
    rw [nn_i, pc_final (by rw [htot]; exact cn_le _ _), htot]
  subst ef; subst ee; subst ed; subst ec; subst eb; subst ea
  exact congrArg (fun z => (Sum.inl (some (Value.int z)) : hp_R)) hgoal
end
section
/-! Rows: functions of one row -/
def xst (x : Int64) : Int64 := x &&& ((x <<< ((nI 1).toInt64 &&& 63)) ^^^ (-1))
theorem bb_xst (x : Int64) {i : Nat} (hi : i < 64) : bb (xst x) i = (bb x i && !(decide (1 ≤ i) && bb x (i - 1))) := by
  unfold xst
  rw [bb_and, bb_not _ hi, bb_shl (by decide) x hi]
def xfr (x : Int64) : Int64 := x &&& ((x + (x &&& (-x))) ^^^ (-1))
def xlow (x : Int64) : Int64 := x &&& (-x)
theorem nn_xlow (x : Int64) : nn (xlow x) = nn x &&& (2 ^ 64 - nn x) := by
  unfold xlow
  rw [nn_and, nn_neg]
  by_cases h : nn x = 0
  · rw [h]; rfl
  · rw [Nat.mod_eq_of_lt (by omega)]
theorem xfr_spec {x : Int64} (h : x ≠ 0) : ∃ p q, p < q ∧ q ≤ 64 ∧ (∀ i, i < p → bb x i = false) ∧ (∀ i, p ≤ i → i < q → bb x i = true) ∧ bb x q = false ∧ ∀ i, i < 64 → bb (xfr x) i = decide (p ≤ i ∧ i < q) := by
  have h0 : nn x ≠ 0 := fun e => h (nn_inj e)
  obtain ⟨p, q, h1, h2, h3, h4, h5, h6, h7⟩ := run_of h0 (nn_lt x)
  refine ⟨p, q, h1, h2, h3, h4, h5, fun i hi => ?_⟩
  have e := h7 i hi
  unfold xfr
  rw [bb_and, bb_not _ hi, ← nn_bit (x + _), nn_add]
  have e2 : nn (x &&& (-x)) = 2 ^ p := by rw [← h6]; exact nn_xlow x
  rw [e2]
  exact e
def xfp (x : Int64) : Nat := cn (bb (xlow x - 1)) 64
theorem cn_lt (p : Nat) : ∀ n, cn (fun i => decide (i < p)) n = if n ≤ p then n else p
  | 0 => by rw [if_pos (Nat.zero_le _)]; rfl
  | n + 1 => by
    show cn _ n + _ = _
    rw [cn_lt p n]
    by_cases h : n < p
    · rw [if_pos (by omega), if_pos (by omega)]
      simp [h]
    · rw [if_neg (show ¬ n + 1 ≤ p by omega)]
      simp only [h, decide_false, Bool.toNat_false, Nat.add_zero]
      split
      · omega
      · rfl
theorem xfp_0 : xfp 0 = 64 := by decide +kernel
theorem xfp_spec {x : Int64} (h : x ≠ 0) : xfp x < 64 ∧ bb x (xfp x) = true ∧ ∀ i, i < xfp x → bb x i = false := by
  have h0 : nn x ≠ 0 := fun e => h (nn_inj e)
  obtain ⟨p, q, h1, h2, h3, h4, h5, h6, h7⟩ := run_of h0 (nn_lt x)
  have e : xfp x = p := by
    unfold xfp
    have hb : ∀ i, i < 64 → bb (xlow x - 1) i = decide (i < p) := by
      intro i hi
      rw [← nn_bit, nn_sub, nn_xlow, h6, nn_1]
      have hp := Nat.two_pow_pos p
      have hp2 : 2 ^ p ≤ 2 ^ 64 := Nat.pow_le_pow_right (by decide) (by omega)
      have e1 : 2 ^ 64 - 1 + 2 ^ p = (2 ^ p - 1) + 2 ^ 64 := by omega
      have hp3 : 2 ^ p < 2 ^ 64 := Nat.pow_lt_pow_right (by decide) (by omega)
      rw [e1, Nat.add_mod_right, Nat.mod_eq_of_lt (by omega), Nat.testBit_two_pow_sub_one]
    rw [cn_congr 64 hb, cn_lt, if_neg (by omega)]
  rw [e]
  exact ⟨by omega, h4 p (Nat.le_refl _) h1, h3⟩
/-- the lowest bit, by what it is -/
theorem xfp_is {x : Int64} {p : Nat} (h1 : p < 64) (h2 : bb x p = true) (h3 : ∀ i, i < p → bb x i = false) : xfp x = p := by
  have h : x ≠ 0 := fun e => by rw [e, bb_0] at h2; cases h2
  obtain ⟨a, b, c⟩ := xfp_spec h
  rcases Nat.lt_trichotomy (xfp x) p with q | q | q
  · rw [h3 _ q] at b; cases b
  · exact q
  · rw [c _ q] at h2; cases h2
theorem xfp_none {x : Int64} (h : ∀ i, i < 64 → bb x i = false) : xfp x = 64 := by
  have e : x = 0 := bb_ext (fun i hi => by rw [h i hi, bb_0])
  rw [e, xfp_0]
def xcl (x : Int64) : Int64 := x &&& (x - 1)
theorem bb_xcl {x : Int64} (h : x ≠ 0) (i : Nat) : bb (xcl x) i = (bb x i && !decide (i = xfp x)) := by
  have h0 : nn x ≠ 0 := fun e => h (nn_inj e)
  obtain ⟨p, u, hn⟩ := low_of (nn x) h0
  have hp : xfp x = p := by
    refine xfp_is ?_ ?_ ?_
    · exact (low_lt (u := u) (by rw [← hn]; exact nn_lt x)).1
    · rw [← nn_bit, hn, tb_low]; simp
    · intro i hi
      rw [← nn_bit, hn, tb_low]
      have : ¬ p ≤ i := by omega
      simp [this]
  unfold xcl
  rw [← nn_bit, nn_and, nn_sub, nn_1]
  have h1 := nn_lt x
  have e1 : 2 ^ 64 - 1 + nn x = (nn x - 1) + 2 ^ 64 := by omega
  rw [e1, Nat.add_mod_right, Nat.mod_eq_of_lt (by omega), low_clear hn, hp]
  rfl
theorem xcl_0 : xcl 0 = 0 := by decide
theorem cn_mono (f : Nat → Bool) : ∀ {a b : Nat}, a ≤ b → cn f a ≤ cn f b := by
  intro a b h
  induction b with
  | zero => rw [Nat.le_zero.mp h]; exact Nat.le_refl _
  | succ b ih =>
    rcases Nat.lt_or_ge a (b + 1) with q | q
    · exact Nat.le_trans (ih (by omega)) (Nat.le_add_right _ _)
    · rw [show a = b + 1 by omega]; exact Nat.le_refl _
theorem cn_none {f : Nat → Bool} : ∀ {n : Nat}, (∀ i, i < n → f i = false) → cn f n = 0
  | 0, _ => rfl
  | n + 1, h => by
    show cn f n + _ = 0
    rw [cn_none (fun i hi => h i (by omega)), h n (by omega)]
    rfl
theorem cn_s (f : Nat → Bool) (n : Nat) : cn f (n + 1) = cn f n + (f n).toNat := rfl
/-- so many of the lowest bits cleared -/
def xit (x : Int64) : Nat → Int64
  | 0 => x
  | k + 1 => xcl (xit x k)
theorem bb_xit (x : Int64) : ∀ (k i : Nat), i < 64 → bb (xit x k) i = (bb x i && decide (k ≤ cn (bb x) i))
  | 0, i, _ => by simp [xit]
  | k + 1, i, hi => by
    show bb (xcl (xit x k)) i = _
    by_cases h : xit x k = 0
    · rw [h, xcl_0, bb_0]
      have h1 := bb_xit x k i hi
      rw [h, bb_0] at h1
      cases hb : bb x i with
      | false => rfl
      | true =>
        rw [hb, Bool.true_and] at h1
        have : ¬ k ≤ cn (bb x) i := of_decide_eq_false h1.symm
        rw [Bool.true_and]
        exact (decide_eq_false (by omega)).symm
    · obtain ⟨p1, p2, p3⟩ := xfp_spec h
      rw [bb_xcl h, bb_xit x k i hi]
      generalize xfp (xit x k) = p at p1 p2 p3
      have hp := bb_xit x k p p1
      rw [p2] at hp
      have hp2 := hp.symm
      rw [Bool.and_eq_true, decide_eq_true_eq] at hp2
      obtain ⟨hpb, hpk⟩ := hp2
      have hpe : cn (bb x) p = k := by
        rcases Nat.lt_or_ge k (cn (bb x) p) with q | q
        · exfalso
          -- some bit below p has number k
          have : ∃ j, j < p ∧ bb x j = true ∧ k ≤ cn (bb x) j := by
            clear p2 p3 hp hpb hpk
            induction p with
            | zero => exact absurd q (Nat.not_lt_zero _)
            | succ p ih =>
              rw [cn_s] at q
              cases hb : bb x p with
              | true =>
                rw [hb] at q
                exact ⟨p, Nat.lt_succ_self p, hb, by simp at q; omega⟩
              | false =>
                rw [hb] at q
                obtain ⟨j, j1, j2⟩ := ih (by omega) (by simpa using q)
                exact ⟨j, by omega, j2⟩
          obtain ⟨j, j1, j2, j3⟩ := this
          have h4 := p3 j j1
          rw [bb_xit x k j (by omega), j2, Bool.true_and] at h4
          exact absurd j3 (of_decide_eq_false h4)
        · omega
      by_cases e : i = p
      · subst e
        simp [hpe]
      · simp only [e, decide_false, Bool.not_false, Bool.and_true]
        cases hb : bb x i with
        | false => rfl
        | true =>
          rw [Bool.true_and, Bool.true_and]
          rcases Nat.lt_or_ge i p with q | q
          · have h4 := p3 i q
            rw [bb_xit x k i hi, hb, Bool.true_and] at h4
            have h5 := of_decide_eq_false h4
            rw [decide_eq_false h5, decide_eq_false (by omega)]
          · have h6 : cn (bb x) (p + 1) ≤ cn (bb x) i := cn_mono _ (by omega)
            rw [cn_s, hpb, hpe] at h6
            rw [decide_eq_true (show k ≤ cn (bb x) i by simp at h6; omega), decide_eq_true (show k + 1 ≤ cn (bb x) i by simpa using h6)]
/-- the place of bit number k -/
theorem xpl_is {x : Int64} {k p : Nat} (h1 : p < 64) (h2 : bb x p = true) (h3 : cn (bb x) p = k) : xfp (xit x k) = p := by
  refine xfp_is h1 ?_ ?_
  · rw [bb_xit x k p h1, h2, h3]; simp
  · intro i hi
    rw [bb_xit x k i (by omega)]
    cases hb : bb x i with
    | false => rfl
    | true =>
      rw [Bool.true_and]
      refine decide_eq_false fun q => ?_
      have h6 : cn (bb x) (i + 1) ≤ cn (bb x) p := cn_mono _ (by omega)
      rw [cn_s, hb, h3] at h6
      simp at h6
      omega
/-! the contracts of these -/
set_option maxRecDepth 20000 in
theorem c_ro_starts (l : Launch) (h : hp_H) (x : Int64) : hp_M l Y_ro_starts [.long x] h true 0 0 (hq_P (.inl (some (.long (xst x)))) h) := by
  refine hp_start (T := T_ro_starts) (by decide) rfl (fun σ => Nat.le_of_ble_eq_true rfl) (fun G C => ?_)
  refine hp_run_sound hp_co V_ro_starts C (fun _ _ _ _ _ _ _ hq => hq) [] 20 _ _ _ _ _ _ _ ?_
  exact And.intro rfl (And.intro rfl (And.intro rfl rfl))
set_option maxRecDepth 20000 in
theorem c_ro_firstRun (l : Launch) (h : hp_H) (x : Int64) : hp_M l Y_ro_firstRun [.long x] h true 0 0 (hq_P (.inl (some (.long (xfr x)))) h) := by
  refine hp_start (T := T_ro_firstRun) (by decide) rfl (fun σ => Nat.le_of_ble_eq_true rfl) (fun G C => ?_)
  refine hp_run_sound hp_co V_ro_firstRun C (fun _ _ _ _ _ _ _ hq => hq) [] 20 _ _ _ _ _ _ _ ?_
  exact And.intro rfl (And.intro rfl (And.intro rfl rfl))
set_option maxRecDepth 20000 in
theorem c_ro_countRuns (l : Launch) (h : hp_H) (x : Int64) : hp_M l Y_ro_countRuns [.long x] h true 0 0 (hq_P (.inl (some (.int (nI (cn (bb (xst x)) 64))))) h) := by
  refine hp_start (T := T_ro_countRuns) (by decide) rfl (fun σ => Nat.le_of_ble_eq_true rfl) (fun G C => ?_)
  refine hp_run_sound hp_co V_ro_countRuns C (fun _ _ _ _ _ _ _ hq => hq) [] 20 _ _ _ _ _ _ _ ?_
  refine ic_P (c_ro_starts l h x) (Nat.le_refl _) (Nat.le_refl _) ?_
  refine ic_P (c_jl_bitCount l h (xst x)) (Nat.le_refl _) (Nat.le_refl _) ?_
  exact And.intro rfl (And.intro rfl (And.intro rfl rfl))
set_option maxRecDepth 20000 in
theorem c_ro_firstPlace (l : Launch) (h : hp_H) (x : Int64) : hp_M l Y_ro_firstPlace [.long x] h true 0 0 (hq_P (.inl (some (.int (nI (xfp x))))) h) := by
  refine hp_start (T := T_ro_firstPlace) (by decide) rfl (fun σ => Nat.le_of_ble_eq_true rfl) (fun G C => ?_)
  refine hp_run_sound hp_co V_ro_firstPlace C (fun _ _ _ _ _ _ _ hq => hq) [] 20 _ _ _ _ _ _ _ ?_
  refine ic_P (c_jl_bitCount l h (xlow x - 1)) (Nat.le_refl _) (Nat.le_refl _) ?_
  exact And.intro rfl (And.intro rfl (And.intro rfl rfl))
set_option maxRecDepth 20000 in
theorem c_ro_placeOf (l : Launch) (h : hp_H) (x : Int64) (k : Nat) (hk : k < 2 ^ 31) : hp_M l Y_ro_placeOf [.long x, .int (nI k)] h true 0 0 (hq_P (.inl (some (.int (nI (xfp (xit x k)))))) h) := by
  refine hp_start (T := T_ro_placeOf) (by decide) rfl (fun σ => Nat.le_of_ble_eq_true rfl) (fun G C => ?_)
  have key : ∀ (m i : Nat), i + m = k → hp_W G 5 [(0, .long x), (2, .int (nI k)), (3, .long (xit x i)), (5, .int (nI i))] [] h true 0 0 := by
    intro m
    induction m with
    | zero =>
      intro i hi
      have e : i = k := by omega
      subst e
      refine hp_run_sound hp_co V_ro_placeOf C (fun _ _ _ _ _ _ _ hq => hq) [5] 6 _ _ _ _ _ _ _ ?_
      refine And.intro (fun c => ?_) (fun c => absurd (nI_le (Nat.le_refl i) hk) c)
      refine ic_P (c_ro_firstPlace l h (xit x i)) (Nat.le_refl _) (Nat.le_refl _) ?_
      exact And.intro rfl (And.intro rfl (And.intro rfl rfl))
    | succ m ih =>
      intro i hi
      refine hp_run_sound hp_co V_ro_placeOf C (fun _ _ _ _ _ _ _ hq => hq) [5] 14 _ _ _ _ _ _ _ ?_
      refine And.intro (fun c => absurd c (nI_ge (by omega) hk)) (fun c => ?_)
      have hW := ih (i + 1) (by omega)
      rw [← nI_1 i] at hW
      exact hW
  refine hp_run_sound hp_co V_ro_placeOf C (fun _ _ _ _ _ _ _ hq => hq) [5] 10 _ _ _ _ _ _ _ ?_
  exact key k 0 (by omega)
set_option maxRecDepth 20000 in
theorem c_ro_row (l : Launch) (h : hp_H) (a : Nat) (y : Int32) (f : Nat → Int64) (ha : h[a]? = some (.inl (.long, 64, .inr (.inl f)))) :
    hp_M l Y_ro_row [.ref a, .int y] h true 0 0 (hq_P (.inl (some (.long (if 0 ≤ y ∧ y < 64 then f y.toNatClampNeg else 0)))) h) := by
  refine hp_start (T := T_ro_row) (by decide) rfl (fun σ => Nat.le_of_ble_eq_true rfl) (fun G C => ?_)
  refine hp_run_sound hp_co V_ro_row C (fun _ _ _ _ _ _ _ hq => hq) [] 20 _ _ _ _ _ _ _ ?_
  refine And.intro (fun c1 => ?_) (fun c1 => And.intro (fun c2 => ?_) (fun c2 => ?_))
  · refine And.intro rfl (And.intro rfl (And.intro ?_ rfl))
    rw [if_neg (fun q => absurd c1 (Int32.not_lt.mpr q.1))]
    rfl
  · refine And.intro rfl (And.intro rfl (And.intro ?_ rfl))
    rw [if_neg (fun q => absurd q.2 (Int32.not_lt.mpr c2))]
    rfl
  · have hin : vp_in y 64 := by
      rw [vp_in_iff]
      have h1 := Int32.le_iff_toInt_le.mp (Int32.not_lt.mp c1)
      have h2 := Int32.lt_iff_toInt_lt.mp (Int32.not_le.mp c2)
      exact ⟨h1, h2⟩
    refine Exists.intro 64 (Exists.intro f (And.intro ha (And.intro hin ?_)))
    refine And.intro rfl (And.intro rfl (And.intro ?_ rfl))
    rw [if_pos ⟨Int32.not_lt.mp c1, Int32.not_le.mp c2⟩]
end
section
/-! a long by its bits -/
def ofB (f : Nat → Bool) : Int64 := lN (fs 1 (fun i => (f i).toNat) 64)
theorem bb_ofB (f : Nat → Bool) {i : Nat} (hi : i < 64) : bb (ofB f) i = f i := by
  have hc : ∀ j, j < 64 → (fun i => (f i).toNat) j < 2 ^ 1 := fun j _ => by have := bn_le (f j); show (f j).toNat < 2; omega
  have hl := fs_lt 64 hc
  unfold ofB
  rw [← nn_bit, nn_lN hl]
  have h := fs_bit 64 hc i 0 (by decide)
  rw [Nat.one_mul, Nat.add_zero] at h
  rw [h]
  simp only [hi, decide_true, Bool.true_and]
  cases f i <;> rfl
theorem ofB_eq {x : Int64} {f : Nat → Bool} (h : ∀ i, i < 64 → bb x i = f i) : x = ofB f := bb_ext (fun i hi => by rw [h i hi, bb_ofB f hi])
theorem ofB_bb (x : Int64) : ofB (bb x) = x := (ofB_eq (fun _ _ => rfl)).symm
/-! leftOf -/
theorem nn_1shl : ∀ k, k < 64 → nn ((1 : Int64) <<< ((nI k).toInt64 &&& 63)) = 2 ^ k := by decide +kernel
def xlo (n : Nat) : Int64 := ofB fun i => decide (i < n)
theorem xlo_shl {n : Nat} (h : n < 64) : ((1 : Int64) <<< ((nI n).toInt64 &&& 63)) - 1 = xlo n := by
  refine ofB_eq (fun i hi => ?_)
  rw [← nn_bit, nn_sub, nn_1shl n h, nn_1]
  have hp := Nat.two_pow_pos n
  have hp3 : 2 ^ n < 2 ^ 64 := Nat.pow_lt_pow_right (by decide) h
  have e1 : 2 ^ 64 - 1 + 2 ^ n = (2 ^ n - 1) + 2 ^ 64 := by omega
  rw [e1, Nat.add_mod_right, Nat.mod_eq_of_lt (by omega), Nat.testBit_two_pow_sub_one]
set_option maxRecDepth 20000 in
theorem c_ro_leftOf (l : Launch) (h : hp_H) (n : Nat) (hn : n ≤ 64) : hp_M l Y_ro_leftOf [.int (nI n)] h true 0 0 (hq_P (.inl (some (.long (xlo n)))) h) := by
  refine hp_start (T := T_ro_leftOf) (by decide) rfl (fun σ => Nat.le_of_ble_eq_true rfl) (fun G C => ?_)
  refine hp_run_sound hp_co V_ro_leftOf C (fun _ _ _ _ _ _ _ hq => hq) [] 20 _ _ _ _ _ _ _ ?_
  refine And.intro (fun c1 => ?_) (fun c1 => ?_)
  · have h1 : n < 64 := (nI_ltI (b := 64) (by omega) (by decide)).mp c1
    refine And.intro rfl (And.intro rfl (And.intro ?_ rfl))
    rw [← xlo_shl h1]
    rfl
  · have h1 : ¬ n < 64 := fun q => c1 (nI_lt q (by decide))
    refine And.intro rfl (And.intro rfl (And.intro ?_ rfl))
    have e : (-1 : Int64) = xlo n := ofB_eq (fun i hi => by rw [bb_m1 hi]; exact (decide_eq_true (by omega)).symm)
    rw [← e]
/-! runEnd -/
def xre (x : Int64) (s : Nat) : Nat := s + xfp ((x.toUInt64 >>> ((nI s).toInt64.toUInt64 &&& Int64.toUInt64 63)).toInt64 ^^^ (-1))
theorem xre_spec (x : Int64) {s : Nat} (hs : s < 64) : s ≤ xre x s ∧ xre x s ≤ 64 ∧ (∀ i, s ≤ i → i < xre x s → bb x i = true) ∧ bb x (xre x s) = false := by
  have hb : ∀ i, i < 64 → bb ((x.toUInt64 >>> ((nI s).toInt64.toUInt64 &&& Int64.toUInt64 63)).toInt64 ^^^ (-1)) i = !bb x (s + i) := fun i hi => by
    rw [bb_not _ hi, bb_shr hs]
  unfold xre
  generalize (x.toUInt64 >>> ((nI s).toInt64.toUInt64 &&& Int64.toUInt64 63)).toInt64 ^^^ (-1) = y at hb
  by_cases h : y = 0
  · subst h
    have hs0 : s = 0 := by
      rcases Nat.eq_zero_or_pos s with e | e
      · exact e
      · have := hb (64 - s) (by omega)
        rw [bb_0, bb_big (by omega)] at this
        cases this
    subst hs0
    rw [xfp_0]
    refine ⟨by omega, by omega, fun i h1 h2 => ?_, bb_big (by omega)⟩
    have := hb i (by omega)
    rw [bb_0, Nat.zero_add] at this
    cases hx : bb x i with
    | true => rfl
    | false => rw [hx] at this; cases this
  · obtain ⟨p1, p2, p3⟩ := xfp_spec h
    have h4 : xfp y ≤ 64 - s := by
      rcases Nat.lt_or_ge (64 - s) (xfp y) with q | q
      · have h5 := p3 (64 - s) q
        rw [hb _ (by omega), bb_big (by omega)] at h5
        cases h5
      · exact q
    refine ⟨by omega, by omega, fun i h1 h2 => ?_, ?_⟩
    · have h5 := p3 (i - s) (by omega)
      rw [hb _ (by omega), show s + (i - s) = i by omega] at h5
      cases hx : bb x i with
      | true => rfl
      | false => rw [hx] at h5; cases h5
    · rw [hb _ p1] at p2
      cases hx : bb x (s + xfp y) with
      | false => rfl
      | true => rw [hx] at p2; cases p2
set_option maxRecDepth 20000 in
theorem c_ro_runEnd (l : Launch) (h : hp_H) (x : Int64) (s : Nat) : hp_M l Y_ro_runEnd [.long x, .int (nI s)] h true 0 0 (hq_P (.inl (some (.int (nI (xre x s))))) h) := by
  refine hp_start (T := T_ro_runEnd) (by decide) rfl (fun σ => Nat.le_of_ble_eq_true rfl) (fun G C => ?_)
  refine hp_run_sound hp_co V_ro_runEnd C (fun _ _ _ _ _ _ _ hq => hq) [] 20 _ _ _ _ _ _ _ ?_
  refine ic_P (c_ro_firstPlace l h _) (Nat.le_refl _) (Nat.le_refl _) ?_
  refine And.intro rfl (And.intro rfl (And.intro ?_ rfl))
  unfold xre
  rw [← nI_add]
/-! widened and narrowed: not farther than d, on a line of 64 -/
def dlb (f : Nat → Bool) (d i : Nat) : Bool := (List.range 64).any fun j => f j && (decide (i ≤ j + d) && decide (j ≤ i + d))
theorem dlb_iff {f : Nat → Bool} {d i : Nat} : dlb f d i = true ↔ ∃ j, j < 64 ∧ f j = true ∧ i ≤ j + d ∧ j ≤ i + d := by
  unfold dlb
  rw [List.any_eq_true]
  constructor
  · rintro ⟨j, h1, h2⟩
    rw [Bool.and_eq_true, Bool.and_eq_true, decide_eq_true_eq, decide_eq_true_eq] at h2
    exact ⟨j, List.mem_range.mp h1, h2.1, h2.2.1, h2.2.2⟩
  · rintro ⟨j, h1, h2, h3, h4⟩
    exact ⟨j, List.mem_range.mpr h1, by rw [h2, decide_eq_true h3, decide_eq_true h4]; rfl⟩
def erb (f : Nat → Bool) (d i : Nat) : Bool := decide (d ≤ i) && (decide (i + d < 64) && (List.range 64).all fun j => f j || !(decide (i ≤ j + d) && decide (j ≤ i + d)))
theorem erb_iff {f : Nat → Bool} {d i : Nat} : erb f d i = true ↔ d ≤ i ∧ i + d < 64 ∧ ∀ j, i ≤ j + d → j ≤ i + d → f j = true := by
  unfold erb
  rw [Bool.and_eq_true, Bool.and_eq_true, decide_eq_true_eq, decide_eq_true_eq, List.all_eq_true]
  constructor
  · rintro ⟨h1, h2, h3⟩
    refine ⟨h1, h2, fun j h4 h5 => ?_⟩
    have h6 := h3 j (List.mem_range.mpr (by omega))
    rw [decide_eq_true h4, decide_eq_true h5] at h6
    simpa using h6
  · rintro ⟨h1, h2, h3⟩
    refine ⟨h1, h2, fun j h4 => ?_⟩
    by_cases h5 : i ≤ j + d
    · by_cases h6 : j ≤ i + d
      · rw [h3 j h5 h6]; rfl
      · simp [h6]
    · simp [h5]
def xwi (x : Int64) (d : Nat) : Int64 := ofB (dlb (bb x) d)
def xna (x : Int64) (d : Nat) : Int64 := ofB (erb (bb x) d)
theorem bool_ext {a b : Bool} (h : a = true ↔ b = true) : a = b := by
  cases a <;> cases b <;> simp_all
theorem xwi_0 (x : Int64) : xwi x 0 = x := by
  refine Eq.symm (ofB_eq (fun i hi => bool_ext ?_))
  rw [dlb_iff]
  constructor
  · intro h
    exact ⟨i, hi, h, by omega, by omega⟩
  · rintro ⟨j, h1, h2, h3, h4⟩
    rw [show i = j by omega]
    exact h2
theorem xna_0 (x : Int64) : xna x 0 = x := by
  refine Eq.symm (ofB_eq (fun i hi => bool_ext ?_))
  rw [erb_iff]
  constructor
  · intro h
    exact ⟨by omega, by omega, fun j h1 h2 => by rw [show j = i by omega]; exact h⟩
  · rintro ⟨h1, h2, h3⟩
    exact h3 i (by omega) (by omega)
theorem xwi_step (x : Int64) {d s : Nat} (hs : s ≤ d + 1) (h64 : s < 64) : xwi x d ||| ((xwi x d <<< ((nI s).toInt64 &&& 63)) ||| ((xwi x d).toUInt64 >>> ((nI s).toInt64.toUInt64 &&& Int64.toUInt64 63)).toInt64) = xwi x (d + s) := by
  refine ofB_eq (fun i hi => bool_ext ?_)
  rw [bb_or, bb_or, bb_shl h64 _ hi, bb_shr h64, dlb_iff]
  have hb : ∀ j, j < 64 → (bb (xwi x d) j = true ↔ ∃ j', j' < 64 ∧ bb x j' = true ∧ j ≤ j' + d ∧ j' ≤ j + d) := fun j hj => by
    unfold xwi
    rw [bb_ofB _ hj, dlb_iff]
  constructor
  · intro h
    rw [Bool.or_eq_true, Bool.or_eq_true, Bool.and_eq_true, decide_eq_true_eq] at h
    rcases h with h | ⟨h0, h⟩ | h
    · obtain ⟨j, h1, h2, h3, h4⟩ := (hb i hi).mp h
      exact ⟨j, h1, h2, by omega, by omega⟩
    · obtain ⟨j, h1, h2, h3, h4⟩ := (hb (i - s) (by omega)).mp h
      exact ⟨j, h1, h2, by omega, by omega⟩
    · rcases Nat.lt_or_ge (s + i) 64 with q | q
      · obtain ⟨j, h1, h2, h3, h4⟩ := (hb (s + i) q).mp h
        exact ⟨j, h1, h2, by omega, by omega⟩
      · rw [bb_big q] at h; cases h
  · rintro ⟨j, h1, h2, h3, h4⟩
    rw [Bool.or_eq_true, Bool.or_eq_true, Bool.and_eq_true, decide_eq_true_eq]
    by_cases q1 : i ≤ j + d
    · by_cases q2 : j ≤ i + d
      · exact Or.inl ((hb i hi).mpr ⟨j, h1, h2, q1, q2⟩)
      · exact Or.inr (Or.inr ((hb (s + i) (by omega)).mpr ⟨j, h1, h2, by omega, by omega⟩))
    · exact Or.inr (Or.inl ⟨by omega, (hb (i - s) (by omega)).mpr ⟨j, h1, h2, by omega, by omega⟩⟩)
theorem xna_step (x : Int64) {d s : Nat} (hs : s ≤ d + 1) (h64 : s < 64) : xna x d &&& ((xna x d <<< ((nI s).toInt64 &&& 63)) &&& ((xna x d).toUInt64 >>> ((nI s).toInt64.toUInt64 &&& Int64.toUInt64 63)).toInt64) = xna x (d + s) := by
  refine ofB_eq (fun i hi => bool_ext ?_)
  rw [bb_and, bb_and, bb_shl h64 _ hi, bb_shr h64, erb_iff]
  have hb : ∀ j, j < 64 → (bb (xna x d) j = true ↔ d ≤ j ∧ j + d < 64 ∧ ∀ j', j ≤ j' + d → j' ≤ j + d → bb x j' = true) := fun j hj => by
    unfold xna
    rw [bb_ofB _ hj, erb_iff]
  constructor
  · intro h
    rw [Bool.and_eq_true, Bool.and_eq_true, Bool.and_eq_true, decide_eq_true_eq] at h
    obtain ⟨h1, ⟨h2, h3⟩, h4⟩ := h
    have q : s + i < 64 := by
      rcases Nat.lt_or_ge (s + i) 64 with q | q
      · exact q
      · rw [bb_big q] at h4; cases h4
    obtain ⟨a1, a2, a3⟩ := (hb i hi).mp h1
    obtain ⟨b1, b2, b3⟩ := (hb (i - s) (by omega)).mp h3
    obtain ⟨c1, c2, c3⟩ := (hb (s + i) q).mp h4
    refine ⟨by omega, by omega, fun j e1 e2 => ?_⟩
    by_cases q1 : i ≤ j + d
    · by_cases q2 : j ≤ i + d
      · exact a3 j q1 q2
      · exact c3 j (by omega) (by omega)
    · exact b3 j (by omega) (by omega)
  · rintro ⟨h1, h2, h3⟩
    rw [Bool.and_eq_true, Bool.and_eq_true, Bool.and_eq_true, decide_eq_true_eq]
    exact ⟨(hb i hi).mpr ⟨by omega, by omega, fun j e1 e2 => h3 j (by omega) (by omega)⟩, ⟨by omega, (hb (i - s) (by omega)).mpr ⟨by omega, by omega, fun j e1 e2 => h3 j (by omega) (by omega)⟩⟩, (hb (s + i) (by omega)).mpr ⟨by omega, by omega, fun j e1 e2 => h3 j (by omega) (by omega)⟩⟩
/-- the step of both -/
theorem min_step {d e : Nat} (h : e < d) (hd : d ≤ 64) : (if nI e + 1 ≤ nI d - nI e then nI e + 1 else nI d - nI e) = nI (if e + 1 ≤ d - e then e + 1 else d - e) := by
  rw [pk_sub (by omega), nI_1]
  by_cases q : e + 1 ≤ d - e
  · rw [if_pos q, if_pos (nI_le q (by omega))]
  · rw [if_neg q, if_neg (nI_ge (by omega) (by omega))]
set_option maxRecDepth 20000 in
theorem c_ro_widened (l : Launch) (h : hp_H) (x : Int64) (d : Nat) (hd : d ≤ 64) : hp_M l Y_ro_widened [.long x, .int (nI d)] h true 0 0 (hq_P (.inl (some (.long (xwi x d)))) h) := by
  refine hp_start (T := T_ro_widened) (by decide) rfl (fun σ => Nat.le_of_ble_eq_true rfl) (fun G C => ?_)
  have key : ∀ (m e : Nat) (t : Int32), e ≤ d → d ≤ e + m → hp_W G 8 [(0, .long x), (2, .int (nI d)), (3, .long (xwi x e)), (5, .int t), (6, .int (nI e))] [] h true 0 0 := by
    intro m
    induction m with
    | zero =>
      intro e t h1 h2
      have q : e = d := by omega
      subst q
      refine hp_run_sound hp_co V_ro_widened C (fun _ _ _ _ _ _ _ hq => hq) [8] 6 _ _ _ _ _ _ _ ?_
      refine And.intro (fun c => ?_) (fun c => absurd (nI_le (Nat.le_refl e) (by omega)) c)
      exact And.intro rfl (And.intro rfl (And.intro rfl rfl))
    | succ m ih =>
      intro e t h1 h2
      refine hp_run_sound hp_co V_ro_widened C (fun _ _ _ _ _ _ _ hq => hq) [8] 40 _ _ _ _ _ _ _ ?_
      refine And.intro (fun c => ?_) (fun c => ?_)
      · have q : e = d := by
          rcases Nat.lt_or_ge e d with q | q
          · exact absurd c (nI_ge q (by omega))
          · omega
        subst q
        exact And.intro rfl (And.intro rfl (And.intro rfl rfl))
      · have q : e < d := by
          rcases Nat.lt_or_ge e d with q | q
          · exact q
          · exact absurd (nI_le q (by omega)) c
        refine ic_P (M_swap (c_jm_min l h _ _)) (Nat.le_refl _) (Nat.le_refl _) ?_
        have hW := ih (e + (if e + 1 ≤ d - e then e + 1 else d - e)) (nI (if e + 1 ≤ d - e then e + 1 else d - e)) (by split <;> omega) (by split <;> omega)
        rw [← xwi_step x (by split <;> omega) (by split <;> omega), ← nI_add, ← min_step q hd] at hW
        exact hW
  have h0 := key d 0 1 (Nat.zero_le _) (by omega)
  rw [xwi_0] at h0
  refine hp_run_sound hp_co V_ro_widened C (fun _ _ _ _ _ _ _ hq => hq) [8] 10 _ _ _ _ _ _ _ ?_
  exact h0
set_option maxRecDepth 20000 in
theorem c_ro_narrowed (l : Launch) (h : hp_H) (x : Int64) (d : Nat) (hd : d ≤ 64) : hp_M l Y_ro_narrowed [.long x, .int (nI d)] h true 0 0 (hq_P (.inl (some (.long (xna x d)))) h) := by
  refine hp_start (T := T_ro_narrowed) (by decide) rfl (fun σ => Nat.le_of_ble_eq_true rfl) (fun G C => ?_)
  have key : ∀ (m e : Nat) (t : Int32), e ≤ d → d ≤ e + m → hp_W G 8 [(0, .long x), (2, .int (nI d)), (3, .long (xna x e)), (5, .int t), (6, .int (nI e))] [] h true 0 0 := by
    intro m
    induction m with
    | zero =>
      intro e t h1 h2
      have q : e = d := by omega
      subst q
      refine hp_run_sound hp_co V_ro_narrowed C (fun _ _ _ _ _ _ _ hq => hq) [8] 6 _ _ _ _ _ _ _ ?_
      refine And.intro (fun c => ?_) (fun c => absurd (nI_le (Nat.le_refl e) (by omega)) c)
      exact And.intro rfl (And.intro rfl (And.intro rfl rfl))
    | succ m ih =>
      intro e t h1 h2
      refine hp_run_sound hp_co V_ro_narrowed C (fun _ _ _ _ _ _ _ hq => hq) [8] 40 _ _ _ _ _ _ _ ?_
      refine And.intro (fun c => ?_) (fun c => ?_)
      · have q : e = d := by
          rcases Nat.lt_or_ge e d with q | q
          · exact absurd c (nI_ge q (by omega))
          · omega
        subst q
        exact And.intro rfl (And.intro rfl (And.intro rfl rfl))
      · have q : e < d := by
          rcases Nat.lt_or_ge e d with q | q
          · exact q
          · exact absurd (nI_le q (by omega)) c
        refine ic_P (M_swap (c_jm_min l h _ _)) (Nat.le_refl _) (Nat.le_refl _) ?_
        have hW := ih (e + (if e + 1 ≤ d - e then e + 1 else d - e)) (nI (if e + 1 ≤ d - e then e + 1 else d - e)) (by split <;> omega) (by split <;> omega)
        rw [← xna_step x (by split <;> omega) (by split <;> omega), ← nI_add, ← min_step q hd] at hW
        exact hW
  have h0 := key d 0 1 (Nat.zero_le _) (by omega)
  rw [xna_0] at h0
  refine hp_run_sound hp_co V_ro_narrowed C (fun _ _ _ _ _ _ _ hq => hq) [8] 10 _ _ _ _ _ _ _ ?_
  exact h0
end
section
/-! System.arraycopy of longs, from place 0 to place 0 -/
set_option maxHeartbeats 4000000 in
theorem hs_copyl {T : hp_T} {Y : hp_Y} {l : Launch} {w0 : Bool} {dk dn : Nat} {Q : hp_R → hp_H → Prop} {G : hp_G} (C : hp_ctx T Y l w0 dk dn Q G) {idx pc : Nat} {lv : hp_L} {st r : List Value} {h : hp_H} {w : Bool} {k n : Nat}
    (v1 : Jvm.Cond.methodLink (t_own T) idx arraycopyName ∈ hp_Ts) (v2 : Jvm.Cond.native arraycopyName ∈ hp_Ts) (v3 : Jvm.Cond.static arraycopyName ∈ hp_Ts) (v4 : Jvm.Cond.initialized "java/lang/System" ∈ hp_Ts) (hd : decode (y_cc Y) pc = .ok (.invokestatic idx, 3))
    {a b N M L : Nat} {f g : Nat → Int64} (hL : L < 2 ^ 31) (hst : st = .int (nI L) :: .int (nI 0) :: .ref b :: .int (nI 0) :: .ref a :: r) (ha : h[a]? = some (.inl (.long, N, .inr (.inl f)))) (hb : h[b]? = some (.inl (.long, M, .inr (.inl g)))) (hN : L ≤ N) (hM : L ≤ M)
    (hfr : 1 ≤ y_fr Y) (hlo : (r.map fun v => v.category).sum + 18 ≤ y_lo Y) (hi : hp_W G (pc + 3) lv r (h.set b (.inl (.long, M, .inr (.inl fun j => if j < L then f j else g j)))) false k n) : hp_W G pc lv st h w k n := by
  subst hst
  obtain ⟨B, O, hn, hR, hl, hw, hQ, hrt, hlk, hnm, hex, hnt, hth⟩ := C
  intro σ H locs ls a1 a2 a3 a4 a5 a6 a7 a8 a9 T0 hT X
  obtain ⟨hts, hown, hKn, hzs⟩ := O
  obtain ⟨cs, p1, ⟨p2, ks, pk, cm0, hkk0⟩, p3, p4, p5⟩ := a1.2.1 a _ ha
  obtain ⟨cd, q1, ⟨q2, kd, qk, cm1, hkk1⟩, q3, q4, q5⟩ := a1.2.1 b _ hb
  have hz : g_z G ≤ σ.getD b 0 := a1.2.2.2.1 b _ hb rfl
  have hL0 : (nI L).toNatClampNeg = L := nI_clamp hL
  have h00 : (nI 0).toNatClampNeg = 0 := rfl
  have hLi : (nI L).toInt = (L : Int) := nI_toInt hL
  have h0i : (nI 0).toInt = 0 := rfl
  have hcat : ((r.map (hp_cv σ)).map fun v => v.category) = r.map fun v => v.category := by
    rw [List.map_map]
    exact List.map_congr_left fun v _ => hp_cv_cat σ v
  have hrd : ∀ i, i < L → cs.slots.getD i .null = .long (f i) := fun i hi2 => by
    rw [Array.getD_eq_getD_getElem?, (p5 i (by omega)).1]
    rfl
  obtain ⟨vm', X', step⟩ := X.arraycopy B.1 hown (hts _ v1) (hts _ v2) (hts _ v3) (hts _ v4) (src := σ.getD a 0) (dst := σ.getD b 0) (cs := cs) (cd := cd) (srcPos := nI 0) (destPos := nI 0) (n := nI L) (by rw [hT]; exact p1) (by rw [hT]; exact q1)
    p2 q2 p3 q3 pk qk hkk0 hkk1 rfl (nI_pos (by decide)) (nI_pos (by decide)) (nI_pos hL)
    (by rw [h0i, hLi, p4]; omega) (by rw [h0i, hLi, q4]; omega)
    (fun vm₁ _ i hi2 => by
      rw [hL0] at hi2
      rw [h00, Nat.zero_add, hrd i hi2]
      exact ⟨rfl, trivial⟩)
    (g := F0 (g_m G) pc ls (.int (nI L) :: .int (nI 0) :: .ref (σ.getD b 0) :: .int (nI 0) :: .ref (σ.getD a 0) :: r.map (hp_cv σ))) rfl (a6.1.trans B.2.2.symm) (rest := r.map (hp_cv σ)) rfl (by rw [B.2.1]; exact hd) (by rw [hR]; exact hfr) (by rw [hR]; show 2 * 0 + ((r.map (hp_cv σ)).map fun v => v.category).sum + (7 + 11) ≤ y_lo Y; rw [hcat]; omega)
  obtain ⟨c1, c2, c3, c4, c5⟩ := Cell.storeRun_facts cd 0 (cs.stretch 0 L)
  have hlen : (cs.stretch 0 L).length = L := by unfold Cell.stretch; rw [List.length_map, List.length_range]
  have hget : ∀ j, (cd.storeRun 0 (cs.stretch 0 L)).slots[j]? = if j < L then some (.long (f j)) else cd.slots[j]? := fun j => by
    rw [Cell.storeRun_get cd 0 (cs.stretch 0 L) j (by rw [hlen, q4]; omega), hlen]
    by_cases hj : j < L
    · rw [if_pos ⟨Nat.zero_le _, by omega⟩, if_pos hj]
      unfold Cell.stretch
      rw [List.getElem?_map, List.getElem?_range (by omega)]
      show some (cs.slots.getD (0 + (j - 0)) .null) = _
      rw [Nat.zero_add, Nat.sub_zero, hrd j hj]
    · rw [if_neg (fun q => hj (by omega)), if_neg hj]
  have hcp : copied cs cd (nI 0) (nI 0) (nI L) = cd.storeRun 0 (cs.stretch 0 L) := by
    show cd.storeRun (nI 0).toNatClampNeg (cs.stretch (nI 0).toNatClampNeg (nI L).toNatClampNeg) = _
    rw [hL0]
    rfl
  rw [hcp] at X' step
  have hlb : σ.getD b 0 < H.size := (Array.getElem?_eq_some_iff.mp q1).1
  have hheap : ((T0.setVm vm').setCell (σ.getD b 0) (cd.storeRun 0 (cs.stretch 0 L))).heap = H.setIfInBounds (σ.getD b 0) (cd.storeRun 0 (cs.stretch 0 L)) := by rw [← hT]; rfl
  have oq : ∀ q : Nat, q ≠ σ.getD b 0 → (H.setIfInBounds (σ.getD b 0) (cd.storeRun 0 (cs.stretch 0 L)))[q]? = H[q]? := fun q hq => by rw [Array.getElem?_setIfInBounds_ne (Ne.symm hq)]
  have e1 : (H.setIfInBounds (σ.getD b 0) (cd.storeRun 0 (cs.stretch 0 L)))[σ.getD b 0]? = some (cd.storeRun 0 (cs.stretch 0 L)) := by rw [Array.getElem?_setIfInBounds, if_pos rfl, if_pos hlb]
  have hrep : hp_rep (g_D G) (g_z G) (g_s G) σ (h.set b (.inl (.long, M, .inr (.inl fun j => if j < L then f j else g j)))) (H.setIfInBounds (σ.getD b 0) (cd.storeRun 0 (cs.stretch 0 L))) := by
    refine hp_rep_put a1 hb rfl ⟨_, e1, ⟨fun q => by rw [c2]; exact q2 q, kd, by rw [c1]; exact qk, cm1, hkk1⟩, by rw [c2]; exact q3, by rw [c3]; exact q4, fun j hj => ?_⟩ oq (fun c6 h6 => ?_)
    · rw [hget j]
      by_cases hj2 : j < L
      · rw [if_pos hj2]
        show some _ = some (hp_cv σ (.long (if j < L then f j else g j))) ∧ hp_ok σ (.long _)
        rw [if_pos hj2]
        exact ⟨rfl, trivial⟩
      · rw [if_neg hj2]
        show _ = some (hp_cv σ (.long (if j < L then f j else g j))) ∧ hp_ok σ (.long _)
        rw [if_neg hj2]
        exact q5 j hj
    · rw [e1] at h6
      cases h6
      rw [c2]
      cases hvm : cd.vm <;> first | rfl | exact absurd hvm (q2 _)
  obtain ⟨t, t1, t2⟩ := hi σ _ _ ls hrep a2 ⟨by rw [Array.size_setIfInBounds]; exact a3.1, fun q hq => by rw [oq q (Nat.ne_of_lt (Nat.lt_of_lt_of_le hq hz))]; exact a3.2 q hq⟩ (fun q hq => by
      rcases List.mem_append.mp hq with e | e
      · exact a4 q e
      · obtain ⟨z9, -, hz9⟩ := List.mem_map.mp e
        rw [← hz9]
        exact hz) (fun q => by cases q) a6 (fun v hv => a7 v (List.mem_cons_of_mem _ (List.mem_cons_of_mem _ (List.mem_cons_of_mem _ (List.mem_cons_of_mem _ (List.mem_cons_of_mem _ hv)))))) a8 a9 _ hheap X'
  exact ⟨t, step t t1, t2⟩
theorem cp_link : Jvm.Cond.methodLink "EdgeSweeps$Rows" 26 arraycopyName ∈ hp_Ts := tm_in (List.mem_of_getElem? (i := 391) (by decide +kernel))
theorem cp_nat : Jvm.Cond.native arraycopyName ∈ hp_Ts := tm_in (List.mem_of_getElem? (i := 393) (by decide +kernel))
theorem cp_stat : Jvm.Cond.static arraycopyName ∈ hp_Ts := tm_in (List.mem_of_getElem? (i := 392) (by decide +kernel))
theorem cp_ini : Jvm.Cond.initialized "java/lang/System" ∈ hp_Ts := tm_in (List.mem_of_getElem? (i := 15) (by decide +kernel))
theorem hq_dec {T : hp_T} {Y : hp_Y} (V : hp_val T Y) {pc : Nat} {i : Instr} (h : hp_lk (t_code T) pc = some i) {n : Nat} (hn : hp_len i = n + 1) : decode (y_cc Y) pc = .ok (i, n + 1) := by
  obtain ⟨len, h1, h2⟩ := V.1 _ (hp_lk_mem _ _ _ h)
  rcases h2 with e | e
  · rw [e] at hn; cases hn
  · rw [← hn, ← e]; exact h1
set_option maxRecDepth 20000 in
theorem c_ro_copy (l : Launch) (h : hp_H) (a b : Nat) (f g : Nat → Int64) (ha : h[a]? = some (.inl (.long, 64, .inr (.inl f)))) (hb : h[b]? = some (.inl (.long, 64, .inr (.inl g)))) :
    hp_M l Y_ro_copy [.ref a, .ref b] h false 0 0 (hq_P (.inl none) (h.set b (.inl (.long, 64, .inr (.inl fun j => if j < 64 then f j else g j))))) := by
  refine hp_start (T := T_ro_copy) (by decide) rfl (fun σ => Nat.le_of_ble_eq_true rfl) (fun G C => ?_)
  refine hp_run_sound hp_co V_ro_copy C (fun _ _ _ _ _ _ _ hq => hq) [6] 8 _ _ _ _ _ _ _ ?_
  refine hs_copyl C cp_link cp_nat cp_stat cp_ini (hq_dec V_ro_copy rfl rfl) (L := 64) (by decide) rfl ha hb (Nat.le_refl _) (Nat.le_refl _) (by decide) (by decide) ?_
  refine hp_run_sound hp_co V_ro_copy C (fun _ _ _ _ _ _ _ hq => hq) [] 3 _ _ _ _ _ _ _ ?_
  exact And.intro rfl (And.intro rfl (And.intro rfl rfl))
end
section
/-! loops over the 64 rows of an array -/
abbrev LA (n : Nat) (f : Nat → Int64) : hp_C := .inl (.long, n, .inr (.inl f))
abbrev IA (n : Nat) (f : Nat → Int32) : hp_C := .inl (.int, n, .inl f)
abbrev ZA (n : Nat) (f : Nat → Int32) : hp_C := .inl (.boolean, n, .inl f)
/-- the first i places made new -/
def pt (i : Nat) (F f : Nat → Int64) : Nat → Int64 := fun y => if y < i then F y else f y
theorem pt_0 (F f : Nat → Int64) : pt 0 F f = f := funext fun y => if_neg (Nat.not_lt_zero y)
theorem pt_s (i : Nat) (F f : Nat → Int64) : vp_updL (pt i F f) i (F i) = pt (i + 1) F f := by
  funext y
  unfold vp_updL pt
  by_cases h1 : y = i
  · rw [if_pos h1, if_pos (by omega), h1]
  · rw [if_neg h1]
    by_cases h2 : y < i
    · rw [if_pos h2, if_pos (by omega)]
    · rw [if_neg h2, if_neg (by omega)]
theorem pt_at (i : Nat) (F f : Nat → Int64) : pt i F f i = f i := if_neg (Nat.lt_irrefl i)
theorem pt_ge {i y : Nat} (F f : Nat → Int64) (h : i ≤ y) : pt i F f y = f y := if_neg (Nat.not_lt.mpr h)
theorem pt_lt {i y : Nat} (F f : Nat → Int64) (h : y < i) : pt i F f y = F y := if_pos h
theorem in64 {i : Nat} (h : i < 64) : vp_in (nI i) 64 := vp_in_nI h (by decide)
theorem cl64 {i : Nat} (h : i < 64) : (nI i).toNatClampNeg = i := nI_clamp (by omega)
/-- an array beside one that is changing: what is read at place i -/
theorem hq_beside {h : hp_H} {a c : Nat} {f e F : Nat → Int64} {i : Nat} (ha : h[a]? = some (LA 64 f)) (hc : h[c]? = some (LA 64 e)) : ∃ f', (h.set c (LA 64 (pt i F e)))[a]? = some (LA 64 f') ∧ f' i = f i := by
  by_cases q : c = a
  · subst q
    refine ⟨pt i F e, hq_get hc, ?_⟩
    rw [hc] at ha
    cases ha
    exact pt_at _ _ _
  · exact ⟨f, by rw [hq_ne q]; exact ha, rfl⟩
set_option maxRecDepth 20000 in
theorem c_ro_complement (l : Launch) (h : hp_H) (a b : Nat) (f g : Nat → Int64) (ha : h[a]? = some (LA 64 f)) (hb : h[b]? = some (LA 64 g)) :
    hp_M l Y_ro_complement [.ref a, .ref b] h false 0 0 (hq_P (.inl none) (h.set b (LA 64 (pt 64 (fun y => f y ^^^ (-1)) g)))) := by
  refine hp_start (T := T_ro_complement) (by decide) rfl (fun σ => Nat.le_of_ble_eq_true rfl) (fun G C => ?_)
  have key : ∀ (m i : Nat), i + m = 64 → hp_W G 2 [(0, .ref a), (1, .ref b), (2, .int (nI i))] [] (h.set b (LA 64 (pt i (fun y => f y ^^^ (-1)) g))) false 0 0 := by
    intro m
    induction m with
    | zero =>
      intro i hi
      have e : i = 64 := by omega
      subst e
      refine hp_run_sound hp_co V_ro_complement C (fun _ _ _ _ _ _ _ hq => hq) [2] 6 _ _ _ _ _ _ _ ?_
      refine And.intro (fun c => ?_) (fun c => absurd (nI_le (Nat.le_refl 64) (by decide)) c)
      exact And.intro rfl (And.intro rfl (And.intro rfl rfl))
    | succ m ih =>
      intro i hi
      obtain ⟨f', hf1, hf2⟩ := hq_beside (i := i) (F := fun y => f y ^^^ (-1)) ha hb
      refine hp_run_sound hp_co V_ro_complement C (fun _ _ _ _ _ _ _ hq => hq) [2] 20 _ _ _ _ _ _ _ ?_
      refine And.intro (fun c => absurd c (nI_ge (b := 64) (by omega) (by decide))) (fun c => ?_)
      refine Exists.intro 64 (Exists.intro f' (And.intro hf1 (And.intro (in64 (by omega)) ?_)))
      refine Exists.intro 64 (Exists.intro _ (And.intro (hq_get hb) (And.intro (in64 (by omega)) ?_)))
      have hW := ih (i + 1) (by omega)
      rw [← nI_1 i, ← pt_s] at hW
      rw [hq_set, cl64 (by omega), hf2]
      exact hW
  have h0 := key 64 0 (by omega)
  rw [pt_0, hq_self hb] at h0
  refine hp_run_sound hp_co V_ro_complement C (fun _ _ _ _ _ _ _ hq => hq) [2] 6 _ _ _ _ _ _ _ ?_
  exact hp_W_dirty h0
theorem nI_addn (a b : Nat) : nI a + nI b = nI (a + b) := nI_add a b
set_option maxRecDepth 20000 in
theorem c_ro_countSquares (l : Launch) (h : hp_H) (a : Nat) (f : Nat → Int64) (ha : h[a]? = some (LA 64 f)) :
    hp_M l Y_ro_countSquares [.ref a] h true 0 0 (hq_P (.inl (some (.int (nI (sm (fun y => cn (bb (f y)) 64) 64))))) h) := by
  refine hp_start (T := T_ro_countSquares) (by decide) rfl (fun σ => Nat.le_of_ble_eq_true rfl) (fun G C => ?_)
  have key : ∀ (m i : Nat), i + m = 64 → hp_W G 4 [(0, .ref a), (1, .int (nI (sm (fun y => cn (bb (f y)) 64) i))), (2, .int (nI i))] [] h true 0 0 := by
    intro m
    induction m with
    | zero =>
      intro i hi
      have e : i = 64 := by omega
      subst e
      refine hp_run_sound hp_co V_ro_countSquares C (fun _ _ _ _ _ _ _ hq => hq) [4] 6 _ _ _ _ _ _ _ ?_
      refine And.intro (fun c => ?_) (fun c => absurd (nI_le (Nat.le_refl 64) (by decide)) c)
      exact And.intro rfl (And.intro rfl (And.intro rfl rfl))
    | succ m ih =>
      intro i hi
      refine hp_run_sound hp_co V_ro_countSquares C (fun _ _ _ _ _ _ _ hq => hq) [4] 20 _ _ _ _ _ _ _ ?_
      refine And.intro (fun c => absurd c (nI_ge (b := 64) (by omega) (by decide))) (fun c => ?_)
      refine Exists.intro 64 (Exists.intro f (And.intro ha (And.intro (in64 (by omega)) ?_)))
      refine ic_P (c_jl_bitCount l h _) (Nat.le_refl _) (Nat.le_refl _) ?_
      have hW := ih (i + 1) (by omega)
      rw [← nI_1 i] at hW
      rw [cl64 (show i < 64 by omega)]
      have e : nI (sm (fun y => cn (bb (f y)) 64) (i + 1)) = nI (sm (fun y => cn (bb (f y)) 64) i) + nI (cn (bb (f i)) 64) := (nI_add _ _).symm
      rw [e] at hW
      exact hW
  refine hp_run_sound hp_co V_ro_countSquares C (fun _ _ _ _ _ _ _ hq => hq) [4] 8 _ _ _ _ _ _ _ ?_
  exact key 64 0 (by omega)
def xrs (g : Bool) (x : Int64) (d : Nat) : Int64 := if g then xwi x d else xna x d
def zI (g : Bool) : Int32 := if g then 1 else 0
theorem zI_eq (g : Bool) : zI g = 0 ↔ g = false := by cases g <;> decide
set_option maxRecDepth 20000 in
theorem c_ro_resizeAlongX (l : Launch) (h : hp_H) (a d : Nat) (g : Bool) (hd : d ≤ 64) (f : Nat → Int64) (ha : h[a]? = some (LA 64 f)) :
    hp_M l Y_ro_resizeAlongX [.ref a, .int (nI d), .int (zI g)] h false 0 0 (hq_P (.inl none) (h.set a (LA 64 (pt 64 (fun y => xrs g (f y) d) f)))) := by
  refine hp_start (T := T_ro_resizeAlongX) (by decide) rfl (fun σ => Nat.le_of_ble_eq_true rfl) (fun G C => ?_)
  have key : ∀ (m i : Nat), i + m = 64 → hp_W G 2 [(0, .ref a), (1, .int (nI d)), (2, .int (zI g)), (3, .int (nI i))] [] (h.set a (LA 64 (pt i (fun y => xrs g (f y) d) f))) false 0 0 := by
    intro m
    induction m with
    | zero =>
      intro i hi
      have e : i = 64 := by omega
      subst e
      refine hp_run_sound hp_co V_ro_resizeAlongX C (fun _ _ _ _ _ _ _ hq => hq) [2] 6 _ _ _ _ _ _ _ ?_
      refine And.intro (fun c => ?_) (fun c => absurd (nI_le (Nat.le_refl 64) (by decide)) c)
      exact And.intro rfl (And.intro rfl (And.intro rfl rfl))
    | succ m ih =>
      intro i hi
      have hW := ih (i + 1) (by omega)
      rw [← nI_1 i, ← pt_s] at hW
      refine hp_run_sound hp_co V_ro_resizeAlongX C (fun _ _ _ _ _ _ _ hq => hq) [2] 30 _ _ _ _ _ _ _ ?_
      refine And.intro (fun c => absurd c (nI_ge (b := 64) (by omega) (by decide))) (fun c => ?_)
      refine And.intro (fun c2 => ?_) (fun c2 => ?_)
      · have hg : g = false := (zI_eq g).mp c2
        subst hg
        refine Exists.intro 64 (Exists.intro _ (And.intro (hq_get ha) (And.intro (in64 (by omega)) ?_)))
        refine ic_P (c_ro_narrowed l _ _ d hd) (Nat.le_refl _) (Nat.le_refl _) ?_
        refine Exists.intro 64 (Exists.intro _ (And.intro (hq_get ha) (And.intro (in64 (by omega)) ?_)))
        rw [hq_set, cl64 (by omega), pt_at]
        exact hW
      · have hg : g = true := by
          cases g with
          | true => rfl
          | false => exact absurd rfl c2
        subst hg
        refine Exists.intro 64 (Exists.intro _ (And.intro (hq_get ha) (And.intro (in64 (by omega)) ?_)))
        refine ic_P (c_ro_widened l _ _ d hd) (Nat.le_refl _) (Nat.le_refl _) ?_
        refine Exists.intro 64 (Exists.intro _ (And.intro (hq_get ha) (And.intro (in64 (by omega)) ?_)))
        rw [hq_set, cl64 (by omega), pt_at]
        exact hW
  have h0 := key 64 0 (by omega)
  rw [pt_0, hq_self ha] at h0
  refine hp_run_sound hp_co V_ro_resizeAlongX C (fun _ _ _ _ _ _ _ hq => hq) [2] 6 _ _ _ _ _ _ _ ?_
  exact hp_W_dirty h0
/-! combine -/
def xcb (c : Nat) (x y : Int64) : Int64 := match c with
  | 0 => x ||| y
  | 1 => x &&& y
  | 2 => x &&& (y ^^^ (-1))
  | _ => x ^^^ y
set_option maxRecDepth 20000 in
theorem c_es_combineRow (l : Launch) (h : hp_H) (c : Nat) (hc : c < 4) (x y : Int64) : hp_M l Y_es_combineRow [.int (nI c), .long x, .long y] h true 0 0 (hq_P (.inl (some (.long (xcb c x y)))) h) := by
  refine hp_start (T := T_es_combineRow) (by decide) rfl (fun σ => Nat.le_of_ble_eq_true rfl) (fun G C => ?_)
  refine hp_run_sound hp_co V_es_combineRow C (fun _ _ _ _ _ _ _ hq => hq) [] 20 _ _ _ _ _ _ _ ?_
  have ht : (nI c).toInt = (c : Int) := nI_toInt (by omega)
  refine And.intro (fun q => absurd q (by rw [ht]; omega)) (And.intro (fun q => ?_) (And.intro (fun q => ?_) (And.intro (fun q => ?_) (And.intro (fun q => ?_) trivial))))
  · have e : c = 0 := by rw [ht] at q; omega
    subst e
    exact And.intro rfl (And.intro rfl (And.intro rfl rfl))
  · have e : c = 1 := by rw [ht] at q; omega
    subst e
    exact And.intro rfl (And.intro rfl (And.intro rfl rfl))
  · have e : c = 2 := by rw [ht] at q; omega
    subst e
    exact And.intro rfl (And.intro rfl (And.intro rfl rfl))
  · have e : c = 3 := by rw [ht] at q; omega
    subst e
    exact And.intro rfl (And.intro rfl (And.intro rfl rfl))
set_option maxRecDepth 20000 in
theorem c_es_combine (l : Launch) (h : hp_H) (w a b c : Nat) (hw : w < 4) (f g e : Nat → Int64) (ha : h[a]? = some (LA 64 f)) (hb : h[b]? = some (LA 64 g)) (hc : h[c]? = some (LA 64 e)) :
    hp_M l Y_es_combine [.int (nI w), .ref a, .ref b, .ref c] h false 0 0 (hq_P (.inl none) (h.set c (LA 64 (pt 64 (fun y => xcb w (f y) (g y)) e)))) := by
  refine hp_start (T := T_es_combine) (by decide) rfl (fun σ => Nat.le_of_ble_eq_true rfl) (fun G C => ?_)
  have key : ∀ (m i : Nat), i + m = 64 → hp_W G 3 [(0, .int (nI w)), (1, .ref a), (2, .ref b), (3, .ref c), (4, .int (nI i))] [] (h.set c (LA 64 (pt i (fun y => xcb w (f y) (g y)) e))) false 0 0 := by
    intro m
    induction m with
    | zero =>
      intro i hi
      have e0 : i = 64 := by omega
      subst e0
      refine hp_run_sound hp_co V_es_combine C (fun _ _ _ _ _ _ _ hq => hq) [3] 6 _ _ _ _ _ _ _ ?_
      refine And.intro (fun c => ?_) (fun c => absurd (nI_le (Nat.le_refl 64) (by decide)) c)
      exact And.intro rfl (And.intro rfl (And.intro rfl rfl))
    | succ m ih =>
      intro i hi
      have hW := ih (i + 1) (by omega)
      rw [← nI_1 i, ← pt_s] at hW
      obtain ⟨f', hf1, hf2⟩ := hq_beside (i := i) (F := fun y => xcb w (f y) (g y)) ha hc
      obtain ⟨g', hg1, hg2⟩ := hq_beside (i := i) (F := fun y => xcb w (f y) (g y)) hb hc
      refine hp_run_sound hp_co V_es_combine C (fun _ _ _ _ _ _ _ hq => hq) [3] 30 _ _ _ _ _ _ _ ?_
      refine And.intro (fun c => absurd c (nI_ge (b := 64) (by omega) (by decide))) (fun c => ?_)
      refine Exists.intro 64 (Exists.intro f' (And.intro hf1 (And.intro (in64 (by omega)) ?_)))
      refine Exists.intro 64 (Exists.intro g' (And.intro hg1 (And.intro (in64 (by omega)) ?_)))
      refine ic_P (c_es_combineRow l _ w hw _ _) (Nat.le_refl _) (Nat.le_refl _) ?_
      refine Exists.intro 64 (Exists.intro _ (And.intro (hq_get hc) (And.intro (in64 (by omega)) ?_)))
      rw [hq_set, cl64 (by omega), hf2, hg2]
      exact hW
  have h0 := key 64 0 (by omega)
  rw [pt_0, hq_self hc] at h0
  refine hp_run_sound hp_co V_es_combine C (fun _ _ _ _ _ _ _ hq => hq) [3] 6 _ _ _ _ _ _ _ ?_
  exact hp_W_dirty h0
end
section
/-! turn -/
def twd : Nat → Nat
  | 0 => 0
  | j + 1 => 2 ^ j
def tlm : Nat → Int64
  | 0 => 0
  | j + 1 => ofB fun x => decide (x / 2 ^ j % 2 = 0)
/-- pass of width w -/
def tsw (w : Nat) (g : Nat → Int64) (y : Nat) : Int64 := ofB fun x => if y / w % 2 = x / w % 2 then bb (g y) x else if y / w % 2 = 0 then bb (g (y + w)) (x - w) else bb (g (y - w)) (x + w)
/-- the rows whose pair begins before i are made -/
def tin (w i : Nat) (g : Nat → Int64) (y : Nat) : Int64 := if y < 64 ∧ y - w * (y / w % 2) < i then tsw w g y else g y
def tmx (m : Nat) (f : Nat → Int64) (y : Nat) : Int64 := if y < 64 then ofB fun x => bb (f (x / m * m + y % m)) (y / m * m + x % m) else f y
theorem tw_and : ∀ j, j < 6 → ∀ y, y < 64 → (nI y &&& nI (2 ^ j) = 0 ↔ y / 2 ^ j % 2 = 0) := by decide +kernel
theorem tw_or : ∀ j, j < 6 → ∀ y, y < 64 → y / 2 ^ j % 2 = 0 → nI y ||| nI (2 ^ j) = nI (y + 2 ^ j) := by decide +kernel
theorem tw_lm : ∀ j, j < 6 → tlm (j + 1) ^^^ (tlm (j + 1) <<< ((nI (twd j)).toInt64 &&& 63)) = tlm j := by decide +kernel
theorem tw_six {P : Nat → Prop} (h0 : P 1) (h1 : P 2) (h2 : P 4) (h3 : P 8) (h4 : P 16) (h5 : P 32) : ∀ j, j < 6 → P (2 ^ j)
  | 0, _ => h0
  | 1, _ => h1
  | 2, _ => h2
  | 3, _ => h3
  | 4, _ => h4
  | 5, _ => h5
  | j + 6, h => absurd h (by omega)
theorem tw_lt : ∀ j, j < 6 → ∀ y, y < 64 → y / 2 ^ j % 2 = 0 → y + 2 ^ j < 64 := tw_six (P := fun w => ∀ y, y < 64 → y / w % 2 = 0 → y + w < 64) (fun y => by omega) (fun y => by omega) (fun y => by omega) (fun y => by omega) (fun y => by omega) (fun y => by omega)
theorem tw_base : ∀ j, j < 6 → ∀ y i, y < 64 → i < 64 → i / 2 ^ j % 2 = 0 → (y - 2 ^ j * (y / 2 ^ j % 2) < i + 1 ↔ y = i ∨ y = i + 2 ^ j ∨ y - 2 ^ j * (y / 2 ^ j % 2) < i) := tw_six (P := fun w => ∀ y i, y < 64 → i < 64 → i / w % 2 = 0 → (y - w * (y / w % 2) < i + 1 ↔ y = i ∨ y = i + w ∨ y - w * (y / w % 2) < i)) (fun y i => by omega) (fun y i => by omega) (fun y i => by omega) (fun y i => by omega) (fun y i => by omega) (fun y i => by omega)
theorem tw_skip : ∀ j, j < 6 → ∀ y i, y < 64 → i < 64 → i / 2 ^ j % 2 ≠ 0 → (y - 2 ^ j * (y / 2 ^ j % 2) < i + 1 ↔ y - 2 ^ j * (y / 2 ^ j % 2) < i) := tw_six (P := fun w => ∀ y i, y < 64 → i < 64 → i / w % 2 ≠ 0 → (y - w * (y / w % 2) < i + 1 ↔ y - w * (y / w % 2) < i)) (fun y i => by omega) (fun y i => by omega) (fun y i => by omega) (fun y i => by omega) (fun y i => by omega) (fun y i => by omega)
theorem tw_end : ∀ j, j < 6 → ∀ y, y < 64 → y - 2 ^ j * (y / 2 ^ j % 2) < 64 := fun j _ y h => by omega
theorem tw_par : ∀ j, j < 6 → ∀ i, (i + 2 ^ j) / 2 ^ j % 2 = (i / 2 ^ j + 1) % 2 := fun j _ i => by rw [Nat.add_div_right _ (Nat.two_pow_pos j)]
theorem tw_sub : ∀ j, j < 6 → ∀ x, 2 ^ j ≤ x → (x - 2 ^ j) / 2 ^ j % 2 = (x / 2 ^ j + 1) % 2 := tw_six (P := fun w => ∀ x, w ≤ x → (x - w) / w % 2 = (x / w + 1) % 2) (fun y => by omega) (fun y => by omega) (fun y => by omega) (fun y => by omega) (fun y => by omega) (fun y => by omega)
theorem tw_one : ∀ j, j < 6 → ∀ x, x / 2 ^ j % 2 ≠ 0 → 2 ^ j ≤ x := tw_six (P := fun w => ∀ x, x / w % 2 ≠ 0 → w ≤ x) (fun y => by omega) (fun y => by omega) (fun y => by omega) (fun y => by omega) (fun y => by omega) (fun y => by omega)
theorem tw_64 : ∀ j, j < 6 → 2 ^ j < 64 := by decide
theorem tin_0 (w : Nat) (g : Nat → Int64) : tin w 0 g = g := funext fun y => if_neg (fun q => by omega)
theorem tin_at {j i : Nat} (hj : j < 6) (hi : i < 64) (h : i / 2 ^ j % 2 = 0) (g : Nat → Int64) : tin (2 ^ j) i g i = g i ∧ tin (2 ^ j) i g (i + 2 ^ j) = g (i + 2 ^ j) := by
  refine ⟨if_neg (fun q => ?_), if_neg (fun q => ?_)⟩
  · rw [h] at q; omega
  · have := tw_par j hj i
    have e : (i + 2 ^ j) / 2 ^ j % 2 = 1 := by omega
    rw [e] at q; omega
theorem tin_skip {j i : Nat} (hj : j < 6) (hi : i < 64) (h : i / 2 ^ j % 2 ≠ 0) (g : Nat → Int64) : tin (2 ^ j) (i + 1) g = tin (2 ^ j) i g := by
  funext y
  unfold tin
  by_cases hy : y < 64
  · have := tw_skip j hj y i hy hi h
    simp only [hy, true_and, this]
  · simp only [hy, false_and]
theorem tin_put {j i : Nat} (hj : j < 6) (hi : i < 64) (h : i / 2 ^ j % 2 = 0) (g : Nat → Int64) : vp_updL (vp_updL (tin (2 ^ j) i g) i (tsw (2 ^ j) g i)) (i + 2 ^ j) (tsw (2 ^ j) g (i + 2 ^ j)) = tin (2 ^ j) (i + 1) g := by
  have hl := tw_lt j hj i hi h
  funext y
  unfold vp_updL
  by_cases h1 : y = i + 2 ^ j
  · rw [if_pos h1, h1]
    exact (if_pos ⟨hl, (tw_base j hj _ i hl hi h).mpr (Or.inr (Or.inl rfl))⟩).symm
  · rw [if_neg h1]
    by_cases h2 : y = i
    · rw [if_pos h2, h2]
      exact (if_pos ⟨hi, (tw_base j hj _ i hi hi h).mpr (Or.inl rfl)⟩).symm
    · rw [if_neg h2]
      unfold tin
      by_cases hy : y < 64
      · have := tw_base j hj y i hy hi h
        simp only [h1, h2, false_or] at this
        simp only [hy, true_and, this]
      · simp only [hy, false_and]
theorem tin_64 {j : Nat} (hj : j < 6) (g : Nat → Int64) : tin (2 ^ j) 64 g = fun y => if y < 64 then tsw (2 ^ j) g y else g y := by
  funext y
  unfold tin
  by_cases hy : y < 64
  · simp only [hy, true_and, tw_end j hj y hy, if_true]
  · simp only [hy, false_and]
theorem tw_mix : ∀ j, j < 6 → ∀ y, y < 64 → ∀ x, x < 64 → (y / 2 ^ j % 2 = x / 2 ^ j % 2 → x / (2 ^ j * 2) * (2 ^ j * 2) + y % (2 ^ j * 2) = x / 2 ^ j * 2 ^ j + y % 2 ^ j ∧ y / (2 ^ j * 2) * (2 ^ j * 2) + x % (2 ^ j * 2) = y / 2 ^ j * 2 ^ j + x % 2 ^ j) ∧ (y / 2 ^ j % 2 ≠ x / 2 ^ j % 2 → y / 2 ^ j % 2 = 0 → x - 2 ^ j < 64 ∧ y + 2 ^ j < 64 ∧ (x - 2 ^ j) / (2 ^ j * 2) * (2 ^ j * 2) + (y + 2 ^ j) % (2 ^ j * 2) = x / 2 ^ j * 2 ^ j + y % 2 ^ j ∧ (y + 2 ^ j) / (2 ^ j * 2) * (2 ^ j * 2) + (x - 2 ^ j) % (2 ^ j * 2) = y / 2 ^ j * 2 ^ j + x % 2 ^ j) ∧ (y / 2 ^ j % 2 ≠ x / 2 ^ j % 2 → y / 2 ^ j % 2 ≠ 0 → x + 2 ^ j < 64 ∧ y - 2 ^ j < 64 ∧ (x + 2 ^ j) / (2 ^ j * 2) * (2 ^ j * 2) + (y - 2 ^ j) % (2 ^ j * 2) = x / 2 ^ j * 2 ^ j + y % 2 ^ j ∧ (y - 2 ^ j) / (2 ^ j * 2) * (2 ^ j * 2) + (x + 2 ^ j) % (2 ^ j * 2) = y / 2 ^ j * 2 ^ j + x % 2 ^ j) :=
  tw_six (P := fun w => ∀ y, y < 64 → ∀ x, x < 64 → (y / w % 2 = x / w % 2 → x / (w * 2) * (w * 2) + y % (w * 2) = x / w * w + y % w ∧ y / (w * 2) * (w * 2) + x % (w * 2) = y / w * w + x % w) ∧ (y / w % 2 ≠ x / w % 2 → y / w % 2 = 0 → x - w < 64 ∧ y + w < 64 ∧ (x - w) / (w * 2) * (w * 2) + (y + w) % (w * 2) = x / w * w + y % w ∧ (y + w) / (w * 2) * (w * 2) + (x - w) % (w * 2) = y / w * w + x % w) ∧ (y / w % 2 ≠ x / w % 2 → y / w % 2 ≠ 0 → x + w < 64 ∧ y - w < 64 ∧ (x + w) / (w * 2) * (w * 2) + (y - w) % (w * 2) = x / w * w + y % w ∧ (y - w) / (w * 2) * (w * 2) + (x + w) % (w * 2) = y / w * w + x % w)) (fun y _ x _ => by omega) (fun y _ x _ => by omega) (fun y _ x _ => by omega) (fun y _ x _ => by omega) (fun y _ x _ => by omega) (fun y _ x _ => by omega)
theorem tsw_tmx {j : Nat} (hj : j < 6) (f : Nat → Int64) : tin (2 ^ j) 64 (tmx (2 ^ (j + 1)) f) = tmx (2 ^ j) f := by
  rw [tin_64 hj, Nat.pow_succ]
  funext y
  by_cases hy : y < 64
  · rw [if_pos hy]
    refine bb_ext (fun x hx => ?_)
    obtain ⟨k1, k2, k3⟩ := tw_mix j hj y hy x hx
    have e : ∀ m y x, y < 64 → x < 64 → bb (tmx m f y) x = bb (f (x / m * m + y % m)) (y / m * m + x % m) := fun m y x h1 h2 => by
      unfold tmx
      rw [if_pos h1, bb_ofB _ h2]
    rw [e _ _ _ hy hx]
    unfold tsw
    rw [bb_ofB _ hx]
    by_cases h1 : y / 2 ^ j % 2 = x / 2 ^ j % 2
    · rw [if_pos h1, e _ _ _ hy hx, (k1 h1).1, (k1 h1).2]
    · rw [if_neg h1]
      by_cases h2 : y / 2 ^ j % 2 = 0
      · obtain ⟨a1, a2, a3, a4⟩ := k2 h1 h2
        rw [if_pos h2, e _ _ _ a2 a1, a3, a4]
      · obtain ⟨a1, a2, a3, a4⟩ := k3 h1 h2
        rw [if_neg h2, e _ _ _ a2 a1, a3, a4]
  · rw [if_neg hy]
    unfold tmx
    rw [if_neg hy, if_neg hy]
theorem tmx_64 (f : Nat → Int64) : tmx 64 f = f := by
  funext y
  unfold tmx
  by_cases hy : y < 64
  · rw [if_pos hy]
    refine (ofB_eq (fun x hx => ?_)).symm
    rw [show x / 64 * 64 + y % 64 = y by omega, show y / 64 * 64 + x % 64 = x by omega]
  · rw [if_neg hy]
/-- x made of y and y of x -/
def xtu (f : Nat → Int64) (y : Nat) : Int64 := if y < 64 then ofB fun x => bb (f x) y else f y
theorem tmx_1 (f : Nat → Int64) : tmx 1 f = xtu f := by
  funext y
  unfold tmx xtu
  by_cases hy : y < 64
  · rw [if_pos hy, if_pos hy]
    refine ofB_eq (fun x hx => ?_)
    rw [bb_ofB _ hx, Nat.div_one, Nat.div_one, Nat.mod_one, Nat.mod_one, Nat.mul_one, Nat.mul_one, Nat.add_zero, Nat.add_zero]
  · rw [if_neg hy, if_neg hy]
theorem bb_xtu (f : Nat → Int64) {y x : Nat} (hy : y < 64) (hx : x < 64) : bb (xtu f y) x = bb (f x) y := by
  unfold xtu
  rw [if_pos hy, bb_ofB _ hx]
/-- what one pass does with one pair of rows -/
theorem tsw_pair {j i : Nat} (hj : j < 6) (hi : i < 64) (h : i / 2 ^ j % 2 = 0) (g : Nat → Int64) :
    g i ^^^ (((((g i).toUInt64 >>> ((nI (2 ^ j)).toInt64.toUInt64 &&& Int64.toUInt64 63)).toInt64 ^^^ g (i + 2 ^ j)) &&& tlm (j + 1)) <<< ((nI (2 ^ j)).toInt64 &&& 63)) = tsw (2 ^ j) g i
    ∧ g (i + 2 ^ j) ^^^ ((((g i).toUInt64 >>> ((nI (2 ^ j)).toInt64.toUInt64 &&& Int64.toUInt64 63)).toInt64 ^^^ g (i + 2 ^ j)) &&& tlm (j + 1)) = tsw (2 ^ j) g (i + 2 ^ j) := by
  have h64 := tw_64 j hj
  have hp := tw_par j hj i
  refine ⟨ofB_eq (fun x hx => ?_), ofB_eq (fun x hx => ?_)⟩
  · rw [bb_xor, bb_shl h64 _ hx]
    by_cases hx0 : x / 2 ^ j % 2 = 0
    · rw [if_pos (by rw [h, hx0])]
      by_cases hle : 2 ^ j ≤ x
      · have := tw_sub j hj x hle
        rw [bb_and, show tlm (j + 1) = ofB fun x => decide (x / 2 ^ j % 2 = 0) from rfl, bb_ofB _ (Nat.lt_of_le_of_lt (Nat.sub_le _ _) hx : x - 2 ^ j < 64)]
        simp only [show ¬ (x - 2 ^ j) / 2 ^ j % 2 = 0 by omega, decide_false, Bool.and_false, Bool.xor_false]
      · simp only [hle, decide_false, Bool.false_and, Bool.xor_false]
    · have hle := tw_one j hj x hx0
      have := tw_sub j hj x hle
      rw [if_neg (by rw [h]; exact fun q => hx0 q.symm), if_pos h]
      rw [bb_and, show tlm (j + 1) = ofB fun x => decide (x / 2 ^ j % 2 = 0) from rfl, bb_ofB _ (Nat.lt_of_le_of_lt (Nat.sub_le _ _) hx : x - 2 ^ j < 64), bb_xor, bb_shr h64]
      simp only [show (x - 2 ^ j) / 2 ^ j % 2 = 0 by omega, hle, decide_true, Bool.and_true, Bool.true_and, show 2 ^ j + (x - 2 ^ j) = x by omega]
      cases bb (g i) x <;> cases bb (g (i + 2 ^ j)) (x - 2 ^ j) <;> rfl
  · rw [bb_xor, bb_and, show tlm (j + 1) = ofB fun x => decide (x / 2 ^ j % 2 = 0) from rfl, bb_ofB _ hx, bb_xor, bb_shr h64]
    have hp1 : (i + 2 ^ j) / 2 ^ j % 2 = 1 := by omega
    by_cases hx0 : x / 2 ^ j % 2 = 0
    · rw [if_neg (by rw [hp1, hx0]; decide), if_neg (by rw [hp1]; decide), Nat.add_sub_cancel, Nat.add_comm (2 ^ j) x]
      simp only [hx0, decide_true, Bool.and_true]
      cases bb (g i) (x + 2 ^ j) <;> cases bb (g (i + 2 ^ j)) x <;> rfl
    · rw [if_pos (by rw [hp1]; omega)]
      simp only [hx0, decide_false, Bool.and_false, Bool.xor_false]
theorem tw_shr : ∀ j, j < 6 → nI (2 ^ j) >>> ((1 : Int32) &&& 31) = nI (twd j) := by decide +kernel
set_option maxRecDepth 20000 in
theorem c_ro_turn (l : Launch) (h : hp_H) (a : Nat) (f : Nat → Int64) (ha : h[a]? = some (LA 64 f)) :
    hp_M l Y_ro_turn [.ref a] h false 0 0 (hq_P (.inl none) (h.set a (LA 64 (xtu f)))) := by
  refine hp_start (T := T_ro_turn) (by decide) rfl (fun σ => Nat.le_of_ble_eq_true rfl) (fun G C => ?_)
  have key : ∀ j, j ≤ 6 → hp_W G 9 [(0, .ref a), (1, .long (tlm j)), (3, .int (nI (twd j)))] [] (h.set a (LA 64 (tmx (2 ^ j) f))) false 0 0 := by
    intro j
    induction j with
    | zero =>
      intro _
      refine hp_run_sound hp_co V_ro_turn C (fun _ _ _ _ _ _ _ hq => hq) [9] 6 _ _ _ _ _ _ _ ?_
      refine And.intro (fun c => ?_) (fun c => absurd (show nI (twd 0) ≤ 0 by decide) c)
      rw [Nat.pow_zero, tmx_1]
      exact And.intro rfl (And.intro rfl (And.intro rfl rfl))
    | succ j ih =>
      intro hj
      have hj : j < 6 := hj
      have inner : ∀ m i, i + m = 64 → hp_W G 16 [(0, .ref a), (1, .long (tlm (j + 1))), (3, .int (nI (2 ^ j))), (4, .int (nI i))] [] (h.set a (LA 64 (tin (2 ^ j) i (tmx (2 ^ (j + 1)) f)))) false 0 0 := by
        intro m
        induction m with
        | zero =>
          intro i hi
          have e : i = 64 := by omega
          subst e
          refine hp_run_sound hp_co V_ro_turn C (fun _ _ _ _ _ _ _ hq => hq) [9, 16] 20 _ _ _ _ _ _ _ ?_
          refine And.intro (fun c => ?_) (fun c => absurd (nI_le (Nat.le_refl 64) (by decide)) c)
          have hW := ih (by omega)
          rw [tsw_tmx hj]
          refine hp_W_pick [0, 1, 3] ?_
          rw [← tw_lm j hj, ← tw_shr j hj] at hW
          exact hW
        | succ m im =>
          intro i hi
          have hi64 : i < 64 := by omega
          have hW := im (i + 1) (by omega)
          rw [← nI_1 i] at hW
          refine hp_run_sound hp_co V_ro_turn C (fun _ _ _ _ _ _ _ hq => hq) [9, 16] 50 _ _ _ _ _ _ _ ?_
          refine And.intro (fun c => absurd c (nI_ge (b := 64) (by omega) (by decide))) (fun c => ?_)
          refine And.intro (fun c2 => ?_) (fun c2 => ?_)
          · rw [tin_skip hj hi64 (fun q => c2 ((tw_and j hj i hi64).mpr q))] at hW
            exact hW
          · have c3 : i / 2 ^ j % 2 = 0 := (tw_and j hj i hi64).mp c2
            have hl := tw_lt j hj i hi64 c3
            have ho := tw_or j hj i hi64 c3
            obtain ⟨t1, t2⟩ := tin_at hj hi64 c3 (tmx (2 ^ (j + 1)) f)
            obtain ⟨p1, p2⟩ := tsw_pair hj hi64 c3 (tmx (2 ^ (j + 1)) f)
            refine Exists.intro 64 (Exists.intro _ (And.intro (hq_get ha) (And.intro (in64 hi64) ?_)))
            refine Exists.intro 64 (Exists.intro _ (And.intro (hq_get ha) (And.intro (by rw [ho]; exact in64 hl) ?_)))
            refine Exists.intro 64 (Exists.intro _ (And.intro (hq_get ha) (And.intro (in64 hi64) ?_)))
            refine Exists.intro 64 (Exists.intro _ (And.intro (hq_get ha) (And.intro (in64 hi64) ?_)))
            refine Exists.intro 64 (Exists.intro _ (And.intro (hq_get (hq_get ha)) (And.intro (by rw [ho]; exact in64 hl) ?_)))
            refine Exists.intro 64 (Exists.intro _ (And.intro (hq_get (hq_get ha)) (And.intro (by rw [ho]; exact in64 hl) ?_)))
            refine hp_W_pick [0, 1, 3, 4] ?_
            rw [hq_set, hq_set, ho, cl64 hi64, cl64 hl, t1, t2, p1]
            have hn : i + 2 ^ j ≠ i := by have := Nat.two_pow_pos j; omega
            rw [pk_uLn hn, t2, p2, tin_put hj hi64 c3]
            exact hW
      have h0 := inner 64 0 (by omega)
      rw [tin_0] at h0
      refine hp_run_sound hp_co V_ro_turn C (fun _ _ _ _ _ _ _ hq => hq) [16] 6 _ _ _ _ _ _ _ ?_
      refine And.intro (fun c => absurd c (nI_nle (Nat.two_pow_pos j) (Nat.lt_trans (tw_64 j hj) (by decide)))) (fun c => ?_)
      exact h0
  have h0 := key 6 (by omega)
  rw [show 2 ^ 6 = 64 from rfl, tmx_64, hq_self ha] at h0
  refine hp_run_sound hp_co V_ro_turn C (fun _ _ _ _ _ _ _ hq => hq) [9] 6 _ _ _ _ _ _ _ ?_
  refine ic_P (c_ro_leftOf l h 32 (by decide)) (Nat.le_refl _) (Nat.le_refl _) ?_
  have e : xlo 32 = tlm 6 := by decide +kernel
  rw [e]
  exact hp_W_dirty h0
set_option maxRecDepth 20000 in
theorem c_ro_resize (l : Launch) (h : hp_H) (a b dx dy : Nat) (g : Bool) (hx : dx ≤ 64) (hy : dy ≤ 64) (f e : Nat → Int64) (ha : h[a]? = some (LA 64 f)) (hb : h[b]? = some (LA 64 e)) :
    hp_M l Y_ro_resize [.ref a, .ref b, .int (nI dx), .int (nI dy), .int (zI g)] h false 0 0 (fun r h' => r = .inl none ∧ ∃ f', h' = h.set b (LA 64 f') ∧ ∀ y, y < 64 → f' y = xtu (fun x => xrs g (xtu (fun v => xrs g (f v) dx) x) dy) y) := by
  refine hp_start (T := T_ro_resize) (by decide) rfl (fun σ => Nat.le_of_ble_eq_true rfl) (fun G C => ?_)
  refine hp_run_sound hp_co V_ro_resize C (fun _ _ _ _ _ _ _ hq => hq) [] 30 _ _ _ _ _ _ _ ?_
  refine ic_P (c_ro_copy l h a b f e ha hb) (Nat.le_refl _) (Nat.le_refl _) ?_
  refine ic_P (c_ro_resizeAlongX l _ b dx g hx _ (hq_get hb)) (Nat.le_refl _) (Nat.le_refl _) ?_
  refine ic_P (c_ro_turn l _ b _ (hq_get (hq_get hb))) (Nat.le_refl _) (Nat.le_refl _) ?_
  refine ic_P (c_ro_resizeAlongX l _ b dy g hy _ (hq_get (hq_get (hq_get hb)))) (Nat.le_refl _) (Nat.le_refl _) ?_
  refine ic_P (c_ro_turn l _ b _ (hq_get (hq_get (hq_get (hq_get hb))))) (Nat.le_refl _) (Nat.le_refl _) ?_
  refine And.intro rfl (And.intro rfl (And.intro rfl ?_))
  rw [hq_set, hq_set, hq_set, hq_set]
  refine ⟨_, rfl, fun y hy2 => bb_ext (fun x hx2 => ?_)⟩
  rw [bb_xtu _ hy2 hx2, bb_xtu _ hy2 hx2, pt_lt _ _ hx2]
  have e1 : xtu (pt 64 (fun y => xrs g ((fun j => if j < 64 then f j else e j) y) dx) (fun j => if j < 64 then f j else e j)) x = xtu (fun v => xrs g (f v) dx) x := bb_ext (fun z hz => by
    rw [bb_xtu _ hx2 hz, bb_xtu _ hx2 hz, pt_lt _ _ hz]
    show bb (xrs g (if z < 64 then f z else e z) dx) x = _
    rw [if_pos hz])
  rw [e1]
end
section
/-! Lines: rows beside a line -/
def rwN (f : Nat → Int64) (y : Nat) : Int64 := if y < 64 then f y else 0
def rwB (f : Nat → Int64) (y : Nat) : Int64 := if 0 < y then rwN f (y - 1) else 0
def xab (f : Nat → Int64) (y : Nat) : Int64 := rwN f y &&& (rwB f y ^^^ (-1))
def xbe (f : Nat → Int64) (y : Nat) : Int64 := rwB f y &&& (rwN f y ^^^ (-1))
def xls (f : Nat → Int64) (y : Nat) : Int64 := xst (xab f y) ||| xst (xbe f y)
theorem c_rowN (l : Launch) (h : hp_H) (a y : Nat) (hy : y < 2 ^ 31) (f : Nat → Int64) (ha : h[a]? = some (LA 64 f)) :
    hp_M l Y_ro_row [.ref a, .int (nI y)] h true 0 0 (hq_P (.inl (some (.long (rwN f y)))) h) := by
  have hM := c_ro_row l h a (nI y) f ha
  have e : (if 0 ≤ nI y ∧ nI y < 64 then f (nI y).toNatClampNeg else 0) = rwN f y := by
    unfold rwN
    by_cases q : y < 64
    · rw [if_pos ⟨nI_pos' hy, nI_lt q (by decide)⟩, if_pos q, nI_clamp hy]
    · rw [if_neg (fun c => q ((nI_ltI (b := 64) hy (by decide)).mp c.2)), if_neg q]
  rw [e] at hM
  exact hM
theorem c_rowB (l : Launch) (h : hp_H) (a y : Nat) (hy : y < 2 ^ 31) (f : Nat → Int64) (ha : h[a]? = some (LA 64 f)) :
    hp_M l Y_ro_row [.ref a, .int (nI y - 1)] h true 0 0 (hq_P (.inl (some (.long (rwB f y)))) h) := by
  unfold rwB
  rcases Nat.eq_zero_or_pos y with q | q
  · subst q
    have hM := c_ro_row l h a (nI 0 - 1) f ha
    rw [if_neg (fun c => absurd c.1 (by decide))] at hM
    exact hM
  · obtain ⟨z, rfl⟩ : ∃ z, y = z + 1 := ⟨y - 1, by omega⟩
    rw [if_pos q, nI_pred]
    exact c_rowN l h a z (by omega) f ha
set_option maxRecDepth 20000 in
theorem c_li_areaAbove (l : Launch) (h : hp_H) (a y : Nat) (hy : y < 2 ^ 31) (f : Nat → Int64) (ha : h[a]? = some (LA 64 f)) :
    hp_M l Y_li_areaAbove [.ref a, .int (nI y)] h true 0 0 (hq_P (.inl (some (.long (xab f y)))) h) := by
  refine hp_start (T := T_li_areaAbove) (by decide) rfl (fun σ => Nat.le_of_ble_eq_true rfl) (fun G C => ?_)
  refine hp_run_sound hp_co V_li_areaAbove C (fun _ _ _ _ _ _ _ hq => hq) [] 20 _ _ _ _ _ _ _ ?_
  refine ic_P (c_rowN l h a y hy f ha) (Nat.le_refl _) (Nat.le_refl _) ?_
  refine ic_P (c_rowB l h a y hy f ha) (Nat.le_refl _) (Nat.le_refl _) ?_
  exact And.intro rfl (And.intro rfl (And.intro rfl rfl))
set_option maxRecDepth 20000 in
theorem c_li_areaBelow (l : Launch) (h : hp_H) (a y : Nat) (hy : y < 2 ^ 31) (f : Nat → Int64) (ha : h[a]? = some (LA 64 f)) :
    hp_M l Y_li_areaBelow [.ref a, .int (nI y)] h true 0 0 (hq_P (.inl (some (.long (xbe f y)))) h) := by
  refine hp_start (T := T_li_areaBelow) (by decide) rfl (fun σ => Nat.le_of_ble_eq_true rfl) (fun G C => ?_)
  refine hp_run_sound hp_co V_li_areaBelow C (fun _ _ _ _ _ _ _ hq => hq) [] 20 _ _ _ _ _ _ _ ?_
  refine ic_P (c_rowB l h a y hy f ha) (Nat.le_refl _) (Nat.le_refl _) ?_
  refine ic_P (c_rowN l h a y hy f ha) (Nat.le_refl _) (Nat.le_refl _) ?_
  exact And.intro rfl (And.intro rfl (And.intro rfl rfl))
set_option maxRecDepth 20000 in
theorem c_li_lyingStarts (l : Launch) (h : hp_H) (a y : Nat) (hy : y < 2 ^ 31) (f : Nat → Int64) (ha : h[a]? = some (LA 64 f)) :
    hp_M l Y_li_lyingStarts [.ref a, .int (nI y)] h true 0 0 (hq_P (.inl (some (.long (xls f y)))) h) := by
  refine hp_start (T := T_li_lyingStarts) (by decide) rfl (fun σ => Nat.le_of_ble_eq_true rfl) (fun G C => ?_)
  refine hp_run_sound hp_co V_li_lyingStarts C (fun _ _ _ _ _ _ _ hq => hq) [] 20 _ _ _ _ _ _ _ ?_
  refine ic_P (c_li_areaAbove l h a y hy f ha) (Nat.le_refl _) (Nat.le_refl _) ?_
  refine ic_P (c_ro_starts l h _) (Nat.le_refl _) (Nat.le_refl _) ?_
  refine ic_P (c_li_areaBelow l h a y hy f ha) (Nat.le_refl _) (Nat.le_refl _) ?_
  refine ic_P (c_ro_starts l h _) (Nat.le_refl _) (Nat.le_refl _) ?_
  exact And.intro rfl (And.intro rfl (And.intro rfl rfl))
/-- edges that lie below line y -/
def lyn (f : Nat → Int64) : Nat → Nat := sm fun y => cn (bb (xls f y)) 64
set_option maxRecDepth 20000 in
theorem c_li_countLying (l : Launch) (h : hp_H) (a : Nat) (f : Nat → Int64) (ha : h[a]? = some (LA 64 f)) :
    hp_M l Y_li_countLying [.ref a] h true 0 0 (hq_P (.inl (some (.int (nI (lyn f 65))))) h) := by
  refine hp_start (T := T_li_countLying) (by decide) rfl (fun σ => Nat.le_of_ble_eq_true rfl) (fun G C => ?_)
  have key : ∀ (m i : Nat), i + m = 65 → hp_W G 4 [(0, .ref a), (1, .int (nI (lyn f i))), (2, .int (nI i))] [] h true 0 0 := by
    intro m
    induction m with
    | zero =>
      intro i hi
      have e : i = 65 := by omega
      subst e
      refine hp_run_sound hp_co V_li_countLying C (fun _ _ _ _ _ _ _ hq => hq) [4] 6 _ _ _ _ _ _ _ ?_
      refine And.intro (fun c => ?_) (fun c => absurd (nI_lt (show 64 < 65 by decide) (by decide)) c)
      exact And.intro rfl (And.intro rfl (And.intro rfl rfl))
    | succ m ih =>
      intro i hi
      refine hp_run_sound hp_co V_li_countLying C (fun _ _ _ _ _ _ _ hq => hq) [4] 20 _ _ _ _ _ _ _ ?_
      refine And.intro (fun c => absurd c (nI_nlt (b := i) (a := 64) (by omega) (by decide))) (fun c => ?_)
      refine ic_P (c_li_lyingStarts l h a i (by omega) f ha) (Nat.le_refl _) (Nat.le_refl _) ?_
      refine ic_P (c_jl_bitCount l h _) (Nat.le_refl _) (Nat.le_refl _) ?_
      have hW := ih (i + 1) (by omega)
      rw [← nI_1 i, show nI (lyn f (i + 1)) = nI (lyn f i) + nI (cn (bb (xls f i)) 64) from (nI_add _ _).symm] at hW
      exact hW
  refine hp_run_sound hp_co V_li_countLying C (fun _ _ _ _ _ _ _ hq => hq) [4] 8 _ _ _ _ _ _ _ ?_
  exact key 65 0 (by omega)
def xtl (f : Nat → Int64) : Nat → Nat := sm fun y => cn (bb (rwN f y ^^^ rwB f y)) 64 + 2 * cn (bb (xst (rwN f y))) 64
set_option maxRecDepth 20000 in
theorem c_li_totalLength (l : Launch) (h : hp_H) (a : Nat) (f : Nat → Int64) (ha : h[a]? = some (LA 64 f)) :
    hp_M l Y_li_totalLength [.ref a] h true 0 0 (hq_P (.inl (some (.int (nI (xtl f 65))))) h) := by
  refine hp_start (T := T_li_totalLength) (by decide) rfl (fun σ => Nat.le_of_ble_eq_true rfl) (fun G C => ?_)
  have key : ∀ (m i : Nat), i + m = 65 → hp_W G 4 [(0, .ref a), (1, .int (nI (xtl f i))), (2, .int (nI i))] [] h true 0 0 := by
    intro m
    induction m with
    | zero =>
      intro i hi
      have e : i = 65 := by omega
      subst e
      refine hp_run_sound hp_co V_li_totalLength C (fun _ _ _ _ _ _ _ hq => hq) [4] 6 _ _ _ _ _ _ _ ?_
      refine And.intro (fun c => ?_) (fun c => absurd (nI_lt (show 64 < 65 by decide) (by decide)) c)
      exact And.intro rfl (And.intro rfl (And.intro rfl rfl))
    | succ m ih =>
      intro i hi
      refine hp_run_sound hp_co V_li_totalLength C (fun _ _ _ _ _ _ _ hq => hq) [4] 40 _ _ _ _ _ _ _ ?_
      refine And.intro (fun c => absurd c (nI_nlt (b := i) (a := 64) (by omega) (by decide))) (fun c => ?_)
      refine ic_P (c_rowN l h a i (by omega) f ha) (Nat.le_refl _) (Nat.le_refl _) ?_
      refine ic_P (c_rowB l h a i (by omega) f ha) (Nat.le_refl _) (Nat.le_refl _) ?_
      refine ic_P (c_jl_bitCount l h _) (Nat.le_refl _) (Nat.le_refl _) ?_
      refine ic_P (c_ro_countRuns l h _) (Nat.le_refl _) (Nat.le_refl _) ?_
      have hW := ih (i + 1) (by omega)
      have e : nI (xtl f (i + 1)) = nI (xtl f i) + nI (cn (bb (rwN f i ^^^ rwB f i)) 64) + nI 2 * nI (cn (bb (xst (rwN f i))) 64) := by
        rw [pk_mul, nI_add, nI_add, Nat.add_assoc]
        rfl
      rw [← nI_1 i, e] at hW
      refine hp_W_pick [0, 1, 2] ?_
      exact hW
  refine hp_run_sound hp_co V_li_totalLength C (fun _ _ _ _ _ _ _ hq => hq) [4] 8 _ _ _ _ _ _ _ ?_
  exact key 65 0 (by omega)
end
section
/-! what a throw finds -/
def tw_ok (own : String) (ik ic ci : Nat) : Prop := Bundle.fit (hp_exn ci) = true ∧ Jvm.Cond.classLink own ik (hp_exn ci) ∈ hp_Ts ∧ Jvm.Cond.initialized (hp_exn ci) ∈ hp_Ts ∧ ∀ w ∈ Bundle.ownAtoms own ic (hp_exn ci) hp_ups, w ∈ hp_Ts
theorem tw_li : tw_ok "EdgeSweeps$Lines" 49 53 0 := by
  refine ⟨by decide +kernel, by decide +kernel, by decide +kernel, by decide +kernel⟩
theorem hq_throw {T : hp_T} {Y : hp_Y} {l : Launch} {w0 : Bool} {dk dn : Nat} {Q : hp_R → hp_H → Prop} {G : hp_G} (V : hp_val T Y) (C : hp_ctx T Y l w0 dk dn Q G) {ik is ic ci pc : Nat} {text : String} {lv : hp_L} {h : hp_H}
    (hw : tw_ok (t_own T) ik ic ci) (hstr : (t_own T, is, text) ∈ hp_strs) (e0 : hp_lk (t_code T) pc = some (.new ik)) (e3 : hp_lk (t_code T) (pc + 3) = some .dup) (e4 : hp_lk (t_code T) (pc + 4) = some (.ldc is)) (e6 : hp_lk (t_code T) (pc + 6) = some (.invokespecial ic)) (e9 : hp_lk (t_code T) (pc + 9) = some .athrow)
    (hnil : y_hd Y = []) (hfr : 5 < y_fr Y) (hlo : 82 ≤ y_lo Y) (hdk : 1 ≤ dk) (hdn : 6 ≤ dn) (hi : Q (.inr ci) h) : hp_W G pc lv [] h true 0 0 :=
  hs_throw C hw.1 hw.2.1 hw.2.2.1 hstr hw.2.2.2 (hq_dec V e0 rfl) (hq_dec V e3 rfl) (hq_dec V e4 rfl) (hq_dec V e6 rfl) (hq_dec V e9 rfl) hnil hfr (by show 0 + 82 ≤ _; omega) hdk hdn hi
theorem bit_0 {k : Nat} (hk : k < 64) (x : Int64) : ((x.toUInt64 >>> ((nI k).toInt64.toUInt64 &&& Int64.toUInt64 63)).toInt64 &&& 1) = 0 ↔ bb x k = false := by
  constructor
  · intro h
    have e : bb ((x.toUInt64 >>> ((nI k).toInt64.toUInt64 &&& Int64.toUInt64 63)).toInt64 &&& 1) 0 = bb 0 0 := by rw [h]
    rw [bb_and, bb_shr hk, bb_0, Nat.add_zero, show bb 1 0 = true from by decide, Bool.and_true] at e
    exact e
  · intro h
    refine bb_ext (fun i hi => ?_)
    rw [bb_and, bb_shr hk, bb_0]
    rcases Nat.eq_zero_or_pos i with q | q
    · rw [q, Nat.add_zero, h]; rfl
    · have e : bb 1 i = false := by
        rw [← nn_bit, nn_1]
        cases hq : Nat.testBit 1 i with
        | false => rfl
        | true => exact absurd (Nat.testBit_one_eq_true_iff_self_eq_zero.mp hq) (by omega)
      rw [e, Bool.and_false]
def xlf (f : Nat → Int64) (y x what : Nat) : Int32 := match what with
  | 0 => nI x
  | 2 => nI (xre (if bb (xab f y) x then xab f y else xbe f y) x)
  | 4 => if bb (xab f y) x then 1 else -1
  | _ => nI y
set_option maxRecDepth 20000 in
theorem c_li_lyingFactAt (l : Launch) (h : hp_H) (a y x what : Nat) (hy : y < 2 ^ 31) (hx : x < 64) (hw : what < 5) (f : Nat → Int64) (ha : h[a]? = some (LA 64 f)) :
    hp_M l Y_li_lyingFactAt [.ref a, .int (nI y), .int (nI x), .int (nI what)] h true 0 0 (hq_P (.inl (some (.int (xlf f y x what)))) h) := by
  refine hp_start (T := T_li_lyingFactAt) (by decide) rfl (fun σ => Nat.le_of_ble_eq_true rfl) (fun G C => ?_)
  have tail : ∀ b : Bool, b = bb (xab f y) x → hp_W G 23 [(0, .ref a), (1, .int (nI y)), (2, .int (nI x)), (3, .int (nI what)), (4, .long (xab f y))] [.int (zI b)] h true 0 0 := by
    intro b hb
    refine hp_run_sound hp_co V_li_lyingFactAt C (fun _ _ _ _ _ _ _ hq => hq) [] 20 _ _ _ _ _ _ _ ?_
    have ht : (nI what).toInt = (what : Int) := nI_toInt (by omega)
    refine And.intro (fun q => absurd q (by rw [ht]; omega)) (And.intro (fun q => ?_) (And.intro (fun q => ?_) (And.intro (fun q => ?_) (And.intro (fun q => ?_) (And.intro (fun q => ?_) trivial)))))
    · have e : what = 0 := by rw [ht] at q; omega
      subst e
      exact And.intro rfl (And.intro rfl (And.intro rfl rfl))
    · have e : what = 1 := by rw [ht] at q; omega
      subst e
      exact And.intro rfl (And.intro rfl (And.intro rfl rfl))
    · have e : what = 2 := by rw [ht] at q; omega
      subst e
      refine And.intro (fun c => ?_) (fun c => ?_)
      · have hb2 : b = false := (zI_eq b).mp c
        refine ic_P (c_li_areaBelow l h a y hy f ha) (Nat.le_refl _) (Nat.le_refl _) ?_
        refine ic_P (c_ro_runEnd l h _ x) (Nat.le_refl _) (Nat.le_refl _) ?_
        refine And.intro rfl (And.intro rfl (And.intro ?_ rfl))
        unfold xlf
        rw [← hb, hb2]
        rfl
      · have hb2 : b = true := by
          cases b with
          | true => rfl
          | false => exact absurd rfl c
        refine ic_P (c_ro_runEnd l h _ x) (Nat.le_refl _) (Nat.le_refl _) ?_
        refine And.intro rfl (And.intro rfl (And.intro ?_ rfl))
        unfold xlf
        rw [← hb, hb2]
        rfl
    · have e : what = 3 := by rw [ht] at q; omega
      subst e
      exact And.intro rfl (And.intro rfl (And.intro rfl rfl))
    · have e : what = 4 := by rw [ht] at q; omega
      subst e
      refine And.intro (fun c => ?_) (fun c => ?_)
      · have hb2 : b = false := (zI_eq b).mp c
        refine And.intro rfl (And.intro rfl (And.intro ?_ rfl))
        unfold xlf
        rw [← hb, hb2]
        rfl
      · have hb2 : b = true := by
          cases b with
          | true => rfl
          | false => exact absurd rfl c
        refine And.intro rfl (And.intro rfl (And.intro ?_ rfl))
        unfold xlf
        rw [← hb, hb2]
        rfl
  refine hp_run_sound hp_co V_li_lyingFactAt C (fun _ _ _ _ _ _ _ hq => hq) [23] 20 _ _ _ _ _ _ _ ?_
  refine ic_P (c_li_areaAbove l h a y hy f ha) (Nat.le_refl _) (Nat.le_refl _) ?_
  refine And.intro (fun c => ?_) (fun c => ?_)
  · have hb := (bit_0 hx _).mp ((lg_cmp_eq _ _).mp c)
    exact tail false hb.symm
  · have hb : bb (xab f y) x = true := by
      cases hq : bb (xab f y) x with
      | true => rfl
      | false => exact absurd ((lg_cmp_eq _ _).mpr ((bit_0 hx _).mpr hq)) c
    exact tail true hb.symm
set_option maxRecDepth 20000 in
theorem c_li_turnedFact (l : Launch) (h : hp_H) (w : Nat) (hw : w < 5) : hp_M l Y_li_turnedFact [.int (nI w)] h true 0 0 (hq_P (.inl (some (.int (nI (match w with | 0 => 1 | 1 => 0 | 2 => 3 | 3 => 2 | w => w))))) h) := by
  refine hp_start (T := T_li_turnedFact) (by decide) rfl (fun σ => Nat.le_of_ble_eq_true rfl) (fun G C => ?_)
  refine hp_run_sound hp_co V_li_turnedFact C (fun _ _ _ _ _ _ _ hq => hq) [] 20 _ _ _ _ _ _ _ ?_
  have ht : (nI w).toInt = (w : Int) := nI_toInt (by omega)
  refine And.intro (fun q => ?_) (And.intro (fun q => ?_) (And.intro (fun q => ?_) (And.intro (fun q => ?_) (And.intro (fun q => ?_) trivial))))
  · have e : w = 4 := by rw [ht] at q; omega
    subst e
    exact And.intro rfl (And.intro rfl (And.intro rfl rfl))
  · have e : w = 0 := by rw [ht] at q; omega
    subst e
    exact And.intro rfl (And.intro rfl (And.intro rfl rfl))
  · have e : w = 1 := by rw [ht] at q; omega
    subst e
    exact And.intro rfl (And.intro rfl (And.intro rfl rfl))
  · have e : w = 2 := by rw [ht] at q; omega
    subst e
    exact And.intro rfl (And.intro rfl (And.intro rfl rfl))
  · have e : w = 3 := by rw [ht] at q; omega
    subst e
    exact And.intro rfl (And.intro rfl (And.intro rfl rfl))
/-! sums and counts -/
theorem sm_s (f : Nat → Nat) (n : Nat) : sm f (n + 1) = sm f n + f n := rfl
theorem sm_mono (f : Nat → Nat) : ∀ {a b : Nat}, a ≤ b → sm f a ≤ sm f b := by
  intro a b h
  induction b with
  | zero => rw [Nat.le_zero.mp h]; exact Nat.le_refl _
  | succ b ih =>
    rcases Nat.lt_or_ge a (b + 1) with q | q
    · exact Nat.le_trans (ih (by omega)) (Nat.le_add_right _ _)
    · rw [show a = b + 1 by omega]; exact Nat.le_refl _
theorem sm_le {f : Nat → Nat} {c : Nat} (h : ∀ i, f i ≤ c) : ∀ n, sm f n ≤ n * c
  | 0 => Nat.zero_le _
  | n + 1 => by
    rw [sm_s, Nat.succ_mul]
    exact Nat.add_le_add (sm_le h n) (h n)
theorem lyn_le (f : Nat → Int64) {y : Nat} (h : y ≤ 65) : lyn f y ≤ 4160 := Nat.le_trans (sm_mono _ h) (sm_le (fun i => cn_le _ 64) 65)
theorem lyn_s (f : Nat → Int64) (y : Nat) : lyn f (y + 1) = lyn f y + cn (bb (xls f y)) 64 := rfl
theorem cn_in {g : Nat → Bool} {x n : Nat} (h : x < n) (hx : g x = true) : cn g x < cn g n := by
  have h1 : cn g (x + 1) ≤ cn g n := cn_mono g h
  rw [cn_s, hx] at h1
  exact h1
set_option maxRecDepth 20000 in
theorem c_li_lyingFact (l : Launch) (h : hp_H) (a y x what : Nat) (hy : y ≤ 64) (hx : x < 64) (hw : what < 5) (f : Nat → Int64) (ha : h[a]? = some (LA 64 f)) (hb : bb (xls f y) x = true) :
    hp_M l Y_li_lyingFact [.ref a, .int (nI (lyn f y + cn (bb (xls f y)) x)), .int (nI what)] h true 0 0 (hq_P (.inl (some (.int (xlf f y x what)))) h) := by
  refine hp_start (T := T_li_lyingFact) (by decide) rfl (fun σ => Nat.le_of_ble_eq_true rfl) (fun G C => ?_)
  generalize hk : lyn f y + cn (bb (xls f y)) x = k
  have hk2 : k < 5000 := by
    have h1 := lyn_le f (y := y) (by omega)
    have h2 := cn_le (bb (xls f y)) x
    omega
  have key : ∀ (m i : Nat), i + m = y → hp_W G 5 [(0, .ref a), (1, .int (nI k)), (2, .int (nI what)), (3, .int (nI (k - lyn f i))), (4, .int (nI i))] [] h true 0 0 := by
    intro m
    induction m with
    | zero =>
      intro i hi
      have e : i = y := by omega
      subst e
      have hc := cn_in hx hb
      have e2 : k - lyn f i = cn (bb (xls f i)) x := by omega
      have h4 := cn_le (bb (xls f i)) 64
      refine hp_run_sound hp_co V_li_lyingFact C (fun _ _ _ _ _ _ _ hq => hq) [5] 40 _ _ _ _ _ _ _ ?_
      refine And.intro (fun c => absurd c (nI_nlt (b := i) (a := 64) (by omega) (by decide))) (fun c => And.intro (fun c => absurd c (nI_pos (by omega))) (fun c => ?_))
      refine ic_P (c_li_lyingStarts l h a i (by omega) f ha) (Nat.le_refl _) (Nat.le_refl _) ?_
      refine ic_P (c_jl_bitCount l h _) (Nat.le_refl _) (Nat.le_refl _) ?_
      refine And.intro (fun c => absurd c (nI_ge (by omega) (by omega))) (fun c => ?_)
      rw [e2]
      refine ic_P (c_ro_placeOf l h _ _ (by omega)) (Nat.le_refl _) (Nat.le_refl _) ?_
      rw [xpl_is hx hb rfl]
      refine ic_P (c_li_lyingFactAt l h a i x what (by omega) hx hw f ha) (Nat.le_refl _) (Nat.le_refl _) ?_
      exact And.intro rfl (And.intro rfl (And.intro rfl rfl))
    | succ m ih =>
      intro i hi
      have h1 : lyn f (i + 1) ≤ lyn f y := sm_mono _ (by omega)
      have h2 := lyn_s f i
      have h4 := cn_le (bb (xls f i)) 64
      refine hp_run_sound hp_co V_li_lyingFact C (fun _ _ _ _ _ _ _ hq => hq) [5] 40 _ _ _ _ _ _ _ ?_
      refine And.intro (fun c => absurd c (nI_nlt (b := i) (a := 64) (by omega) (by decide))) (fun c => And.intro (fun c => absurd c (nI_pos (by omega))) (fun c => ?_))
      refine ic_P (c_li_lyingStarts l h a i (by omega) f ha) (Nat.le_refl _) (Nat.le_refl _) ?_
      refine ic_P (c_jl_bitCount l h _) (Nat.le_refl _) (Nat.le_refl _) ?_
      refine And.intro (fun c => ?_) (fun c => absurd (nI_le (by omega) (by omega)) c)
      have hW := ih (i + 1) (by omega)
      have e : nI (k - lyn f (i + 1)) = nI (k - lyn f i) - nI (cn (bb (xls f i)) 64) := by
        rw [pk_sub (by omega), h2, Nat.sub_sub]
      rw [← nI_1 i, e] at hW
      refine hp_W_pick [0, 1, 2, 3, 4] ?_
      exact hW
  have h0 := key y 0 (by omega)
  refine hp_run_sound hp_co V_li_lyingFact C (fun _ _ _ _ _ _ _ hq => hq) [5] 8 _ _ _ _ _ _ _ ?_
  exact h0
set_option maxRecDepth 20000 in
theorem c_li_lyingFact_no (l : Launch) (h : hp_H) (a what : Nat) (k : Int32) (f : Nat → Int64) (ha : h[a]? = some (LA 64 f)) (hk : k < 0 ∨ nI (lyn f 65) ≤ k) :
    hp_M l Y_li_lyingFact [.ref a, .int k, .int (nI what)] h true 1 6 (hq_P (.inr 0) h) := by
  refine hp_start (T := T_li_lyingFact) (by decide) rfl (fun σ => Nat.le_of_ble_eq_true rfl) (fun G C => ?_)
  have thr : ∀ lv, hp_W G 62 lv [] h true 0 0 := fun lv => hq_throw (ik := 49) (is := 51) (ic := 53) (ci := 0) (text := "no such edge") V_li_lyingFact C tw_li (by decide) rfl rfl rfl rfl rfl rfl (by decide) (by decide) (by decide) (by decide) ⟨rfl, rfl⟩
  by_cases hk0 : k < 0
  · refine hp_run_sound hp_co V_li_lyingFact C (fun _ _ _ _ _ _ _ hq => hq) [62] 20 _ _ _ _ _ _ _ ?_
    refine And.intro (fun c => thr _) (fun c => And.intro (fun c => thr _) (fun c => absurd hk0 c))
  · obtain ⟨q, hq1, hq2⟩ := nI_of hk0
    subst hq2
    have hq : lyn f 65 ≤ q := by
      rcases hk with e | e
      · exact absurd e hk0
      · exact (nI_leI (by have := lyn_le f (y := 65) (by omega); omega) hq1).mp e
    have key : ∀ (m i : Nat), i + m = 65 → hp_W G 5 [(0, .ref a), (1, .int (nI q)), (2, .int (nI what)), (3, .int (nI (q - lyn f i))), (4, .int (nI i))] [] h true 0 0 := by
      intro m
      induction m with
      | zero =>
        intro i hi
        have e : i = 65 := by omega
        subst e
        refine hp_run_sound hp_co V_li_lyingFact C (fun _ _ _ _ _ _ _ hq => hq) [62] 40 _ _ _ _ _ _ _ ?_
        refine And.intro (fun c => thr _) (fun c => absurd (nI_lt (show 64 < 65 by decide) (by decide)) c)
      | succ m ih =>
        intro i hi
        have h1 : lyn f (i + 1) ≤ lyn f 65 := sm_mono _ (by omega)
        have h2 := lyn_s f i
        have h4 := cn_le (bb (xls f i)) 64
        refine hp_run_sound hp_co V_li_lyingFact C (fun _ _ _ _ _ _ _ hq => hq) [5, 62] 40 _ _ _ _ _ _ _ ?_
        refine And.intro (fun c => absurd c (nI_nlt (b := i) (a := 64) (by omega) (by decide))) (fun c => And.intro (fun c => absurd c (nI_pos (by omega))) (fun c => ?_))
        refine ic_P (c_li_lyingStarts l h a i (by omega) f ha) (Nat.le_add_left _ _) (Nat.le_add_left _ _) ?_
        refine ic_P (c_jl_bitCount l h _) (Nat.le_add_left _ _) (Nat.le_add_left _ _) ?_
        refine And.intro (fun c => ?_) (fun c => absurd (nI_le (by omega) (by omega)) c)
        have hW := ih (i + 1) (by omega)
        have e : nI (q - lyn f (i + 1)) = nI (q - lyn f i) - nI (cn (bb (xls f i)) 64) := by
          rw [pk_sub (by omega), h2, Nat.sub_sub]
        rw [← nI_1 i, e] at hW
        refine hp_W_pick [0, 1, 2, 3, 4] ?_
        exact hW
    have h0 := key 65 0 (by omega)
    refine hp_run_sound hp_co V_li_lyingFact C (fun _ _ _ _ _ _ _ hq => hq) [5] 8 _ _ _ _ _ _ _ ?_
    exact h0
end
section
/-! Lines: boxes -/
/-- rows from place 64 - m on: the first that is not row y -/
def xse (f : Nat → Int64) (y : Nat) : Nat → Nat
  | 0 => 64
  | m + 1 => if f (63 - m) = f y then xse f y m else 63 - m
set_option maxRecDepth 20000 in
theorem c_li_sameRowsEnd (l : Launch) (h : hp_H) (a y : Nat) (hy : y < 64) (f : Nat → Int64) (ha : h[a]? = some (LA 64 f)) :
    hp_M l Y_li_sameRowsEnd [.ref a, .int (nI y)] h true 0 0 (hq_P (.inl (some (.int (nI (xse f y (63 - y)))))) h) := by
  refine hp_start (T := T_li_sameRowsEnd) (by decide) rfl (fun σ => Nat.le_of_ble_eq_true rfl) (fun G C => ?_)
  have key : ∀ (m i : Nat), i + m = 64 → xse f y m = xse f y (63 - y) → hp_W G 4 [(0, .ref a), (1, .int (nI y)), (2, .int (nI i))] [] h true 0 0 := by
    intro m
    induction m with
    | zero =>
      intro i hi hs
      have e : i = 64 := by omega
      subst e
      refine hp_run_sound hp_co V_li_sameRowsEnd C (fun _ _ _ _ _ _ _ hq => hq) [4] 6 _ _ _ _ _ _ _ ?_
      refine And.intro (fun c => ?_) (fun c => absurd (nI_le (Nat.le_refl 64) (by decide)) c)
      rw [← hs]
      exact And.intro rfl (And.intro rfl (And.intro rfl rfl))
    | succ m ih =>
      intro i hi hs
      have e : 63 - m = i := by omega
      refine hp_run_sound hp_co V_li_sameRowsEnd C (fun _ _ _ _ _ _ _ hq => hq) [4] 20 _ _ _ _ _ _ _ ?_
      refine And.intro (fun c => absurd c (nI_ge (b := 64) (by omega) (by decide))) (fun c => ?_)
      refine Exists.intro 64 (Exists.intro f (And.intro ha (And.intro (in64 (by omega)) ?_)))
      refine Exists.intro 64 (Exists.intro f (And.intro ha (And.intro (in64 (by omega)) ?_)))
      rw [cl64 hy, cl64 (show i < 64 by omega)]
      refine And.intro (fun c => ?_) (fun c => ?_)
      · have hn : ¬ f (63 - m) = f y := by rw [e]; exact fun q => c ((lg_cmp_eq _ _).mpr q)
        have e2 : xse f y (m + 1) = i := by
          show (if _ then _ else _) = i
          rw [if_neg hn, e]
        rw [← hs, e2]
        exact And.intro rfl (And.intro rfl (And.intro rfl rfl))
      · have hn : f (63 - m) = f y := by rw [e]; exact (lg_cmp_eq _ _).mp c
        have hW := ih (i + 1) (by omega) (by rw [← hs]; exact (if_pos hn).symm)
        rw [← nI_1 i] at hW
        exact hW
  have h0 := key (63 - y) (y + 1) (by omega) rfl
  rw [← nI_1 y] at h0
  refine hp_run_sound hp_co V_li_sameRowsEnd C (fun _ _ _ _ _ _ _ hq => hq) [4] 8 _ _ _ _ _ _ _ ?_
  exact h0
def xbf (f : Nat → Int64) (y x what : Nat) : Int32 := match what with
  | 0 => nI x
  | 1 => nI y
  | 2 => nI (xre (f y) x)
  | _ => nI (xse f y (63 - y))
set_option maxRecDepth 20000 in
theorem c_li_boxFactAt (l : Launch) (h : hp_H) (a y x w : Nat) (hy : y < 64) (hw : w < 4) (f : Nat → Int64) (ha : h[a]? = some (LA 64 f)) :
    hp_M l Y_li_boxFactAt [.ref a, .int (nI y), .int (nI x), .int (nI w)] h true 0 0 (hq_P (.inl (some (.int (xbf f y x w)))) h) := by
  refine hp_start (T := T_li_boxFactAt) (by decide) rfl (fun σ => Nat.le_of_ble_eq_true rfl) (fun G C => ?_)
  refine hp_run_sound hp_co V_li_boxFactAt C (fun _ _ _ _ _ _ _ hq => hq) [] 20 _ _ _ _ _ _ _ ?_
  have ht : (nI w).toInt = (w : Int) := nI_toInt (by omega)
  refine And.intro (fun q => ?_) (And.intro (fun q => ?_) (And.intro (fun q => ?_) (And.intro (fun q => ?_) trivial)))
  · have e : w = 3 := by rw [ht] at q; omega
    subst e
    refine ic_P (c_li_sameRowsEnd l h a y hy f ha) (Nat.le_refl _) (Nat.le_refl _) ?_
    exact And.intro rfl (And.intro rfl (And.intro rfl rfl))
  · have e : w = 0 := by rw [ht] at q; omega
    subst e
    exact And.intro rfl (And.intro rfl (And.intro rfl rfl))
  · have e : w = 1 := by rw [ht] at q; omega
    subst e
    exact And.intro rfl (And.intro rfl (And.intro rfl rfl))
  · have e : w = 2 := by rw [ht] at q; omega
    subst e
    refine Exists.intro 64 (Exists.intro f (And.intro ha (And.intro (in64 (by omega)) ?_)))
    rw [cl64 hy]
    refine ic_P (c_ro_runEnd l h _ x) (Nat.le_refl _) (Nat.le_refl _) ?_
    exact And.intro rfl (And.intro rfl (And.intro rfl rfl))
/-- where boxes begin in row y -/
def bxs (f : Nat → Int64) (y : Nat) : Int64 := if f y = rwB f y then 0 else xst (f y)
def byn (f : Nat → Int64) : Nat → Nat := sm fun y => cn (bb (bxs f y)) 64
theorem byn_le (f : Nat → Int64) {y : Nat} (h : y ≤ 64) : byn f y ≤ 4096 := Nat.le_trans (sm_mono _ h) (sm_le (fun i => cn_le _ 64) 64)
theorem byn_s (f : Nat → Int64) (y : Nat) : byn f (y + 1) = byn f y + cn (bb (bxs f y)) 64 := rfl
theorem bxs_no {f : Nat → Int64} {y : Nat} (h : f y = rwB f y) : cn (bb (bxs f y)) 64 = 0 := by
  unfold bxs
  rw [if_pos h]
  exact cn_none (fun i _ => bb_0 i)
set_option maxRecDepth 20000 in
theorem c_li_boxFact (l : Launch) (h : hp_H) (a y x what : Nat) (hy : y < 64) (hx : x < 64) (hw : what < 4) (f : Nat → Int64) (ha : h[a]? = some (LA 64 f)) (hb : bb (bxs f y) x = true) :
    hp_M l Y_li_boxFact [.ref a, .int (nI (byn f y + cn (bb (bxs f y)) x)), .int (nI what)] h true 0 0 (hq_P (.inl (some (.int (xbf f y x what)))) h) := by
  refine hp_start (T := T_li_boxFact) (by decide) rfl (fun σ => Nat.le_of_ble_eq_true rfl) (fun G C => ?_)
  generalize hk : byn f y + cn (bb (bxs f y)) x = k
  have hk2 : k < 5000 := by
    have h1 := byn_le f (y := y) (by omega)
    have h2 := cn_le (bb (bxs f y)) x
    omega
  have key : ∀ (m i : Nat), i + m = y → hp_W G 5 [(0, .ref a), (1, .int (nI k)), (2, .int (nI what)), (3, .int (nI (k - byn f i))), (4, .int (nI i))] [] h true 0 0 := by
    intro m
    induction m with
    | zero =>
      intro i hi
      have e : i = y := by omega
      subst e
      have hc := cn_in hx hb
      have e2 : k - byn f i = cn (bb (bxs f i)) x := by omega
      have h4 := cn_le (bb (bxs f i)) 64
      have hne : ¬ f i = rwB f i := fun q => by rw [bxs_no q] at hc; omega
      have hbx : bxs f i = xst (f i) := if_neg hne
      rw [hbx] at hc e2 h4 hb
      refine hp_run_sound hp_co V_li_boxFact C (fun _ _ _ _ _ _ _ hq => hq) [5] 40 _ _ _ _ _ _ _ ?_
      refine And.intro (fun c => absurd c (nI_ge (b := 64) (by omega) (by decide))) (fun c => And.intro (fun c => absurd c (nI_pos (by omega))) (fun c => ?_))
      refine Exists.intro 64 (Exists.intro f (And.intro ha (And.intro (in64 (by omega)) ?_)))
      refine ic_P (c_rowB l h a i (by omega) f ha) (Nat.le_refl _) (Nat.le_refl _) ?_
      rw [cl64 hy]
      refine And.intro (fun c => absurd ((lg_cmp_eq _ _).mp c) hne) (fun c => ?_)
      refine Exists.intro 64 (Exists.intro f (And.intro ha (And.intro (in64 (by omega)) ?_)))
      rw [cl64 hy]
      refine ic_P (c_ro_starts l h _) (Nat.le_refl _) (Nat.le_refl _) ?_
      refine ic_P (c_jl_bitCount l h _) (Nat.le_refl _) (Nat.le_refl _) ?_
      refine And.intro (fun c => absurd c (nI_ge (by omega) (by omega))) (fun c => ?_)
      rw [e2]
      refine ic_P (c_ro_placeOf l h _ _ (by omega)) (Nat.le_refl _) (Nat.le_refl _) ?_
      rw [xpl_is hx hb rfl]
      refine ic_P (c_li_boxFactAt l h a i x what (by omega) hw f ha) (Nat.le_refl _) (Nat.le_refl _) ?_
      exact And.intro rfl (And.intro rfl (And.intro rfl rfl))
    | succ m ih =>
      intro i hi
      have h1 : byn f (i + 1) ≤ byn f y := sm_mono _ (by omega)
      have h2 := byn_s f i
      have h4 := cn_le (bb (bxs f i)) 64
      have hW := ih (i + 1) (by omega)
      refine hp_run_sound hp_co V_li_boxFact C (fun _ _ _ _ _ _ _ hq => hq) [5] 40 _ _ _ _ _ _ _ ?_
      refine And.intro (fun c => absurd c (nI_ge (b := 64) (by omega) (by decide))) (fun c => And.intro (fun c => absurd c (nI_pos (by omega))) (fun c => ?_))
      refine Exists.intro 64 (Exists.intro f (And.intro ha (And.intro (in64 (by omega)) ?_)))
      refine ic_P (c_rowB l h a i (by omega) f ha) (Nat.le_refl _) (Nat.le_refl _) ?_
      rw [cl64 (show i < 64 by omega)]
      refine And.intro (fun c => ?_) (fun c => ?_)
      · have hz := bxs_no ((lg_cmp_eq _ _).mp c)
        rw [h2, hz, Nat.add_zero, ← nI_1 i] at hW
        exact hW
      · have hne : ¬ f i = rwB f i := fun q => c ((lg_cmp_eq _ _).mpr q)
        have hbx : bxs f i = xst (f i) := if_neg hne
        rw [hbx] at h2 h4
        refine Exists.intro 64 (Exists.intro f (And.intro ha (And.intro (in64 (by omega)) ?_)))
        rw [cl64 (show i < 64 by omega)]
        refine ic_P (c_ro_starts l h _) (Nat.le_refl _) (Nat.le_refl _) ?_
        refine ic_P (c_jl_bitCount l h _) (Nat.le_refl _) (Nat.le_refl _) ?_
        refine And.intro (fun c => ?_) (fun c => absurd (nI_le (by omega) (by omega)) c)
        have e : nI (k - byn f (i + 1)) = nI (k - byn f i) - nI (cn (bb (xst (f i))) 64) := by
          rw [pk_sub (by omega), h2, Nat.sub_sub]
        rw [← nI_1 i, e] at hW
        refine hp_W_pick [0, 1, 2, 3, 4] ?_
        exact hW
  have h0 := key y 0 (by omega)
  refine hp_run_sound hp_co V_li_boxFact C (fun _ _ _ _ _ _ _ hq => hq) [5] 8 _ _ _ _ _ _ _ ?_
  exact h0
set_option maxRecDepth 20000 in
theorem c_li_boxFact_no (l : Launch) (h : hp_H) (a what : Nat) (k : Int32) (f : Nat → Int64) (ha : h[a]? = some (LA 64 f)) (hk : k < 0 ∨ nI (byn f 64) ≤ k) :
    hp_M l Y_li_boxFact [.ref a, .int k, .int (nI what)] h true 1 6 (hq_P (.inr 0) h) := by
  refine hp_start (T := T_li_boxFact) (by decide) rfl (fun σ => Nat.le_of_ble_eq_true rfl) (fun G C => ?_)
  have thr : ∀ lv, hp_W G 79 lv [] h true 0 0 := fun lv => hq_throw (ik := 49) (is := 62) (ic := 53) (ci := 0) (text := "no such box") V_li_boxFact C tw_li (by decide) rfl rfl rfl rfl rfl rfl (by decide) (by decide) (by decide) (by decide) ⟨rfl, rfl⟩
  by_cases hk0 : k < 0
  · refine hp_run_sound hp_co V_li_boxFact C (fun _ _ _ _ _ _ _ hq => hq) [79] 20 _ _ _ _ _ _ _ ?_
    refine And.intro (fun c => thr _) (fun c => And.intro (fun c => thr _) (fun c => absurd hk0 c))
  · obtain ⟨q, hq1, hq2⟩ := nI_of hk0
    subst hq2
    have hq : byn f 64 ≤ q := by
      rcases hk with e | e
      · exact absurd e hk0
      · exact (nI_leI (by have := byn_le f (y := 64) (by omega); omega) hq1).mp e
    have key : ∀ (m i : Nat), i + m = 64 → hp_W G 5 [(0, .ref a), (1, .int (nI q)), (2, .int (nI what)), (3, .int (nI (q - byn f i))), (4, .int (nI i))] [] h true 0 0 := by
      intro m
      induction m with
      | zero =>
        intro i hi
        have e : i = 64 := by omega
        subst e
        refine hp_run_sound hp_co V_li_boxFact C (fun _ _ _ _ _ _ _ hq => hq) [79] 40 _ _ _ _ _ _ _ ?_
        refine And.intro (fun c => thr _) (fun c => absurd (nI_le (Nat.le_refl 64) (by decide)) c)
      | succ m ih =>
        intro i hi
        have h1 : byn f (i + 1) ≤ byn f 64 := sm_mono _ (by omega)
        have h2 := byn_s f i
        have h4 := cn_le (bb (bxs f i)) 64
        have hW := ih (i + 1) (by omega)
        refine hp_run_sound hp_co V_li_boxFact C (fun _ _ _ _ _ _ _ hq => hq) [5, 79] 40 _ _ _ _ _ _ _ ?_
        refine And.intro (fun c => absurd c (nI_ge (b := 64) (by omega) (by decide))) (fun c => And.intro (fun c => absurd c (nI_pos (by omega))) (fun c => ?_))
        refine Exists.intro 64 (Exists.intro f (And.intro ha (And.intro (in64 (by omega)) ?_)))
        refine ic_P (c_rowB l h a i (by omega) f ha) (Nat.le_add_left _ _) (Nat.le_add_left _ _) ?_
        rw [cl64 (show i < 64 by omega)]
        refine And.intro (fun c => ?_) (fun c => ?_)
        · have hz := bxs_no ((lg_cmp_eq _ _).mp c)
          rw [h2, hz, Nat.add_zero, ← nI_1 i] at hW
          exact hW
        · have hne : ¬ f i = rwB f i := fun q => c ((lg_cmp_eq _ _).mpr q)
          have hbx : bxs f i = xst (f i) := if_neg hne
          rw [hbx] at h2 h4
          refine Exists.intro 64 (Exists.intro f (And.intro ha (And.intro (in64 (by omega)) ?_)))
          rw [cl64 (show i < 64 by omega)]
          refine ic_P (c_ro_starts l h _) (Nat.le_add_left _ _) (Nat.le_add_left _ _) ?_
          refine ic_P (c_jl_bitCount l h _) (Nat.le_add_left _ _) (Nat.le_add_left _ _) ?_
          refine And.intro (fun c => ?_) (fun c => absurd (nI_le (by omega) (by omega)) c)
          have e : nI (q - byn f (i + 1)) = nI (q - byn f i) - nI (cn (bb (xst (f i))) 64) := by
            rw [pk_sub (by omega), h2, Nat.sub_sub]
          rw [← nI_1 i, e] at hW
          refine hp_W_pick [0, 1, 2, 3, 4] ?_
          exact hW
    have h0 := key 64 0 (by omega)
    refine hp_run_sound hp_co V_li_boxFact C (fun _ _ _ _ _ _ _ hq => hq) [5] 8 _ _ _ _ _ _ _ ?_
    exact h0
/-! Lines: corners -/
def xcc (b a : Int64) : Int64 := ((b ^^^ (b <<< ((nI 1).toInt64 &&& 63))) ||| (a ^^^ (a <<< ((nI 1).toInt64 &&& 63)))) &&& ((b ^^^ a) ||| ((b ^^^ a) <<< ((nI 1).toInt64 &&& 63)))
set_option maxRecDepth 20000 in
theorem c_li_cornersBetween (l : Launch) (h : hp_H) (b a : Int64) : hp_M l Y_li_cornersBetween [.long b, .long a] h true 0 0 (hq_P (.inl (some (.long (xcc b a)))) h) := by
  refine hp_start (T := T_li_cornersBetween) (by decide) rfl (fun σ => Nat.le_of_ble_eq_true rfl) (fun G C => ?_)
  refine hp_run_sound hp_co V_li_cornersBetween C (fun _ _ _ _ _ _ _ hq => hq) [] 40 _ _ _ _ _ _ _ ?_
  exact And.intro rfl (And.intro rfl (And.intro rfl rfl))
theorem neg_63 (x : Int64) : x < 0 ↔ bb x 63 = true := by
  rw [Int64.lt_iff_toInt_lt]
  show x.toBitVec.toInt < 0 ↔ x.toBitVec.getLsbD 63 = true
  have h := BitVec.msb_eq_toInt (x := x.toBitVec)
  rw [BitVec.msb_eq_getLsbD_last] at h
  rw [h]
  simp
end
section
/-! Lines: cornerFact -/
def cnr (f : Nat → Int64) (y x : Nat) : Bool := if x < 64 then bb (xcc (rwB f y) (rwN f y)) x else bb (rwB f y ^^^ rwN f y) 63
def cyn (f : Nat → Int64) : Nat → Nat := sm fun y => cn (cnr f y) 65
theorem cyn_le (f : Nat → Int64) {y : Nat} (h : y ≤ 65) : cyn f y ≤ 4225 := Nat.le_trans (sm_mono _ h) (sm_le (fun i => cn_le _ 65) 65)
theorem cyn_s (f : Nat → Int64) (y : Nat) : cyn f (y + 1) = cyn f y + cn (cnr f y) 65 := rfl
theorem cnr_in (f : Nat → Int64) (y : Nat) {x : Nat} (hx : x ≤ 64) : cn (cnr f y) x = cn (bb (xcc (rwB f y) (rwN f y))) x := cn_congr x (fun i hi => if_pos (by omega))
theorem cnr_65 (f : Nat → Int64) (y : Nat) : cn (cnr f y) 65 = cn (bb (xcc (rwB f y) (rwN f y))) 64 + (bb (rwB f y ^^^ rwN f y) 63).toNat := by
  rw [cn_s, cnr_in f y (Nat.le_refl _)]
  rfl
set_option maxRecDepth 20000 in
theorem c_li_cornerFact (l : Launch) (h : hp_H) (a y x ax : Nat) (hy : y ≤ 64) (hx : x ≤ 64) (hax : ax < 2) (f : Nat → Int64) (ha : h[a]? = some (LA 64 f)) (hb : cnr f y x = true) :
    hp_M l Y_li_cornerFact [.ref a, .int (nI (cyn f y + cn (cnr f y) x)), .int (nI ax)] h true 0 0 (hq_P (.inl (some (.int (nI (if ax = 1 then y else x))))) h) := by
  refine hp_start (T := T_li_cornerFact) (by decide) rfl (fun σ => Nat.le_of_ble_eq_true rfl) (fun G C => ?_)
  generalize hk : cyn f y + cn (cnr f y) x = k
  have hk2 : k < 5000 := by
    have h1 := cyn_le f (y := y) (by omega)
    have h2 := cn_le (cnr f y) x
    omega
  have hend : hp_W G 71 [(0, .ref a), (1, .int (nI k)), (2, .int (nI ax)), (3, .int (nI (cn (cnr f y) x))), (4, .int (nI y)), (5, .long (rwB f y)), (7, .long (rwN f y)), (9, .long (xcc (rwB f y) (rwN f y))), (11, .int (nI (cn (bb (xcc (rwB f y) (rwN f y))) 64))), (12, .int (nI (cn (cnr f y) 65)))] [] h true 0 0 := by
    have hc := cn_in (n := 65) (by omega) hb
    have h4 := cn_le (cnr f y) 65
    refine hp_run_sound hp_co V_li_cornerFact C (fun _ _ _ _ _ _ _ hq => hq) [5] 40 _ _ _ _ _ _ _ ?_
    refine And.intro (fun c => absurd c (nI_ge (by omega) (by omega))) (fun c => ?_)
    refine And.intro (fun c => ?_) (fun c => ?_)
    · have hax0 : ax = 0 := by
        rcases Nat.lt_or_ge ax 1 with q | q
        · omega
        · exact absurd (by rw [show ax = 1 by omega]; rfl) c
      refine And.intro (fun c2 => ?_) (fun c2 => ?_)
      · have hx64 : x = 64 := by
          rcases Nat.lt_or_ge x 64 with q | q
          · rw [cnr_in f y hx] at c2
            have hb2 : bb (xcc (rwB f y) (rwN f y)) x = true := by
              have := hb
              unfold cnr at this
              rw [if_pos q] at this
              exact this
            exact absurd c2 (nI_ge (cn_in q hb2) (by have := cn_le (bb (xcc (rwB f y) (rwN f y))) 64; omega))
          · omega
        refine And.intro rfl (And.intro rfl (And.intro ?_ rfl))
        rw [hax0, hx64]
        rfl
      · have hx64 : x < 64 := by
          rcases Nat.lt_or_ge x 64 with q | q
          · exact q
          · have e : x = 64 := by omega
            subst e
            rw [cnr_in f y (Nat.le_refl _)] at c2
            exact absurd (nI_le (Nat.le_refl _) (by have := cn_le (bb (xcc (rwB f y) (rwN f y))) 64; omega)) c2
        have hb2 : bb (xcc (rwB f y) (rwN f y)) x = true := by
          have := hb
          unfold cnr at this
          rw [if_pos hx64] at this
          exact this
        rw [cnr_in f y hx]
        refine ic_P (c_ro_placeOf l h _ _ (by have := cn_le (bb (xcc (rwB f y) (rwN f y))) x; omega)) (Nat.le_refl _) (Nat.le_refl _) ?_
        rw [xpl_is hx64 hb2 rfl]
        refine And.intro rfl (And.intro rfl (And.intro ?_ rfl))
        rw [hax0]
        rfl
    · have hax1 : ax = 1 := (nI_eq (b := 1) (by omega) (by decide)).mp c
      refine And.intro rfl (And.intro rfl (And.intro ?_ rfl))
      rw [hax1]
      rfl
  have key : ∀ (m i : Nat), i + m = y → hp_W G 5 [(0, .ref a), (1, .int (nI k)), (2, .int (nI ax)), (3, .int (nI (k - cyn f i))), (4, .int (nI i))] [] h true 0 0 := by
    intro m
    induction m with
    | zero =>
      intro i hi
      have e : i = y := by omega
      subst e
      have e2 : k - cyn f i = cn (cnr f i) x := by omega
      rw [e2]
      refine hp_run_sound hp_co V_li_cornerFact C (fun _ _ _ _ _ _ _ hq => hq) [71] 40 _ _ _ _ _ _ _ ?_
      refine And.intro (fun c => absurd c (nI_nlt (b := i) (a := 64) (by omega) (by decide))) (fun c => And.intro (fun c => absurd c (nI_pos (by have := cn_le (cnr f i) x; omega))) (fun c => ?_))
      refine ic_P (c_rowB l h a i (by omega) f ha) (Nat.le_refl _) (Nat.le_refl _) ?_
      refine ic_P (c_rowN l h a i (by omega) f ha) (Nat.le_refl _) (Nat.le_refl _) ?_
      refine ic_P (c_li_cornersBetween l h _ _) (Nat.le_refl _) (Nat.le_refl _) ?_
      refine ic_P (c_jl_bitCount l h _) (Nat.le_refl _) (Nat.le_refl _) ?_
      rw [cnr_65] at hend
      refine And.intro (fun c => ?_) (fun c => ?_)
      · have hb2 : bb (rwB f i ^^^ rwN f i) 63 = false := by
          cases hq : bb (rwB f i ^^^ rwN f i) 63 with
          | false => rfl
          | true => exact absurd ((lg_cmp_ge _ _).mp c) (Int64.not_le.mpr ((neg_63 _).mpr hq))
        rw [hb2] at hend
        exact hend
      · have hb2 : bb (rwB f i ^^^ rwN f i) 63 = true := (neg_63 _).mp (Int64.not_le.mp (fun q => c ((lg_cmp_ge _ _).mpr q)))
        rw [hb2] at hend
        rw [show nI (cn (bb (xcc (rwB f i) (rwN f i))) 64 + true.toNat) = nI (cn (bb (xcc (rwB f i) (rwN f i))) 64) + 1 from (nI_1 _).symm] at hend
        exact hend
    | succ m ih =>
      intro i hi
      have h1 : cyn f (i + 1) ≤ cyn f y := sm_mono _ (by omega)
      have h2 := cyn_s f i
      have h4 := cn_le (cnr f i) 65
      have hW := ih (i + 1) (by omega)
      have e : nI (k - cyn f (i + 1)) = nI (k - cyn f i) - nI (cn (cnr f i) 65) := by
        rw [pk_sub (by omega), h2, Nat.sub_sub]
      have hskip : hp_W G 71 [(0, .ref a), (1, .int (nI k)), (2, .int (nI ax)), (3, .int (nI (k - cyn f i))), (4, .int (nI i)), (5, .long (rwB f i)), (7, .long (rwN f i)), (9, .long (xcc (rwB f i) (rwN f i))), (11, .int (nI (cn (bb (xcc (rwB f i) (rwN f i))) 64))), (12, .int (nI (cn (cnr f i) 65)))] [] h true 0 0 := by
        refine hp_run_sound hp_co V_li_cornerFact C (fun _ _ _ _ _ _ _ hq => hq) [5] 40 _ _ _ _ _ _ _ ?_
        refine And.intro (fun c => ?_) (fun c => absurd (nI_le (by omega) (by omega)) c)
        rw [← nI_1 i, e] at hW
        refine hp_W_pick [0, 1, 2, 3, 4] ?_
        exact hW
      refine hp_run_sound hp_co V_li_cornerFact C (fun _ _ _ _ _ _ _ hq => hq) [71] 40 _ _ _ _ _ _ _ ?_
      refine And.intro (fun c => absurd c (nI_nlt (b := i) (a := 64) (by omega) (by decide))) (fun c => And.intro (fun c => absurd c (nI_pos (by omega))) (fun c => ?_))
      refine ic_P (c_rowB l h a i (by omega) f ha) (Nat.le_refl _) (Nat.le_refl _) ?_
      refine ic_P (c_rowN l h a i (by omega) f ha) (Nat.le_refl _) (Nat.le_refl _) ?_
      refine ic_P (c_li_cornersBetween l h _ _) (Nat.le_refl _) (Nat.le_refl _) ?_
      refine ic_P (c_jl_bitCount l h _) (Nat.le_refl _) (Nat.le_refl _) ?_
      rw [cnr_65] at hskip
      refine And.intro (fun c => ?_) (fun c => ?_)
      · have hb2 : bb (rwB f i ^^^ rwN f i) 63 = false := by
          cases hq : bb (rwB f i ^^^ rwN f i) 63 with
          | false => rfl
          | true => exact absurd ((lg_cmp_ge _ _).mp c) (Int64.not_le.mpr ((neg_63 _).mpr hq))
        rw [hb2] at hskip
        exact hskip
      · have hb2 : bb (rwB f i ^^^ rwN f i) 63 = true := (neg_63 _).mp (Int64.not_le.mp (fun q => c ((lg_cmp_ge _ _).mpr q)))
        rw [hb2] at hskip
        rw [show nI (cn (bb (xcc (rwB f i) (rwN f i))) 64 + true.toNat) = nI (cn (bb (xcc (rwB f i) (rwN f i))) 64) + 1 from (nI_1 _).symm] at hskip
        exact hskip
  have h0 := key y 0 (by omega)
  refine hp_run_sound hp_co V_li_cornerFact C (fun _ _ _ _ _ _ _ hq => hq) [5] 8 _ _ _ _ _ _ _ ?_
  exact h0
set_option maxRecDepth 20000 in
theorem c_li_cornerFact_no (l : Launch) (h : hp_H) (a : Nat) (ax k : Int32) (f : Nat → Int64) (ha : h[a]? = some (LA 64 f)) (hk : k < 0 ∨ nI (cyn f 65) ≤ k) :
    hp_M l Y_li_cornerFact [.ref a, .int k, .int ax] h true 1 6 (hq_P (.inr 0) h) := by
  refine hp_start (T := T_li_cornerFact) (by decide) rfl (fun σ => Nat.le_of_ble_eq_true rfl) (fun G C => ?_)
  have thr : ∀ lv, hp_W G 116 lv [] h true 0 0 := fun lv => hq_throw (ik := 49) (is := 72) (ic := 53) (ci := 0) (text := "no such corner") V_li_cornerFact C tw_li (by decide) rfl rfl rfl rfl rfl rfl (by decide) (by decide) (by decide) (by decide) ⟨rfl, rfl⟩
  by_cases hk0 : k < 0
  · refine hp_run_sound hp_co V_li_cornerFact C (fun _ _ _ _ _ _ _ hq => hq) [116] 20 _ _ _ _ _ _ _ ?_
    refine And.intro (fun c => thr _) (fun c => And.intro (fun c => thr _) (fun c => absurd hk0 c))
  · obtain ⟨q, hq1, hq2⟩ := nI_of hk0
    subst hq2
    have hq : cyn f 65 ≤ q := by
      rcases hk with e | e
      · exact absurd e hk0
      · exact (nI_leI (by have := cyn_le f (y := 65) (by omega); omega) hq1).mp e
    have key : ∀ (m i : Nat), i + m = 65 → hp_W G 5 [(0, .ref a), (1, .int (nI q)), (2, .int ax), (3, .int (nI (q - cyn f i))), (4, .int (nI i))] [] h true 0 0 := by
      intro m
      induction m with
      | zero =>
        intro i hi
        have e : i = 65 := by omega
        subst e
        refine hp_run_sound hp_co V_li_cornerFact C (fun _ _ _ _ _ _ _ hq => hq) [116] 40 _ _ _ _ _ _ _ ?_
        refine And.intro (fun c => thr _) (fun c => absurd (nI_lt (show 64 < 65 by decide) (by decide)) c)
      | succ m ih =>
        intro i hi
        have h1 : cyn f (i + 1) ≤ cyn f 65 := sm_mono _ (by omega)
        have h2 := cyn_s f i
        have h4 := cn_le (cnr f i) 65
        have hW := ih (i + 1) (by omega)
        have e : nI (q - cyn f (i + 1)) = nI (q - cyn f i) - nI (cn (cnr f i) 65) := by
          rw [pk_sub (by omega), h2, Nat.sub_sub]
        have hskip : hp_W G 71 [(0, .ref a), (1, .int (nI q)), (2, .int ax), (3, .int (nI (q - cyn f i))), (4, .int (nI i)), (5, .long (rwB f i)), (7, .long (rwN f i)), (9, .long (xcc (rwB f i) (rwN f i))), (11, .int (nI (cn (bb (xcc (rwB f i) (rwN f i))) 64))), (12, .int (nI (cn (cnr f i) 65)))] [] h true 0 0 := by
          refine hp_run_sound hp_co V_li_cornerFact C (fun _ _ _ _ _ _ _ hq => hq) [5] 40 _ _ _ _ _ _ _ ?_
          refine And.intro (fun c => ?_) (fun c => absurd (nI_le (by omega) (by omega)) c)
          rw [← nI_1 i, e] at hW
          refine hp_W_pick [0, 1, 2, 3, 4] ?_
          exact hW
        refine hp_run_sound hp_co V_li_cornerFact C (fun _ _ _ _ _ _ _ hq => hq) [71, 116] 40 _ _ _ _ _ _ _ ?_
        refine And.intro (fun c => absurd c (nI_nlt (b := i) (a := 64) (by omega) (by decide))) (fun c => And.intro (fun c => absurd c (nI_pos (by omega))) (fun c => ?_))
        refine ic_P (c_rowB l h a i (by omega) f ha) (Nat.le_add_left _ _) (Nat.le_add_left _ _) ?_
        refine ic_P (c_rowN l h a i (by omega) f ha) (Nat.le_add_left _ _) (Nat.le_add_left _ _) ?_
        refine ic_P (c_li_cornersBetween l h _ _) (Nat.le_add_left _ _) (Nat.le_add_left _ _) ?_
        refine ic_P (c_jl_bitCount l h _) (Nat.le_add_left _ _) (Nat.le_add_left _ _) ?_
        rw [cnr_65] at hskip
        refine And.intro (fun c => ?_) (fun c => ?_)
        · have hb2 : bb (rwB f i ^^^ rwN f i) 63 = false := by
            cases hq : bb (rwB f i ^^^ rwN f i) 63 with
            | false => rfl
            | true => exact absurd ((lg_cmp_ge _ _).mp c) (Int64.not_le.mpr ((neg_63 _).mpr hq))
          rw [hb2] at hskip
          exact hskip
        · have hb2 : bb (rwB f i ^^^ rwN f i) 63 = true := (neg_63 _).mp (Int64.not_le.mp (fun q => c ((lg_cmp_ge _ _).mpr q)))
          rw [hb2] at hskip
          rw [show nI (cn (bb (xcc (rwB f i) (rwN f i))) 64 + true.toNat) = nI (cn (bb (xcc (rwB f i) (rwN f i))) 64) + 1 from (nI_1 _).symm] at hskip
          exact hskip
    have h0 := key 65 0 (by omega)
    refine hp_run_sound hp_co V_li_cornerFact C (fun _ _ _ _ _ _ _ hq => hq) [5] 8 _ _ _ _ _ _ _ ?_
    exact h0
end
section
/-! Parts: heads -/
def updN (g : Nat → Nat) (k v : Nat) : Nat → Nat := fun j => if j = k then v else g j
abbrev NA (n : Nat) (g : Nat → Nat) : hp_C := IA n (fun j => nI (g j))
theorem upd_nI (g : Nat → Nat) (k v : Nat) : upd (fun j => nI (g j)) k (nI v) = fun j => nI (updN g k v j) := by
  funext j
  unfold upd updN
  by_cases h : j = k
  · rw [if_pos h, if_pos h]
  · rw [if_neg h, if_neg h]
theorem updN_s (g : Nat → Nat) (k v : Nat) : updN g k v k = v := if_pos rfl
theorem updN_n (g : Nat → Nat) {k j : Nat} (v : Nat) (h : j ≠ k) : updN g k v j = g j := if_neg h
/-- all that a relation joins -/
def cnx {α : Type} (P : α → α → Prop) (a b : α) : Prop := ∀ Q : α → α → Prop, (∀ a, Q a a) → (∀ a b, Q a b → Q b a) → (∀ a b c, Q a b → Q b c → Q a c) → (∀ a b, P a b → Q a b) → Q a b
theorem cnx_rf {α : Type} (P : α → α → Prop) (a : α) : cnx P a a := fun _ h _ _ _ => h a
theorem cnx_sy {α : Type} {P : α → α → Prop} {a b : α} (h : cnx P a b) : cnx P b a := fun Q h1 h2 h3 h4 => h2 _ _ (h Q h1 h2 h3 h4)
theorem cnx_tr {α : Type} {P : α → α → Prop} {a b c : α} (h : cnx P a b) (h' : cnx P b c) : cnx P a c := fun Q h1 h2 h3 h4 => h3 _ _ _ (h Q h1 h2 h3 h4) (h' Q h1 h2 h3 h4)
theorem cnx_of {α : Type} {P : α → α → Prop} {a b : α} (h : P a b) : cnx P a b := fun _ _ _ _ h4 => h4 _ _ h
theorem cnx_mono {α : Type} {P P' : α → α → Prop} (hP : ∀ a b, P a b → cnx P' a b) {a b : α} (h : cnx P a b) : cnx P' a b := h _ (cnx_rf P') (fun _ _ => cnx_sy) (fun _ _ _ => cnx_tr) hP
theorem cnx_ind {α : Type} {P : α → α → Prop} {a b : α} (h : cnx P a b) (Q : α → α → Prop) (h1 : ∀ a, Q a a) (h2 : ∀ a b, Q a b → Q b a) (h3 : ∀ a b c, Q a b → Q b c → Q a c) (h4 : ∀ a b, P a b → Q a b) : Q a b := h Q h1 h2 h3 h4
/-- g: who leads whom; rt: the head of all -/
def uf (n : Nat) (g rt : Nat → Nat) : Prop := ∀ r, r < n → g r ≤ r ∧ rt r ≤ r ∧ rt (g r) = rt r ∧ (g r = r → rt r = r) ∧ g (rt r) = rt r
theorem uf_rr {n : Nat} {g rt : Nat → Nat} (h : uf n g rt) {r : Nat} (hr : r < n) : rt (rt r) = rt r := by
  obtain ⟨h1, h2, h3, h4, h5⟩ := h r hr
  exact (h (rt r) (by omega)).2.2.2.1 h5
theorem uf_short {n : Nat} {g rt : Nat → Nat} (h : uf n g rt) {r : Nat} (hr : r < n) : uf n (updN g r (rt r)) rt := by
  intro s hs
  obtain ⟨h1, h2, h3, h4, h5⟩ := h s hs
  have hrr := uf_rr h hr
  refine ⟨?_, h2, ?_, ?_, ?_⟩
  · unfold updN
    split
    · next e => rw [e]; exact (h r hr).2.1
    · exact h1
  · unfold updN
    split
    · next e => rw [e]; exact hrr
    · exact h3
  · unfold updN
    split
    · next e => rw [e]; exact fun q => q
    · exact h4
  · unfold updN
    split
    · next e => rw [← e, uf_rr h hs]
    · exact h5
def mrg (rt : Nat → Nat) (a b : Nat) : Nat → Nat := fun r => if rt r = max (rt a) (rt b) then min (rt a) (rt b) else rt r
theorem uf_mrg {n : Nat} {g rt : Nat → Nat} (h : uf n g rt) {a b : Nat} (ha : a < n) (hb : b < n) : uf n (updN g (max (rt a) (rt b)) (min (rt a) (rt b))) (mrg rt a b) := by
  have hM : rt (max (rt a) (rt b)) = max (rt a) (rt b) := by
    rcases Nat.le_total (rt a) (rt b) with q | q
    · rw [Nat.max_eq_right q]; exact uf_rr h hb
    · rw [Nat.max_eq_left q]; exact uf_rr h ha
  have hm : rt (min (rt a) (rt b)) = min (rt a) (rt b) := by
    rcases Nat.le_total (rt a) (rt b) with q | q
    · rw [Nat.min_eq_left q]; exact uf_rr h ha
    · rw [Nat.min_eq_right q]; exact uf_rr h hb
  have hgm : g (min (rt a) (rt b)) = min (rt a) (rt b) := by
    rcases Nat.le_total (rt a) (rt b) with q | q
    · rw [Nat.min_eq_left q]; exact (h a ha).2.2.2.2
    · rw [Nat.min_eq_right q]; exact (h b hb).2.2.2.2
  have hle : min (rt a) (rt b) ≤ max (rt a) (rt b) := by omega
  have hmr : ∀ r, mrg rt a b r = if rt r = max (rt a) (rt b) then min (rt a) (rt b) else rt r := fun _ => rfl
  generalize mrg rt a b = rt' at hmr ⊢
  generalize max (rt a) (rt b) = M at hM hle hmr ⊢
  generalize min (rt a) (rt b) = m at hm hgm hle hmr ⊢
  intro s hs
  obtain ⟨h1, h2, h3, h4, h5⟩ := h s hs
  have hrm : rt' m = m := by
    rw [hmr, hm]
    split
    · rfl
    · rfl
  have hrM : rt' M = m := by rw [hmr, if_pos hM]
  refine ⟨?_, ?_, ?_, ?_, ?_⟩
  · unfold updN
    split
    · omega
    · exact h1
  · rw [hmr]
    split
    · omega
    · exact h2
  · by_cases e : s = M
    · rw [e, updN_s, hrm, hrM]
    · rw [updN_n _ _ e, hmr, hmr, h3]
  · by_cases e : s = M
    · rw [e, updN_s, hrM]
      exact fun q => q
    · rw [updN_n _ _ e, hmr]
      intro q
      rw [if_neg (by rw [h4 q]; exact e), h4 q]
  · rw [hmr s]
    split
    · unfold updN
      split
      · rfl
      · exact hgm
    · next e => rw [updN_n _ _ e, h5]
/-- the heads are those of what the pairs of P join -/
def okc (n : Nat) (rt : Nat → Nat) (P : Nat → Nat → Prop) : Prop := (∀ a b, P a b → a < n ∧ b < n) ∧ ∀ r s, r < n → s < n → (rt r = rt s ↔ cnx P r s)
theorem okc_iff {n : Nat} {rt : Nat → Nat} {P P' : Nat → Nat → Prop} (h : okc n rt P) (hP : ∀ a b, P a b ↔ P' a b) : okc n rt P' := by
  have e : P = P' := funext fun a => funext fun b => propext (hP a b)
  rw [← e]
  exact h
theorem okc_0 (n : Nat) : okc n (fun r => r) (fun _ _ => False) :=
  ⟨fun _ _ q => q.elim, fun r s _ _ => ⟨fun q => by rw [show r = s from q]; exact cnx_rf _ _, fun q => q (fun a b => a = b) (fun _ => rfl) (fun _ _ e => e.symm) (fun _ _ _ e e' => e.trans e') (fun _ _ q => q.elim)⟩⟩
theorem uf_0 (n : Nat) : uf n (fun r => r) (fun r => r) := fun r _ => ⟨Nat.le_refl _, Nat.le_refl _, rfl, fun q => q, rfl⟩
theorem okc_mrg {n : Nat} {rt : Nat → Nat} {P : Nat → Nat → Prop} (h : okc n rt P) {a b : Nat} (ha : a < n) (hb : b < n) : okc n (mrg rt a b) (fun x y => P x y ∨ (x = a ∧ y = b)) := by
  obtain ⟨h1, h2⟩ := h
  refine ⟨fun x y q => ?_, fun r s hr hs => ⟨fun q => ?_, fun q => ?_⟩⟩
  · rcases q with q | ⟨rfl, rfl⟩
    · exact h1 _ _ q
    · exact ⟨ha, hb⟩
  · have up : ∀ x y, x < n → y < n → rt x = rt y → cnx (fun x y => P x y ∨ (x = a ∧ y = b)) x y := fun x y hx hy e => cnx_mono (fun _ _ q => cnx_of (Or.inl q)) ((h2 x y hx hy).mp e)
    have hab : cnx (fun x y => P x y ∨ (x = a ∧ y = b)) a b := cnx_of (Or.inr ⟨rfl, rfl⟩)
    have toA : ∀ x, x < n → (rt x = max (rt a) (rt b) ∨ rt x = min (rt a) (rt b)) → cnx (fun x y => P x y ∨ (x = a ∧ y = b)) x a := by
      intro x hx e
      have : rt x = rt a ∨ rt x = rt b := by omega
      rcases this with e | e
      · exact up _ _ hx ha e
      · exact cnx_tr (up _ _ hx hb e) (cnx_sy hab)
    unfold mrg at q
    by_cases c1 : rt r = max (rt a) (rt b)
    · rw [if_pos c1] at q
      by_cases c2 : rt s = max (rt a) (rt b)
      · exact cnx_tr (toA r hr (Or.inl c1)) (cnx_sy (toA s hs (Or.inl c2)))
      · rw [if_neg c2] at q
        exact cnx_tr (toA r hr (Or.inl c1)) (cnx_sy (toA s hs (Or.inr q.symm)))
    · rw [if_neg c1] at q
      by_cases c2 : rt s = max (rt a) (rt b)
      · rw [if_pos c2] at q
        exact cnx_tr (toA r hr (Or.inr q)) (cnx_sy (toA s hs (Or.inl c2)))
      · rw [if_neg c2] at q
        exact up _ _ hr hs q
  · have hq := cnx_ind q (fun x y => x = y ∨ (x < n ∧ y < n ∧ mrg rt a b x = mrg rt a b y)) (fun _ => Or.inl rfl) (fun x y e => by
        rcases e with e | ⟨e1, e2, e3⟩
        · exact Or.inl e.symm
        · exact Or.inr ⟨e2, e1, e3.symm⟩) (fun x y z e e' => by
        rcases e with e | ⟨e1, e2, e3⟩
        · rw [e]; exact e'
        · rcases e' with e' | ⟨f1, f2, f3⟩
          · rw [← e']; exact Or.inr ⟨e1, e2, e3⟩
          · exact Or.inr ⟨e1, f2, e3.trans f3⟩) (fun x y e => by
        rcases e with e | ⟨rfl, rfl⟩
        · obtain ⟨e1, e2⟩ := h1 _ _ e
          refine Or.inr ⟨e1, e2, ?_⟩
          unfold mrg
          rw [(h2 x y e1 e2).mpr (cnx_of e)]
        · refine Or.inr ⟨ha, hb, ?_⟩
          unfold mrg
          rcases Nat.le_total (rt x) (rt y) with c | c
          · rw [Nat.max_eq_right c, Nat.min_eq_left c, if_pos rfl]
            split
            · rfl
            · rfl
          · rw [Nat.max_eq_left c, Nat.min_eq_right c, if_pos rfl]
            split
            · rfl
            · rfl)
    rcases hq with e | e
    · rw [e]
    · exact e.2.2
set_option maxRecDepth 20000 in
theorem c_pa_headOf (l : Launch) (h : hp_H) (a n r : Nat) (g rt : Nat → Nat) (hn : n ≤ 2048) (hr : r < n) (hu : uf n g rt) (ha : h[a]? = some (NA 2048 g)) :
    hp_M l Y_pa_headOf [.int (nI r), .ref a] h false 0 0 (hq_P (.inl (some (.int (nI (rt r))))) (h.set a (NA 2048 (updN g r (rt r))))) := by
  refine hp_start (T := T_pa_headOf) (by decide) rfl (fun σ => Nat.le_of_ble_eq_true rfl) (fun G C => ?_)
  have key : ∀ (m s t : Nat), s ≤ m → t + s ≤ r → rt s = rt r → hp_W G 4 [(0, .int (nI r)), (1, .ref a), (2, .int (nI s)), (3, .int (nI t))] [] h true 0 0 := by
    intro m
    induction m with
    | zero =>
      intro s t h1 h2 h3
      have e : s = 0 := by omega
      subst e
      obtain ⟨u1, u2, u3, u4, u5⟩ := hu 0 (by omega)
      refine hp_run_sound hp_co V_pa_headOf C (fun _ _ _ _ _ _ _ hq => hq) [4] 20 _ _ _ _ _ _ _ ?_
      refine And.intro (fun c => absurd c (nI_ge (b := 2048) (by omega) (by decide))) (fun c => ?_)
      refine Exists.intro .int (Exists.intro 2048 (Exists.intro _ (And.intro (Or.inl rfl) (And.intro ha (And.intro (in_nI (by omega) (by decide)) ?_)))))
      rw [nI_clamp (by omega)]
      refine And.intro (fun c => ?_) (fun c => absurd (by rw [show g 0 = 0 by omega]) c)
      refine Exists.intro 2048 (Exists.intro _ (And.intro ha (And.intro (in_nI (by omega) (by decide)) ?_)))
      rw [nI_clamp (by omega), upd_nI]
      have e2 : rt r = 0 := by omega
      rw [e2]
      exact And.intro rfl (And.intro rfl (And.intro rfl rfl))
    | succ m ih =>
      intro s t h1 h2 h3
      obtain ⟨u1, u2, u3, u4, u5⟩ := hu s (by omega)
      refine hp_run_sound hp_co V_pa_headOf C (fun _ _ _ _ _ _ _ hq => hq) [4] 20 _ _ _ _ _ _ _ ?_
      refine And.intro (fun c => absurd c (nI_ge (b := 2048) (by omega) (by decide))) (fun c => ?_)
      refine Exists.intro .int (Exists.intro 2048 (Exists.intro _ (And.intro (Or.inl rfl) (And.intro ha (And.intro (in_nI (by omega) (by decide)) ?_)))))
      rw [nI_clamp (by omega)]
      refine And.intro (fun c => ?_) (fun c => ?_)
      · have e : g s = s := (nI_eq (by omega) (by omega)).mp c
        refine Exists.intro 2048 (Exists.intro _ (And.intro ha (And.intro (in_nI (by omega) (by decide)) ?_)))
        rw [nI_clamp (by omega), upd_nI]
        have e2 : rt r = s := by rw [← h3]; exact u4 e
        rw [e2]
        exact And.intro rfl (And.intro rfl (And.intro rfl rfl))
      · have e : g s ≠ s := fun q => c (by rw [q])
        refine Exists.intro .int (Exists.intro 2048 (Exists.intro _ (And.intro (Or.inl rfl) (And.intro ha (And.intro (in_nI (by omega) (by decide)) ?_)))))
        rw [nI_clamp (by omega)]
        have hW := ih (g s) (t + 1) (by omega) (by omega) (by rw [u3, h3])
        rw [← nI_1 t] at hW
        exact hW
  refine hp_run_sound hp_co V_pa_headOf C (fun _ _ _ _ _ _ _ hq => hq) [4] 8 _ _ _ _ _ _ _ ?_
  exact key r r 0 (Nat.le_refl _) (by omega) rfl
theorem nI_max {a b : Nat} (ha : a < 2 ^ 31) (hb : b < 2 ^ 31) : (if nI b ≤ nI a then nI a else nI b) = nI (max a b) := by
  by_cases q : b ≤ a
  · rw [if_pos ((nI_leI hb ha).mpr q), Nat.max_eq_left q]
  · rw [if_neg (fun c => q ((nI_leI hb ha).mp c)), Nat.max_eq_right (by omega)]
theorem nI_min {a b : Nat} (ha : a < 2 ^ 31) (hb : b < 2 ^ 31) : (if nI a ≤ nI b then nI a else nI b) = nI (min a b) := by
  by_cases q : a ≤ b
  · rw [if_pos ((nI_leI ha hb).mpr q), Nat.min_eq_left q]
  · rw [if_neg (fun c => q ((nI_leI ha hb).mp c)), Nat.min_eq_right (by omega)]
set_option maxRecDepth 20000 in
theorem c_pa_join (l : Launch) (h : hp_H) (a n r s : Nat) (g rt : Nat → Nat) (hn : n ≤ 2048) (hr : r < n) (hs : s < n) (hu : uf n g rt) (ha : h[a]? = some (NA 2048 g)) :
    hp_M l Y_pa_join [.int (nI r), .int (nI s), .ref a] h false 0 0 (fun q h' => q = .inl none ∧ ∃ g', h' = h.set a (NA 2048 g') ∧ uf n g' (mrg rt r s)) := by
  refine hp_start (T := T_pa_join) (by decide) rfl (fun σ => Nat.le_of_ble_eq_true rfl) (fun G C => ?_)
  have hu1 := uf_short hu hr
  have hu2 := uf_short hu1 hs
  have b1 := (hu r hr).2.1
  have b2 := (hu s hs).2.1
  refine hp_run_sound hp_co V_pa_join C (fun _ _ _ _ _ _ _ hq => hq) [] 20 _ _ _ _ _ _ _ ?_
  refine ic_P (c_pa_headOf l h a n r g rt hn hr hu ha) (Nat.le_refl _) (Nat.le_refl _) ?_
  refine ic_P (c_pa_headOf l _ a n s _ rt hn hs hu1 (hq_get ha)) (Nat.le_refl _) (Nat.le_refl _) ?_
  refine ic_P (M_swap (c_jm_max l _ _ _)) (Nat.le_refl _) (Nat.le_refl _) ?_
  refine ic_P (M_swap (c_jm_min l _ _ _)) (Nat.le_refl _) (Nat.le_refl _) ?_
  rw [nI_max (by omega) (by omega), nI_min (by omega) (by omega), hq_set]
  refine Exists.intro 2048 (Exists.intro _ (And.intro (hq_get ha) (And.intro (in_nI (by omega) (by decide)) ?_)))
  rw [nI_clamp (by omega), upd_nI, hq_set]
  exact And.intro rfl (And.intro rfl (And.intro rfl ⟨_, rfl, uf_mrg hu2 hr hs⟩))
end
section
/-! Parts: joinContact -/
theorem xlow_p {x : Int64} (h : x ≠ 0) : nn (xlow x) = 2 ^ xfp x := by
  have h0 : nn x ≠ 0 := fun e => h (nn_inj e)
  obtain ⟨p, u, hn⟩ := low_of (nn x) h0
  have hp : xfp x = p := by
    refine xfp_is ?_ ?_ ?_
    · exact (low_lt (u := u) (by rw [← hn]; exact nn_lt x)).1
    · rw [← nn_bit, hn, tb_low]; simp
    · intro i hi
      rw [← nn_bit, hn, tb_low]
      have : ¬ p ≤ i := by omega
      simp [this]
  rw [nn_xlow, low_and hn (nn_lt x), hp]
theorem bb_xlow {x : Int64} (h : x ≠ 0) (i : Nat) : bb (xlow x) i = decide (xfp x = i) := by
  rw [← nn_bit, xlow_p h, Nat.testBit_two_pow]
theorem bb_xlow1 {x : Int64} (h : x ≠ 0) {i : Nat} (hi : i < 64) : bb (xlow x - 1) i = decide (i < xfp x) := by
  have hl := (xfp_spec h).1
  rw [← nn_bit, nn_sub, xlow_p h, nn_1]
  have hp := Nat.two_pow_pos (xfp x)
  have hp3 : 2 ^ xfp x < 2 ^ 64 := Nat.pow_lt_pow_right (by decide) hl
  have e1 : 2 ^ 64 - 1 + 2 ^ xfp x = (2 ^ xfp x - 1) + 2 ^ 64 := by omega
  rw [e1, Nat.add_mod_right, Nat.mod_eq_of_lt (by omega), Nat.testBit_two_pow_sub_one]
theorem bb_upto {x : Int64} (h : x ≠ 0) {i : Nat} (hi : i < 64) : bb (xlow x ||| (xlow x - 1)) i = decide (i ≤ xfp x) := by
  rw [bb_or, bb_xlow h, bb_xlow1 h hi]
  by_cases q : i ≤ xfp x
  · rw [decide_eq_true q]
    rcases Nat.lt_or_ge i (xfp x) with c | c
    · rw [decide_eq_true c, Bool.or_true]
    · rw [decide_eq_true (show xfp x = i by omega), Bool.true_or]
  · rw [decide_eq_false q, decide_eq_false (by omega), decide_eq_false (by omega)]
    rfl
theorem xor_xlow (x : Int64) : x ^^^ xlow x = xcl x := by
  by_cases h : x = 0
  · subst h; decide
  · refine bb_ext (fun i hi => ?_)
    rw [bb_xor, bb_xlow h, bb_xcl h]
    by_cases e : i = xfp x
    · rw [e, (xfp_spec h).2.1]; simp
    · rw [decide_eq_false (fun q => e q.symm), decide_eq_false e]; simp
theorem cn_cut (f : Nat → Bool) (p : Nat) : ∀ n, p < n → cn (fun i => f i && decide (i ≤ p)) n = cn f (p + 1)
  | 0, h => absurd h (Nat.not_lt_zero _)
  | n + 1, h => by
    rcases Nat.lt_or_ge p n with q | q
    · rw [cn_s, cn_cut f p n q, decide_eq_false (show ¬ n ≤ p by omega), Bool.and_false]
      rfl
    · have e : p = n := by omega
      subst e
      exact cn_congr _ (fun i hi => by rw [decide_eq_true (show i ≤ p by omega), Bool.and_true])
/-- the number of the run that place p lies in -/
def rix (z : Int64) (p : Nat) : Nat := cn (bb (xst z)) (p + 1) - 1
theorem rix_pos (z : Int64) : ∀ p, p < 64 → bb z p = true → 1 ≤ cn (bb (xst z)) (p + 1)
  | 0, hp, h => by
    rw [cn_s, bb_xst z hp, h]
    exact Nat.le_add_left _ _
  | p + 1, hp, h => by
    cases hb : bb z p with
    | true => exact Nat.le_trans (rix_pos z p (by omega) hb) (cn_mono _ (by omega))
    | false =>
      rw [cn_s, bb_xst z hp, h, Nat.add_sub_cancel, hb]
      simp
theorem xit_lt {x : Int64} {k : Nat} (h : k < cn (bb x) 64) : xit x k ≠ 0 ∧ xfp (xit x k) < 64 ∧ bb x (xfp (xit x k)) = true ∧ cn (bb x) (xfp (xit x k)) = k := by
  have ex : ∀ n, n ≤ 64 → k < cn (bb x) n → ∃ p, p < n ∧ bb x p = true ∧ cn (bb x) p = k := by
    intro n
    induction n with
    | zero => intro _ q; exact absurd q (Nat.not_lt_zero _)
    | succ n ih =>
      intro hn q
      rcases Nat.lt_or_ge k (cn (bb x) n) with c | c
      · obtain ⟨p, p1, p2⟩ := ih (by omega) c
        exact ⟨p, by omega, p2⟩
      · rw [cn_s] at q
        cases hb : bb x n with
        | true => rw [hb] at q; exact ⟨n, by omega, hb, by simp at q; omega⟩
        | false => rw [hb] at q; simp at q; omega
  obtain ⟨p, p1, p2, p3⟩ := ex 64 (Nat.le_refl _) h
  have e := xpl_is p1 p2 p3
  refine ⟨fun q => ?_, by rw [e]; exact p1, by rw [e]; exact p2, by rw [e]; exact p3⟩
  have hb := bb_xit x k p p1
  rw [q, bb_0, p2, p3] at hb
  simp at hb
set_option maxRecDepth 20000 in
theorem c_pa_joinContact (l : Launch) (h : hp_H) (a n fb run : Nat) (x z : Int64) (g rt : Nat → Nat) (P : Nat → Nat → Prop) (hn : n ≤ 2048) (hsub : ∀ i, i < 64 → bb x i = true → bb z i = true) (hfb : fb + cn (bb (xst z)) 64 ≤ n) (hrun : run < n) (hu : uf n g rt) (hP : okc n rt P) (ha : h[a]? = some (NA 2048 g)) :
    hp_M l Y_pa_joinContact [.long x, .long z, .int (nI fb), .int (nI run), .ref a] h false 0 0 (fun q h' => q = .inl none ∧ ∃ g' rt', h' = h.set a (NA 2048 g') ∧ uf n g' rt' ∧ okc n rt' (fun u v => P u v ∨ ∃ p, p < 64 ∧ bb (xst x) p = true ∧ u = fb + rix z p ∧ v = run)) := by
  refine hp_start (T := T_pa_joinContact) (by decide) rfl (fun σ => Nat.le_of_ble_eq_true rfl) (fun G C => ?_)
  have key : ∀ (m k : Nat) (g rt : Nat → Nat), k + m = cn (bb (xst x)) 64 → uf n g rt → okc n rt (fun u v => P u v ∨ ∃ p, p < 64 ∧ bb (xst x) p = true ∧ cn (bb (xst x)) p < k ∧ u = fb + rix z p ∧ v = run) →
      hp_W G 13 [(0, .long x), (2, .long z), (4, .int (nI fb)), (5, .int (nI run)), (6, .ref a), (7, .long (xit (xst x) k)), (9, .int (nI m))] [] (h.set a (NA 2048 g)) false 0 0 := by
    intro m
    induction m with
    | zero =>
      intro k g rt hk hu hP
      refine hp_run_sound hp_co V_pa_joinContact C (fun _ _ _ _ _ _ _ hq => hq) [13] 6 _ _ _ _ _ _ _ ?_
      refine And.intro (fun c => ?_) (fun c => absurd (show nI 0 ≤ 0 by decide) c)
      refine And.intro rfl (And.intro rfl (And.intro rfl ⟨g, rt, rfl, hu, okc_iff hP (fun u v => ⟨fun q => ?_, fun q => ?_⟩)⟩))
      · rcases q with q | ⟨p, p1, p2, p3, p4⟩
        · exact Or.inl q
        · exact Or.inr ⟨p, p1, p2, p4⟩
      · rcases q with q | ⟨p, p1, p2, p4⟩
        · exact Or.inl q
        · exact Or.inr ⟨p, p1, p2, by have := cn_in p1 p2; omega, p4⟩
    | succ m ih =>
      intro k g rt hk hu hP
      have hc64 := cn_le (bb (xst x)) 64
      obtain ⟨i1, i2, i3, i4⟩ := xit_lt (x := xst x) (k := k) (by omega)
      have hxp : bb x (xfp (xit (xst x) k)) = true := by
        rw [bb_xst x i2] at i3
        rw [Bool.and_eq_true] at i3
        exact i3.1
      have hzp := hsub _ i2 hxp
      have hpos := rix_pos z _ i2 hzp
      have hup : cn (bb (xst z)) (xfp (xit (xst x) k) + 1) ≤ cn (bb (xst z)) 64 := cn_mono _ (by omega)
      refine hp_run_sound hp_co V_pa_joinContact C (fun _ _ _ _ _ _ _ hq => hq) [13] 60 _ _ _ _ _ _ _ ?_
      refine And.intro (fun c => absurd c (nI_nle (by omega) (by omega))) (fun c => ?_)
      refine ic_P (c_ro_starts l _ _) (Nat.le_refl _) (Nat.le_refl _) ?_
      refine ic_P (c_jl_bitCount l _ _) (Nat.le_refl _) (Nat.le_refl _) ?_
      have e1 : cn (bb (xst z &&& (xlow (xit (xst x) k) ||| (xlow (xit (xst x) k) - 1)))) 64 = cn (bb (xst z)) (xfp (xit (xst x) k) + 1) := by
        rw [← cn_cut _ _ 64 i2]
        exact cn_congr 64 (fun i hi => by rw [bb_and, bb_upto i1 hi])
      have e2 : nI fb + nI (cn (bb (xst z &&& (xlow (xit (xst x) k) ||| (xlow (xit (xst x) k) - 1)))) 64) - 1 = nI (fb + rix z (xfp (xit (xst x) k))) := by
        rw [e1, nI_add]
        unfold rix
        rw [show fb + cn (bb (xst z)) (xfp (xit (xst x) k) + 1) = (fb + (cn (bb (xst z)) (xfp (xit (xst x) k) + 1) - 1)) + 1 by omega, nI_pred]
      have hlt : fb + rix z (xfp (xit (xst x) k)) < n := by unfold rix; omega
      have hM := c_pa_join l (h.set a (NA 2048 g)) a n (fb + rix z (xfp (xit (xst x) k))) run g rt hn hlt hrun hu (hq_get ha)
      rw [← e2] at hM
      refine ic_Q hM (Nat.le_refl _) (Nat.le_refl _) (fun r h' hq => ?_)
      obtain ⟨rfl, g', rfl, hu'⟩ := hq
      rw [hq_set]
      have hP' := okc_mrg hP hlt hrun
      have hW := ih (k + 1) g' _ (by omega) hu' (okc_iff hP' (fun u v => ⟨fun q => ?_, fun q => ?_⟩))
      · refine hp_W_pick [0, 2, 4, 5, 6, 7, 9] ?_
        rw [show xit (xst x) (k + 1) = xit (xst x) k ^^^ xlow (xit (xst x) k) from (xor_xlow _).symm, show nI m = nI (m + 1) + (-1) from (pk_m1 m).symm] at hW
        exact hW
      · rcases q with (q | ⟨p, p1, p2, p3, p4⟩) | ⟨q1, q2⟩
        · exact Or.inl q
        · exact Or.inr ⟨p, p1, p2, by omega, p4⟩
        · exact Or.inr ⟨_, i2, i3, by omega, q1, q2⟩
      · rcases q with q | ⟨p, p1, p2, p3, p4, p5⟩
        · exact Or.inl (Or.inl q)
        · rcases Nat.lt_or_ge (cn (bb (xst x)) p) k with c2 | c2
          · exact Or.inl (Or.inr ⟨p, p1, p2, c2, p4, p5⟩)
          · have e3 := xpl_is p1 p2 (show cn (bb (xst x)) p = k by omega)
            rw [e3]
            exact Or.inr ⟨p4, p5⟩
  have h0 := key (cn (bb (xst x)) 64) 0 g rt (by omega) hu (okc_iff hP (fun u v => ⟨Or.inl, fun q => by
    rcases q with q | ⟨p, p1, p2, p3, p4⟩
    · exact q
    · exact absurd p3 (Nat.not_lt_zero _)⟩))
  rw [hq_self ha] at h0
  refine hp_run_sound hp_co V_pa_joinContact C (fun _ _ _ _ _ _ _ hq => hq) [13] 12 _ _ _ _ _ _ _ ?_
  refine ic_P (c_ro_starts l _ _) (Nat.le_refl _) (Nat.le_refl _) ?_
  refine ic_P (c_jl_bitCount l _ _) (Nat.le_refl _) (Nat.le_refl _) ?_
  exact hp_W_dirty h0
end
section
/-! LAYOUT: 0 the script, 1 the object, 2 its polygons (3 layerOf, 4 corners, 5 xs and 6..21, 22 ys and 23..38, 39 flips), 40 made and 41..64, 65 parts (66 squares, 67 shapeHead, 68 netHead, 69 shapeOf, 70 marked, 71 rowStart), 72 first, 73 second, 74 spare -/
/-- all but these places is as it was -/
def hx (ps : List Nat) (h h' : hp_H) : Prop := h'.length = h.length ∧ ∀ q, q ∉ ps → h'[q]? = h[q]?
theorem hx_rf (ps : List Nat) (h : hp_H) : hx ps h h := ⟨rfl, fun _ _ => rfl⟩
theorem hx_tr {ps qs : List Nat} {h h' h'' : hp_H} (h1 : hx ps h h') (h2 : hx qs h' h'') (rs : List Nat) (hp : ∀ q ∈ ps, q ∈ rs) (hq : ∀ q ∈ qs, q ∈ rs) : hx rs h h'' :=
  ⟨h2.1.trans h1.1, fun q hn => (h2.2 q (fun e => hn (hq q e))).trans (h1.2 q (fun e => hn (hp q e)))⟩
theorem hx_set {ps : List Nat} {h h' : hp_H} (h1 : hx ps h h') {a : Nat} (c : hp_C) (ha : a ∈ ps) : hx ps h (h'.set a c) :=
  ⟨by rw [List.length_set]; exact h1.1, fun q hn => by rw [hq_ne (fun e : a = q => hn (e ▸ ha))]; exact h1.2 q hn⟩
theorem hx_at {ps : List Nat} {h h' : hp_H} (h1 : hx ps h h') {q : Nat} {c : hp_C} (hn : q ∉ ps) (hq : h[q]? = some c) : h'[q]? = some c := (h1.2 q hn).trans hq
/-- a place that holds rows -/
def isR (a : Nat) : Prop := (41 ≤ a ∧ a ≤ 64) ∨ (72 ≤ a ∧ a ≤ 74)
theorem isR_ne {a b : Nat} (ha : isR a) (hb : b < 41 ∨ (65 ≤ b ∧ b < 72) ∨ 75 ≤ b) : a ≠ b := by unfold isR at ha; omega
abbrev PA (rc sc : Nat) : hp_C := .inr (2, [.ref 66, .ref 67, .ref 68, .ref 69, .ref 70, .ref 71, .int (nI rc), .int (nI sc)])
theorem NA_upd (n : Nat) (g : Nat → Nat) (k v : Nat) : NA n (updN g k v) = IA n (upd (fun j => nI (g j)) k (nI v)) := congrArg (IA n) (upd_nI g k v).symm
/-! runs of a row -/
theorem cn_half {f : Nat → Bool} (h : ∀ i, f i = true → f (i + 1) = true → False) : ∀ m, cn f (2 * m) ≤ m
  | 0 => Nat.le_refl _
  | m + 1 => by
    rw [show 2 * (m + 1) = 2 * m + 1 + 1 by omega, cn_s, cn_s]
    have := cn_half h m
    cases h1 : f (2 * m) <;> cases h2 : f (2 * m + 1) <;> first | exact (h _ h1 h2).elim | (simp; omega)
def nr (f : Nat → Int64) (y : Nat) : Nat := cn (bb (xst (f y))) 64
def rs (f : Nat → Int64) : Nat → Nat := sm (nr f)
theorem nr_le (f : Nat → Int64) (y : Nat) : nr f y ≤ 32 := by
  refine cn_half (f := bb (xst (f y))) (fun i h1 h2 => ?_) 32
  rcases Nat.lt_or_ge (i + 1) 64 with q | q
  · rw [bb_xst _ q] at h2
    rw [bb_xst _ (by omega)] at h1
    rw [Bool.and_eq_true] at h1
    rw [Nat.add_sub_cancel, h1.1] at h2
    simp at h2
  · rw [bb_big q] at h2
    cases h2
theorem rs_s (f : Nat → Int64) (y : Nat) : rs f (y + 1) = rs f y + nr f y := rfl
theorem rs_le (f : Nat → Int64) {y : Nat} (h : y ≤ 64) : rs f y ≤ 2048 := Nat.le_trans (sm_mono _ h) (sm_le (nr_le f) 64)
theorem rs_mono (f : Nat → Int64) {a b : Nat} (h : a ≤ b) : rs f a ≤ rs f b := sm_mono _ h
def xlv (x : Int64) : Nat → Int64
  | 0 => x
  | j + 1 => xlv x j ^^^ xfr (xlv x j)
def xrn (x : Int64) (j : Nat) : Int64 := xfr (xlv x j)
theorem nI_bnd {n : Nat} (h : n ≤ 2048) : n < 2 ^ 31 := by omega
set_option maxRecDepth 20000 in
theorem c_pa_cutRuns (l : Launch) (h : hp_H) (a rc sc : Nat) (f s0 : Nat → Int64) (r0 : Nat → Nat) (ha : isR a) (hf : h[a]? = some (LA 64 f)) (hp : h[65]? = some (PA rc sc)) (hs : h[66]? = some (LA 2048 s0)) (hr : h[71]? = some (NA 65 r0)) :
    hp_M l Y_pa_cutRuns [.ref 65, .ref a] h false 0 0 (fun q h' => q = .inl none ∧ hx [65, 66, 71] h h' ∧ h'[65]? = some (PA (rs f 64) sc) ∧ (∃ s, h'[66]? = some (LA 2048 s) ∧ ∀ y j, y < 64 → j < nr f y → s (rs f y + j) = xrn (f y) j) ∧ ∃ r, h'[71]? = some (NA 65 r) ∧ ∀ y, y ≤ 64 → r y = rs f y) := by
  refine hp_start (T := T_pa_cutRuns) (by decide) rfl (fun σ => Nat.le_of_ble_eq_true rfl) (fun G C => ?_)
  have hna : a ∉ [65, 66, 71] := by
    have h1 := isR_ne ha (b := 65) (by omega)
    have h2 := isR_ne ha (b := 66) (by omega)
    have h3 := isR_ne ha (b := 71) (by omega)
    simp [h1, h2, h3]
  have key : ∀ (m i : Nat) (H : hp_H) (s : Nat → Int64) (r : Nat → Nat), i + m = 64 → hx [65, 66, 71] h H → H[65]? = some (PA (rs f i) sc) → H[66]? = some (LA 2048 s) → H[71]? = some (NA 65 r) → (∀ y j, y < i → j < nr f y → s (rs f y + j) = xrn (f y) j) → (∀ y, y < i → r y = rs f y) →
      hp_W G 7 [(0, .ref 65), (1, .ref a), (2, .int (nI i))] [] H false 0 0 := by
    intro m
    induction m with
    | zero =>
      intro i H s r hi h1 h2 h3 h4 h5 h6
      have e : i = 64 := by omega
      subst e
      refine hp_run_sound hp_co V_pa_cutRuns C (fun _ _ _ _ _ _ _ hq => hq) [7] 20 _ _ _ _ _ _ _ ?_
      refine And.intro (fun c => ?_) (fun c => absurd (nI_le (Nat.le_refl 64) (by decide)) c)
      refine Exists.intro _ (And.intro h2 ?_)
      refine Exists.intro _ (And.intro h2 ?_)
      refine Exists.intro 65 (Exists.intro _ (And.intro h4 (And.intro (in_nI (n := 64) (by decide) (by decide)) ?_)))
      rw [show (hp_c 64).toNatClampNeg = 64 from rfl]
      refine And.intro rfl (And.intro rfl (And.intro rfl ⟨hx_set h1 _ (by decide), by rw [hq_ne (by decide)]; exact h2, ⟨s, by rw [hq_ne (by decide)]; exact h3, h5⟩, ?_⟩))
      refine ⟨updN r 64 (rs f 64), ?_, fun y hy => ?_⟩
      · rw [hq_get h4]
        exact congrArg (fun q => some (IA 65 q)) (upd_nI r 64 (rs f 64))
      · by_cases e : y = 64
        · rw [e, updN_s]
        · rw [updN_n _ _ e]; exact h6 y (by omega)
    | succ m ih =>
      intro i H s r hi h1 h2 h3 h4 h5 h6
      have hfi : H[a]? = some (LA 64 f) := hx_at h1 hna hf
      have hb1 := rs_le f (y := i + 1) (by omega)
      have hb2 := rs_s f i
      have hb3 := nr_le f i
      have inner : ∀ (m' j : Nat) (H : hp_H) (s : Nat → Int64) (r : Nat → Nat), j + m' = nr f i → hx [65, 66, 71] h H → H[65]? = some (PA (rs f i) sc) → H[66]? = some (LA 2048 s) → H[71]? = some (NA 65 r) → (∀ y j, y < i → j < nr f y → s (rs f y + j) = xrn (f y) j) → (∀ j', j' < j → s (rs f i + j') = xrn (f i) j') → (∀ y, y < i + 1 → r y = rs f y) →
          hp_W G 50 [(0, .ref 65), (1, .ref a), (2, .int (nI i)), (3, .long (xlv (f i) j)), (5, .int (nI (rs f (i + 1)))), (6, .int (nI (rs f i + j)))] [] H false 0 0 := by
        intro m'
        induction m' with
        | zero =>
          intro j H s r hj h1 h2 h3 h4 h5 h5' h6
          refine hp_run_sound hp_co V_pa_cutRuns C (fun _ _ _ _ _ _ _ hq => hq) [7, 50] 20 _ _ _ _ _ _ _ ?_
          refine And.intro (fun c => ?_) (fun c => absurd (nI_le (by omega) (by omega)) c)
          refine And.intro (Or.inl rfl) (Exists.intro _ (And.intro h2 (And.intro (Nat.le_of_ble_eq_true rfl) (And.intro rfl (And.intro rfl ?_)))))
          have hW := ih (i + 1) (H.set 65 (PA (rs f (i + 1)) sc)) s r (by omega) (hx_set h1 _ (by decide)) (hq_get h2) (by rw [hq_ne (by decide)]; exact h3) (by rw [hq_ne (by decide)]; exact h4) (fun y j' hy hj' => by
            rcases Nat.lt_or_ge y i with q | q
            · exact h5 y j' q hj'
            · have e : y = i := by omega
              subst e
              exact h5' j' (by omega)) h6
          rw [← nI_1 i] at hW
          refine hp_W_pick [0, 1, 2] ?_
          exact hW
        | succ m' im =>
          intro j H s r hj h1 h2 h3 h4 h5 h5' h6
          refine hp_run_sound hp_co V_pa_cutRuns C (fun _ _ _ _ _ _ _ hq => hq) [7, 50] 30 _ _ _ _ _ _ _ ?_
          refine And.intro (fun c => absurd c (nI_ge (by omega) (by omega))) (fun c => ?_)
          refine Exists.intro _ (And.intro h2 ?_)
          refine ic_P (c_ro_firstRun l _ _) (Nat.le_refl _) (Nat.le_refl _) ?_
          refine Exists.intro 2048 (Exists.intro _ (And.intro h3 (And.intro (in_nI (by omega) (by decide)) ?_)))
          refine Exists.intro _ (And.intro (by rw [hq_ne (by decide)]; exact h2) ?_)
          refine Exists.intro 2048 (Exists.intro _ (And.intro (hq_get h3) (And.intro (in_nI (by omega) (by decide)) ?_)))
          rw [nI_clamp (by omega), pk_uLs]
          have hW := im (j + 1) (H.set 66 (LA 2048 (vp_updL s (rs f i + j) (xfr (xlv (f i) j))))) _ r (by omega) (hx_set h1 _ (by decide)) (by rw [hq_ne (by decide)]; exact h2) (hq_get h3) (by rw [hq_ne (by decide)]; exact h4) (fun y j' hy hj' => by
            have q1 := rs_mono f (a := y + 1) (b := i) (by omega)
            rw [rs_s] at q1
            rw [pk_uLn (by omega)]
            exact h5 y j' hy hj') (fun j' hj' => by
            by_cases e : j' = j
            · rw [e, pk_uLs]; rfl
            · rw [pk_uLn (by omega)]
              exact h5' j' (by omega)) h6
          rw [show rs f i + (j + 1) = (rs f i + j) + 1 from rfl, ← nI_1 (rs f i + j)] at hW
          exact hW
      have h0 := inner (nr f i) 0 (H.set 71 (NA 65 (updN r i (rs f i)))) s (updN r i (rs f i)) (by omega) (hx_set h1 _ (by decide)) (by rw [hq_ne (by decide)]; exact h2) (by rw [hq_ne (by decide)]; exact h3) (hq_get h4) h5 (fun j' q => absurd q (Nat.not_lt_zero _)) (fun y hy => by
        by_cases e : y = i
        · rw [e, updN_s]
        · rw [updN_n _ _ e]; exact h6 y (by omega))
      refine hp_run_sound hp_co V_pa_cutRuns C (fun _ _ _ _ _ _ _ hq => hq) [50] 40 _ _ _ _ _ _ _ ?_
      refine And.intro (fun c => absurd c (nI_ge (b := 64) (by omega) (by decide))) (fun c => ?_)
      refine Exists.intro _ (And.intro h2 ?_)
      refine Exists.intro _ (And.intro h2 ?_)
      refine Exists.intro 65 (Exists.intro _ (And.intro h4 (And.intro (in_nI (by omega) (by decide)) ?_)))
      refine Exists.intro 64 (Exists.intro f (And.intro (by rw [hq_ne (fun e => isR_ne ha (b := 71) (by omega) e.symm)]; exact hfi) (And.intro (in64 (by omega)) ?_)))
      refine Exists.intro _ (And.intro (by rw [hq_ne (by decide)]; exact h2) ?_)
      refine ic_P (c_ro_countRuns l _ _) (Nat.le_refl _) (Nat.le_refl _) ?_
      refine ic_P (M_swap (c_jm_min l _ _ _)) (Nat.le_refl _) (Nat.le_refl _) ?_
      refine Exists.intro _ (And.intro (by rw [hq_ne (by decide)]; exact h2) ?_)
      rw [cl64 (show i < 64 by omega)]
      have e1 : (if nI (rs f i) + nI (cn (bb (xst (f i))) 64) ≤ 2048 then nI (rs f i) + nI (cn (bb (xst (f i))) 64) else 2048) = nI (rs f (i + 1)) := by
        rw [nI_add, if_pos]
        · rfl
        · exact nI_le (b := 2048) hb1 (by decide)
      rw [show rs f i + 0 = rs f i from rfl, ← e1, NA_upd] at h0
      exact h0
  have h0 := key 64 0 (h.set 65 (PA 0 sc)) s0 r0 (by omega) (hx_set (hx_rf _ _) _ (by decide)) (hq_get hp) (by rw [hq_ne (by decide)]; exact hs) (by rw [hq_ne (by decide)]; exact hr) (fun y j q => absurd q (Nat.not_lt_zero _)) (fun y q => absurd q (Nat.not_lt_zero _))
  refine hp_run_sound hp_co V_pa_cutRuns C (fun _ _ _ _ _ _ _ hq => hq) [7] 8 _ _ _ _ _ _ _ ?_
  refine And.intro (Or.inl rfl) (Exists.intro _ (And.intro hp (And.intro (Nat.le_of_ble_eq_true rfl) (And.intro rfl (And.intro rfl ?_)))))
  exact h0
end
section
/-! Parts: joinRuns -/
/-- pairs of runs that meet, in rows y-1 and y, y before Y or run before J of Y -/
def jpq (f : Nat → Int64) (d Y J u v : Nat) : Prop := ∃ y j p, (y < Y ∨ (y = Y ∧ j < J)) ∧ 1 ≤ y ∧ y < 64 ∧ j < nr f y ∧ v = rs f y + j ∧ p < 64 ∧ bb (xst (f (y - 1) &&& xwi (xrn (f y) j) d)) p = true ∧ u = rs f (y - 1) + rix (f (y - 1)) p
theorem uf_id {n : Nat} {g : Nat → Nat} (h : ∀ r, r < n → g r = r) : uf n g (fun r => r) := fun r hr => ⟨Nat.le_of_eq (h r hr), Nat.le_refl _, h r hr, fun _ => rfl, h r hr⟩
set_option maxRecDepth 20000 in
theorem c_pa_joinRuns (l : Launch) (h : hp_H) (a b d sc : Nat) (f s : Nat → Int64) (r g0 : Nat → Nat) (hd : d ≤ 64) (ha : isR a) (hb : b = 67 ∨ b = 68) (hf : h[a]? = some (LA 64 f)) (hp : h[65]? = some (PA (rs f 64) sc)) (hs : h[66]? = some (LA 2048 s)) (hr : h[71]? = some (NA 65 r)) (hg : h[b]? = some (NA 2048 g0))
    (hsq : ∀ y j, y < 64 → j < nr f y → s (rs f y + j) = xrn (f y) j) (hrs : ∀ y, y ≤ 64 → r y = rs f y) :
    hp_M l Y_pa_joinRuns [.ref 65, .ref a, .ref b, .int (nI d)] h false 0 0 (fun q h' => q = .inl none ∧ ∃ g, h' = h.set b (NA 2048 g) ∧ (∀ r, r < rs f 64 → g r ≤ r ∧ g (g r) = g r) ∧ okc (rs f 64) g (jpq f d 64 0)) := by
  refine hp_start (T := T_pa_joinRuns) (by decide) rfl (fun σ => Nat.le_of_ble_eq_true rfl) (fun G C => ?_)
  have hba : b ≠ a := by have := isR_ne ha (b := b) (by omega); omega
  have hn := rs_le f (y := 64) (Nat.le_refl _)
  have gp : ∀ g, (h.set b (NA 2048 g))[65]? = some (PA (rs f 64) sc) := fun g => by rw [hq_ne (by omega)]; exact hp
  have gs : ∀ g, (h.set b (NA 2048 g))[66]? = some (LA 2048 s) := fun g => by rw [hq_ne (by omega)]; exact hs
  have gr : ∀ g, (h.set b (NA 2048 g))[71]? = some (NA 65 r) := fun g => by rw [hq_ne (by omega)]; exact hr
  have gf : ∀ g, (h.set b (NA 2048 g))[a]? = some (LA 64 f) := fun g => by rw [hq_ne hba]; exact hf
  have gg : ∀ g, (h.set b (NA 2048 g))[b]? = some (NA 2048 g) := fun g => hq_get hg
  have L3 : ∀ (m i : Nat) (g rt : Nat → Nat), i + m = rs f 64 → uf (rs f 64) g rt → okc (rs f 64) rt (jpq f d 64 0) → (∀ r, r < i → g r = rt r) →
      hp_W G 115 [(0, .ref 65), (1, .ref a), (2, .ref b), (3, .int (nI d)), (4, .int (nI i))] [] (h.set b (NA 2048 g)) false 0 0 := by
    intro m
    induction m with
    | zero =>
      intro i g rt hi hu ho hc
      refine hp_run_sound hp_co V_pa_joinRuns C (fun _ _ _ _ _ _ _ hq => hq) [115] 20 _ _ _ _ _ _ _ ?_
      refine Exists.intro _ (And.intro (gp g) ?_)
      refine And.intro (fun c => ?_) (fun c => absurd (nI_le (by omega) (by omega)) c)
      refine And.intro rfl (And.intro rfl (And.intro rfl ⟨g, rfl, fun r hr => ?_, ?_⟩))
      · rw [hc r (by omega)]
        exact ⟨(hu r hr).2.1, (hu r hr).2.2.2.2⟩
      · refine ⟨ho.1, fun x y hx hy => ?_⟩
        rw [hc x (by omega), hc y (by omega)]
        exact ho.2 x y hx hy
    | succ m ih =>
      intro i g rt hi hu ho hc
      obtain ⟨u1, u2, u3, u4, u5⟩ := hu i (by omega)
      refine hp_run_sound hp_co V_pa_joinRuns C (fun _ _ _ _ _ _ _ hq => hq) [115] 20 _ _ _ _ _ _ _ ?_
      refine Exists.intro _ (And.intro (gp g) ?_)
      refine And.intro (fun c => absurd c (nI_ge (by omega) (by omega))) (fun c => ?_)
      refine Exists.intro .int (Exists.intro 2048 (Exists.intro _ (And.intro (Or.inl rfl) (And.intro (gg g) (And.intro (in_nI (by omega) (by decide)) ?_)))))
      rw [nI_clamp (by omega)]
      refine Exists.intro .int (Exists.intro 2048 (Exists.intro _ (And.intro (Or.inl rfl) (And.intro (gg g) (And.intro (in_nI (by omega) (by decide)) ?_)))))
      rw [nI_clamp (by omega)]
      refine Exists.intro 2048 (Exists.intro _ (And.intro (gg g) (And.intro (in_nI (by omega) (by decide)) ?_)))
      rw [nI_clamp (by omega), hq_set]
      have e : g (g i) = rt i := by
        rcases Nat.lt_or_ge (g i) i with q | q
        · rw [hc _ q, u3]
        · have e1 : g i = i := by omega
          rw [e1, e1, u4 e1]
      have hW := ih (i + 1) (updN g i (rt i)) rt (by omega) (uf_short hu (by omega)) ho (fun r hr => by
        by_cases q : r = i
        · rw [q, updN_s]
        · rw [updN_n _ _ q]; exact hc r (by omega))
      rw [← nI_1 i, NA_upd, ← e] at hW
      exact hW
  have L2 : ∀ (m y : Nat) (g rt : Nat → Nat), y + m = 64 → 1 ≤ y → uf (rs f 64) g rt → okc (rs f 64) rt (jpq f d y 0) →
      hp_W G 27 [(0, .ref 65), (1, .ref a), (2, .ref b), (3, .int (nI d)), (4, .int (nI y))] [] (h.set b (NA 2048 g)) false 0 0 := by
    intro m
    induction m with
    | zero =>
      intro y g rt hy hy1 hu ho
      have e : y = 64 := by omega
      subst e
      refine hp_run_sound hp_co V_pa_joinRuns C (fun _ _ _ _ _ _ _ hq => hq) [115] 20 _ _ _ _ _ _ _ ?_
      refine And.intro (fun c => ?_) (fun c => absurd (nI_le (Nat.le_refl 64) (by decide)) c)
      exact L3 (rs f 64) 0 g rt (by omega) hu ho (fun r q => absurd q (Nat.not_lt_zero _))
    | succ m ih =>
      intro y g rt hy hy1 hu ho
      have b1 := rs_s f y
      have b2 := rs_mono f (a := y + 1) (b := 64) (by omega)
      have inner : ∀ (m' j : Nat) (g rt : Nat → Nat), j + m' = nr f y → uf (rs f 64) g rt → okc (rs f 64) rt (jpq f d y j) →
          hp_W G 43 [(0, .ref 65), (1, .ref a), (2, .ref b), (3, .int (nI d)), (4, .int (nI y)), (5, .int (nI (rs f y + j)))] [] (h.set b (NA 2048 g)) false 0 0 := by
        intro m'
        induction m' with
        | zero =>
          intro j g rt hj hu ho
          refine hp_run_sound hp_co V_pa_joinRuns C (fun _ _ _ _ _ _ _ hq => hq) [27] 20 _ _ _ _ _ _ _ ?_
          refine Exists.intro _ (And.intro (gp g) ?_)
          refine Exists.intro .int (Exists.intro 65 (Exists.intro _ (And.intro (Or.inl rfl) (And.intro (gr g) (And.intro (by rw [show nI y + hp_c 1 = nI (y + 1) from nI_1 y]; exact in_nI (by omega) (by decide)) ?_)))))
          rw [show nI y + hp_c 1 = nI (y + 1) from nI_1 y, nI_clamp (by omega), hrs (y + 1) (by omega)]
          refine And.intro (fun c => ?_) (fun c => absurd (nI_le (by omega) (by omega)) c)
          have hW := ih (y + 1) g rt (by omega) (by omega) hu (okc_iff ho (fun u v => ⟨fun q => ?_, fun q => ?_⟩))
          · rw [← nI_1 y] at hW
            refine hp_W_pick [0, 1, 2, 3, 4] ?_
            exact hW
          · obtain ⟨y', j', p, q1, q2⟩ := q
            exact ⟨y', j', p, Or.inl (by omega), q2⟩
          · obtain ⟨y', j', p, q1, q2, q3, q4, q5⟩ := q
            refine ⟨y', j', p, ?_, q2, q3, q4, q5⟩
            rcases Nat.lt_or_ge y' y with c1 | c1
            · exact Or.inl c1
            · have e : y' = y := by omega
              subst e
              exact Or.inr ⟨rfl, by omega⟩
        | succ m' im =>
          intro j g rt hj hu ho
          refine hp_run_sound hp_co V_pa_joinRuns C (fun _ _ _ _ _ _ _ hq => hq) [43] 50 _ _ _ _ _ _ _ ?_
          refine Exists.intro _ (And.intro (gp g) ?_)
          refine Exists.intro .int (Exists.intro 65 (Exists.intro _ (And.intro (Or.inl rfl) (And.intro (gr g) (And.intro (by rw [show nI y + hp_c 1 = nI (y + 1) from nI_1 y]; exact in_nI (by omega) (by decide)) ?_)))))
          rw [show nI y + hp_c 1 = nI (y + 1) from nI_1 y, nI_clamp (show y + 1 < 2 ^ 31 by omega), hrs (y + 1) (by omega)]
          refine And.intro (fun c => absurd c (nI_ge (by omega) (by omega))) (fun c => ?_)
          have ey : nI y - hp_c 1 = nI (y - 1) := pk_sub (b := 1) hy1
          refine Exists.intro 64 (Exists.intro f (And.intro (gf g) (And.intro (by rw [ey]; exact in64 (by omega)) ?_)))
          refine Exists.intro _ (And.intro (gp g) ?_)
          refine Exists.intro 2048 (Exists.intro s (And.intro (gs g) (And.intro (in_nI (by omega) (by decide)) ?_)))
          refine ic_P (c_ro_widened l _ _ d hd) (Nat.le_refl _) (Nat.le_refl _) ?_
          refine Exists.intro 64 (Exists.intro f (And.intro (gf g) (And.intro (by rw [ey]; exact in64 (by omega)) ?_)))
          refine Exists.intro _ (And.intro (gp g) ?_)
          refine Exists.intro .int (Exists.intro 65 (Exists.intro _ (And.intro (Or.inl rfl) (And.intro (gr g) (And.intro (by rw [ey]; exact in_nI (by omega) (by decide)) ?_)))))
          rw [ey, nI_clamp (show y - 1 < 2 ^ 31 by omega), nI_clamp (show rs f y + j < 2 ^ 31 by omega), hrs (y - 1) (by omega), hsq y j (by omega) (by omega)]
          have b3 : rs f y = rs f (y - 1) + nr f (y - 1) := by rw [← rs_s, show y - 1 + 1 = y by omega]
          refine ic_Q (c_pa_joinContact l (h.set b (NA 2048 g)) b (rs f 64) (rs f (y - 1)) (rs f y + j) (f (y - 1) &&& xwi (xrn (f y) j) d) (f (y - 1)) g rt (jpq f d y j) hn (fun i hi q => by rw [bb_and, Bool.and_eq_true] at q; exact q.1) (by show rs f (y - 1) + nr f (y - 1) ≤ _; omega) (by omega) hu ho (gg g)) (Nat.le_refl _) (Nat.le_refl _) (fun q h' hq => ?_)
          obtain ⟨rfl, g', rt', rfl, hu', ho'⟩ := hq
          rw [hq_set]
          have hW := im (j + 1) g' rt' (by omega) hu' (okc_iff ho' (fun u v => ⟨fun q => ?_, fun q => ?_⟩))
          · rw [show rs f y + (j + 1) = (rs f y + j) + 1 from rfl, ← nI_1 (rs f y + j)] at hW
            refine hp_W_pick [0, 1, 2, 3, 4, 5] ?_
            exact hW
          · rcases q with ⟨y', j', p, q1, q2⟩ | ⟨p, p1, p2, p3, p4⟩
            · refine ⟨y', j', p, ?_, q2⟩
              omega
            · exact ⟨y, j, p, Or.inr ⟨rfl, by omega⟩, hy1, by omega, by omega, p4, p1, p2, p3⟩
          · obtain ⟨y', j', p, q1, q2, q3, q4, q5, q6, q7, q8⟩ := q
            by_cases c1 : y' < y ∨ (y' = y ∧ j' < j)
            · exact Or.inl ⟨y', j', p, c1, q2, q3, q4, q5, q6, q7, q8⟩
            · have e1 : y' = y := by omega
              have e2 : j' = j := by omega
              subst e1
              subst e2
              exact Or.inr ⟨p, q6, q7, q8, q5⟩
      refine hp_run_sound hp_co V_pa_joinRuns C (fun _ _ _ _ _ _ _ hq => hq) [43] 20 _ _ _ _ _ _ _ ?_
      refine And.intro (fun c => absurd c (nI_ge (b := 64) (by omega) (by decide))) (fun c => ?_)
      refine Exists.intro _ (And.intro (gp g) ?_)
      refine Exists.intro .int (Exists.intro 65 (Exists.intro _ (And.intro (Or.inl rfl) (And.intro (gr g) (And.intro (in_nI (by omega) (by decide)) ?_)))))
      rw [nI_clamp (show y < 2 ^ 31 by omega), hrs y (by omega)]
      exact inner (nr f y) 0 g rt (by omega) hu ho
  have L1 : ∀ (m i : Nat) (g : Nat → Nat), i + m = rs f 64 → (∀ r, r < i → g r = r) →
      hp_W G 3 [(0, .ref 65), (1, .ref a), (2, .ref b), (3, .int (nI d)), (4, .int (nI i))] [] (h.set b (NA 2048 g)) false 0 0 := by
    intro m
    induction m with
    | zero =>
      intro i g hi hc
      refine hp_run_sound hp_co V_pa_joinRuns C (fun _ _ _ _ _ _ _ hq => hq) [27] 20 _ _ _ _ _ _ _ ?_
      refine Exists.intro _ (And.intro (gp g) ?_)
      refine And.intro (fun c => ?_) (fun c => absurd (nI_le (by omega) (by omega)) c)
      refine L2 63 1 g (fun r => r) (by omega) (by omega) (uf_id (fun r hr => hc r (by omega))) (okc_iff (okc_0 _) (fun u v => ⟨fun q => q.elim, fun q => ?_⟩))
      obtain ⟨y', j', p, q1, q2, q3, q4, q5⟩ := q
      omega
    | succ m ih =>
      intro i g hi hc
      refine hp_run_sound hp_co V_pa_joinRuns C (fun _ _ _ _ _ _ _ hq => hq) [3] 20 _ _ _ _ _ _ _ ?_
      refine Exists.intro _ (And.intro (gp g) ?_)
      refine And.intro (fun c => absurd c (nI_ge (by omega) (by omega))) (fun c => ?_)
      refine Exists.intro 2048 (Exists.intro _ (And.intro (gg g) (And.intro (in_nI (by omega) (by decide)) ?_)))
      rw [nI_clamp (by omega), hq_set]
      have hW := ih (i + 1) (updN g i i) (by omega) (fun r hr => by
        by_cases q : r = i
        · rw [q, updN_s]
        · rw [updN_n _ _ q]; exact hc r (by omega))
      rw [← nI_1 i, NA_upd] at hW
      exact hW
  have h0 := L1 (rs f 64) 0 g0 (by omega) (fun r q => absurd q (Nat.not_lt_zero _))
  rw [hq_self hg] at h0
  refine hp_run_sound hp_co V_pa_joinRuns C (fun _ _ _ _ _ _ _ hq => hq) [3] 8 _ _ _ _ _ _ _ ?_
  exact hp_W_dirty h0
end
section
/-! Parts: findShapes, findNets -/
def hdb (g : Nat → Nat) (r : Nat) : Bool := decide (g r = r)
/-- the parts as findShapes leaves them: squares, heads, shapes, rows' starts -/
def fS (f : Nat → Int64) (h : hp_H) (g o : Nat → Nat) : Prop := ∃ s r, h[65]? = some (PA (rs f 64) (cn (hdb g) (rs f 64))) ∧ h[66]? = some (LA 2048 s) ∧ h[67]? = some (NA 2048 g) ∧ h[69]? = some (NA 2048 o) ∧ h[71]? = some (NA 65 r) ∧
  (∀ y j, y < 64 → j < nr f y → s (rs f y + j) = xrn (f y) j) ∧ (∀ y, y ≤ 64 → r y = rs f y) ∧ (∀ r, r < rs f 64 → g r ≤ r ∧ g (g r) = g r) ∧ okc (rs f 64) g (jpq f 0 64 0) ∧ ∀ r, r < rs f 64 → o r = cn (hdb g) (g r)
theorem fS_hx {f : Nat → Int64} {h h' : hp_H} {g o : Nat → Nat} {ps : List Nat} (hS : fS f h g o) (hH : hx ps h h') (h1 : 65 ∉ ps) (h2 : 66 ∉ ps) (h3 : 67 ∉ ps) (h4 : 69 ∉ ps) (h5 : 71 ∉ ps) : fS f h' g o := by
  obtain ⟨s, r, a1, a2, a3, a4, a5, a6⟩ := hS
  exact ⟨s, r, hx_at hH h1 a1, hx_at hH h2 a2, hx_at hH h3 a3, hx_at hH h4 a4, hx_at hH h5 a5, a6⟩
set_option maxRecDepth 20000 in
theorem c_pa_findShapes (l : Launch) (h : hp_H) (a rc sc : Nat) (f s0 : Nat → Int64) (g0 o0 r0 : Nat → Nat) (ha : isR a) (hf : h[a]? = some (LA 64 f)) (hp : h[65]? = some (PA rc sc)) (hs : h[66]? = some (LA 2048 s0)) (hg : h[67]? = some (NA 2048 g0)) (ho : h[69]? = some (NA 2048 o0)) (hr : h[71]? = some (NA 65 r0)) :
    hp_M l Y_pa_findShapes [.ref 65, .ref a] h false 0 0 (fun q h' => q = .inl none ∧ hx [65, 66, 67, 69, 71] h h' ∧ ∃ g o, fS f h' g o) := by
  refine hp_start (T := T_pa_findShapes) (by decide) rfl (fun σ => Nat.le_of_ble_eq_true rfl) (fun G C => ?_)
  have hn := rs_le f (y := 64) (Nat.le_refl _)
  refine hp_run_sound hp_co V_pa_findShapes C (fun _ _ _ _ _ _ _ hq => hq) [22] 30 _ _ _ _ _ _ _ ?_
  refine And.intro ⟨2, _, hp, rfl⟩ ?_
  refine ic_Q (c_pa_cutRuns l h a rc sc f s0 r0 ha hf hp hs hr) (Nat.le_refl _) (Nat.le_refl _) (fun q h1 hq => ?_)
  obtain ⟨rfl, x1, p1, ⟨s, s1, hsq⟩, ⟨r, r1, hrs⟩⟩ := hq
  have hna : a ∉ [65, 66, 71] := by
    have h1 := isR_ne ha (b := 65) (by omega)
    have h2 := isR_ne ha (b := 66) (by omega)
    have h3 := isR_ne ha (b := 71) (by omega)
    simp [h1, h2, h3]
  refine Exists.intro _ (And.intro p1 ?_)
  refine And.intro ⟨2, _, p1, rfl⟩ ?_
  refine ic_Q (c_pa_joinRuns l h1 a 67 0 sc f s r g0 (by decide) ha (Or.inl rfl) (hx_at x1 hna hf) p1 s1 r1 (hx_at x1 (by decide) hg) hsq hrs) (Nat.le_refl _) (Nat.le_refl _) (fun q h2 hq => ?_)
  obtain ⟨rfl, g, rfl, hgg, hok⟩ := hq
  refine And.intro (Or.inl rfl) (Exists.intro _ (And.intro (by rw [hq_ne (by decide)]; exact p1) (And.intro (Nat.le_of_ble_eq_true rfl) (And.intro rfl (And.intro rfl ?_)))))
  have g67 : (h1.set 67 (NA 2048 g))[67]? = some (NA 2048 g) := hq_get (hx_at x1 (by decide) hg)
  have p65 : (h1.set 67 (NA 2048 g))[65]? = some (PA (rs f 64) sc) := by rw [hq_ne (by decide)]; exact p1
  have s66 : (h1.set 67 (NA 2048 g))[66]? = some (LA 2048 s) := by rw [hq_ne (by decide)]; exact s1
  have o69 : (h1.set 67 (NA 2048 g))[69]? = some (NA 2048 o0) := by rw [hq_ne (by decide)]; exact hx_at x1 (by decide) ho
  have r71 : (h1.set 67 (NA 2048 g))[71]? = some (NA 65 r) := by rw [hq_ne (by decide)]; exact r1
  have x2 : hx [65, 66, 67, 69, 71] h (h1.set 67 (NA 2048 g)) := hx_set (hx_tr x1 (hx_rf [] h1) _ (by decide) (by decide)) _ (by decide)
  generalize h1.set 67 (NA 2048 g) = h2 at g67 p65 s66 o69 r71 x2 ⊢
  have key : ∀ (m i : Nat) (H : hp_H) (o : Nat → Nat), i + m = rs f 64 → hx [65, 69] h2 H → H[65]? = some (PA (rs f 64) (cn (hdb g) i)) → H[69]? = some (NA 2048 o) → (∀ r, r < i → o r = cn (hdb g) (g r)) →
      hp_W G 22 [(0, .ref 65), (1, .ref a), (2, .int (nI i))] [] H false 0 0 := by
    intro m
    induction m with
    | zero =>
      intro i H o hi x3 p3 o3 hoo
      have e : i = rs f 64 := by omega
      subst e
      refine hp_run_sound hp_co V_pa_findShapes C (fun _ _ _ _ _ _ _ hq => hq) [22] 20 _ _ _ _ _ _ _ ?_
      refine Exists.intro _ (And.intro p3 ?_)
      refine And.intro (fun c => ?_) (fun c => absurd (nI_le (by omega) (by omega)) c)
      refine And.intro rfl (And.intro rfl (And.intro rfl ⟨hx_tr x2 x3 _ (by decide) (by decide), g, o, s, r, p3, hx_at x3 (by decide) s66, hx_at x3 (by decide) g67, o3, hx_at x3 (by decide) r71, hsq, hrs, hgg, hok, hoo⟩))
    | succ m ih =>
      intro i H o hi x3 p3 o3 hoo
      obtain ⟨g1, g2⟩ := hgg i (by omega)
      have gH := hx_at x3 (by decide) g67
      have hc := cn_le (hdb g) i
      refine hp_run_sound hp_co V_pa_findShapes C (fun _ _ _ _ _ _ _ hq => hq) [22] 40 _ _ _ _ _ _ _ ?_
      refine Exists.intro _ (And.intro p3 ?_)
      refine And.intro (fun c => absurd c (nI_ge (by omega) (by omega))) (fun c => ?_)
      refine Exists.intro _ (And.intro p3 ?_)
      refine Exists.intro .int (Exists.intro 2048 (Exists.intro _ (And.intro (Or.inl rfl) (And.intro gH (And.intro (in_nI (by omega) (by decide)) ?_)))))
      rw [nI_clamp (by omega)]
      refine And.intro (fun c => ?_) (fun c => ?_)
      · have e : ¬ g i = i := fun q => c (by rw [q])
        refine Exists.intro _ (And.intro p3 ?_)
        refine Exists.intro _ (And.intro p3 ?_)
        refine Exists.intro _ (And.intro p3 ?_)
        refine Exists.intro .int (Exists.intro 2048 (Exists.intro _ (And.intro (Or.inl rfl) (And.intro gH (And.intro (in_nI (by omega) (by decide)) ?_)))))
        rw [nI_clamp (by omega)]
        refine Exists.intro .int (Exists.intro 2048 (Exists.intro _ (And.intro (Or.inl rfl) (And.intro o3 (And.intro (in_nI (by omega) (by decide)) ?_)))))
        rw [nI_clamp (by omega)]
        refine Exists.intro 2048 (Exists.intro _ (And.intro o3 (And.intro (in_nI (by omega) (by decide)) ?_)))
        rw [nI_clamp (by omega)]
        have hz : cn (hdb g) (i + 1) = cn (hdb g) i := by rw [cn_s]; unfold hdb; rw [decide_eq_false e]; rfl
        have hW := ih (i + 1) (H.set 69 (NA 2048 (updN o i (o (g i))))) _ (by omega) (hx_set x3 _ (by decide)) (by rw [hq_ne (by decide), hz]; exact p3) (hq_get o3) (fun r hr => by
          by_cases q : r = i
          · rw [q, updN_s, hoo (g i) (by omega), g2]
          · rw [updN_n _ _ q]; exact hoo r (by omega))
        rw [← nI_1 i, NA_upd] at hW
        exact hW
      · have e : g i = i := (nI_eq (by omega) (by omega)).mp c
        refine Exists.intro _ (And.intro p3 ?_)
        refine Exists.intro _ (And.intro p3 ?_)
        refine Exists.intro 2048 (Exists.intro _ (And.intro o3 (And.intro (in_nI (by omega) (by decide)) ?_)))
        rw [nI_clamp (by omega)]
        refine Exists.intro _ (And.intro (by rw [hq_ne (by decide)]; exact p3) ?_)
        refine And.intro (Or.inl rfl) (Exists.intro _ (And.intro (by rw [hq_ne (by decide)]; exact p3) (And.intro (Nat.le_of_ble_eq_true rfl) (And.intro rfl (And.intro rfl ?_)))))
        have hz : nI (cn (hdb g) (i + 1)) = nI (cn (hdb g) i) + 1 := by rw [cn_s]; unfold hdb; rw [decide_eq_true e]; exact (nI_1 _).symm
        have hW := ih (i + 1) ((H.set 69 (NA 2048 (updN o i (cn (hdb g) i)))).set 65 (PA (rs f 64) (cn (hdb g) (i + 1)))) (updN o i (cn (hdb g) i)) (by omega) (hx_set (hx_set x3 _ (by decide)) _ (by decide)) (hq_get (by rw [hq_ne (by decide)]; exact p3)) (by rw [hq_ne (by decide)]; exact hq_get o3) (fun r hr => by
          by_cases q : r = i
          · rw [q, updN_s, e]
          · rw [updN_n _ _ q]; exact hoo r (by omega))
        rw [← nI_1 i, NA_upd] at hW
        unfold PA at hW
        rw [hz] at hW
        exact hW
  exact key (rs f 64) 0 (h2.set 65 (PA (rs f 64) 0)) o0 (by omega) (hx_set (hx_rf _ _) _ (by decide)) (hq_get p65) (by rw [hq_ne (by decide)]; exact o69) (fun r q => absurd q (Nat.not_lt_zero _))
set_option maxRecDepth 20000 in
theorem c_pa_findNets (l : Launch) (h : hp_H) (a : Nat) (f : Nat → Int64) (g o g0 : Nat → Nat) (ha : isR a) (hf : h[a]? = some (LA 64 f)) (hS : fS f h g o) (hg : h[68]? = some (NA 2048 g0)) :
    hp_M l Y_pa_findNets [.ref 65, .ref a] h false 0 0 (fun q h' => q = .inl none ∧ ∃ gn, h' = h.set 68 (NA 2048 gn) ∧ (∀ r, r < rs f 64 → gn r ≤ r ∧ gn (gn r) = gn r) ∧ okc (rs f 64) gn (jpq f 1 64 0)) := by
  refine hp_start (T := T_pa_findNets) (by decide) rfl (fun σ => Nat.le_of_ble_eq_true rfl) (fun G C => ?_)
  obtain ⟨s, r, a1, a2, a3, a4, a5, a6, a7, a8⟩ := hS
  refine hp_run_sound hp_co V_pa_findNets C (fun _ _ _ _ _ _ _ hq => hq) [] 30 _ _ _ _ _ _ _ ?_
  refine Exists.intro _ (And.intro a1 ?_)
  refine And.intro ⟨2, _, a1, rfl⟩ ?_
  refine ic_Q (c_pa_joinRuns l h a 68 1 _ f s r g0 (by decide) ha (Or.inr rfl) hf a1 a2 a5 hg a6 a7) (Nat.le_refl _) (Nat.le_refl _) (fun q h2 hq => ?_)
  obtain ⟨rfl, hq⟩ := hq
  exact And.intro rfl (And.intro rfl (And.intro rfl hq))
end
section
/-! Parts: counts and marks -/
set_option maxRecDepth 20000 in
theorem c_pa_countShapes (l : Launch) (h : hp_H) (rc sc : Nat) (hp : h[65]? = some (PA rc sc)) : hp_M l Y_pa_countShapes [.ref 65] h true 0 0 (hq_P (.inl (some (.int (nI sc)))) h) := by
  refine hp_start (T := T_pa_countShapes) (by decide) rfl (fun σ => Nat.le_of_ble_eq_true rfl) (fun G C => ?_)
  refine hp_run_sound hp_co V_pa_countShapes C (fun _ _ _ _ _ _ _ hq => hq) [] 6 _ _ _ _ _ _ _ ?_
  refine Exists.intro _ (And.intro hp ?_)
  exact And.intro rfl (And.intro rfl (And.intro rfl rfl))
set_option maxRecDepth 20000 in
theorem c_pa_countNets (l : Launch) (h : hp_H) (n sc : Nat) (hn : n ≤ 2048) (g : Nat → Nat) (hgn : ∀ r, r < n → g r ≤ r) (hp : h[65]? = some (PA n sc)) (hg : h[68]? = some (NA 2048 g)) : hp_M l Y_pa_countNets [.ref 65] h true 0 0 (hq_P (.inl (some (.int (nI (cn (hdb g) n))))) h) := by
  refine hp_start (T := T_pa_countNets) (by decide) rfl (fun σ => Nat.le_of_ble_eq_true rfl) (fun G C => ?_)
  have key : ∀ (m i : Nat), i + m = n → hp_W G 4 [(0, .ref 65), (1, .int (nI (cn (hdb g) i))), (2, .int (nI i))] [] h true 0 0 := by
    intro m
    induction m with
    | zero =>
      intro i hi
      have e : i = n := by omega
      subst e
      refine hp_run_sound hp_co V_pa_countNets C (fun _ _ _ _ _ _ _ hq => hq) [4] 8 _ _ _ _ _ _ _ ?_
      refine Exists.intro _ (And.intro hp ?_)
      refine And.intro (fun c => ?_) (fun c => absurd (nI_le (Nat.le_refl _) (by omega)) c)
      exact And.intro rfl (And.intro rfl (And.intro rfl rfl))
    | succ m ih =>
      intro i hi
      have hW := ih (i + 1) (by omega)
      have hgi := hgn i (by omega)
      refine hp_run_sound hp_co V_pa_countNets C (fun _ _ _ _ _ _ _ hq => hq) [4] 20 _ _ _ _ _ _ _ ?_
      refine Exists.intro _ (And.intro hp ?_)
      refine And.intro (fun c => absurd c (nI_ge (by omega) (by omega))) (fun c => ?_)
      refine Exists.intro _ (And.intro hp ?_)
      refine Exists.intro .int (Exists.intro 2048 (Exists.intro _ (And.intro (Or.inl rfl) (And.intro hg (And.intro (in_nI (by omega) (by decide)) ?_)))))
      rw [nI_clamp (by omega)]
      refine And.intro (fun c => ?_) (fun c => ?_)
      · have e : ¬ g i = i := fun q => c (by rw [q])
        have hz : cn (hdb g) (i + 1) = cn (hdb g) i := by rw [cn_s]; unfold hdb; rw [decide_eq_false e]; rfl
        rw [hz, ← nI_1 i] at hW
        exact hW
      · have e : g i = i := (nI_eq (by omega) (by omega)).mp c
        have hz : nI (cn (hdb g) (i + 1)) = nI (cn (hdb g) i) + 1 := by rw [cn_s]; unfold hdb; rw [decide_eq_true e]; exact (nI_1 _).symm
        rw [hz, ← nI_1 i] at hW
        exact hW
  refine hp_run_sound hp_co V_pa_countNets C (fun _ _ _ _ _ _ _ hq => hq) [4] 8 _ _ _ _ _ _ _ ?_
  exact key n 0 (by omega)
set_option maxRecDepth 20000 in
theorem c_pa_leastOfNet (l : Launch) (h : hp_H) (n sc t r0 : Nat) (hn : n ≤ 2048) (ht : t < 2 ^ 31) (g o : Nat → Nat) (hgn : g r0 ≤ r0) (ho : ∀ r, o r < 2 ^ 31) (hr0 : r0 < n) (hor : o r0 = t) (hlt : ∀ r, r < r0 → o r ≠ t) (hp : h[65]? = some (PA n sc)) (hg : h[68]? = some (NA 2048 g)) (hoo : h[69]? = some (NA 2048 o)) :
    hp_M l Y_pa_leastOfNet [.ref 65, .int (nI t)] h true 0 0 (hq_P (.inl (some (.int (nI (o (g r0)))))) h) := by
  refine hp_start (T := T_pa_leastOfNet) (by decide) rfl (fun σ => Nat.le_of_ble_eq_true rfl) (fun G C => ?_)
  have key : ∀ (m i : Nat), i + m = r0 → hp_W G 2 [(0, .ref 65), (1, .int (nI t)), (2, .int (nI i))] [] h true 0 0 := by
    intro m
    induction m with
    | zero =>
      intro i hi
      have e : i = r0 := by omega
      subst e
      refine hp_run_sound hp_co V_pa_leastOfNet C (fun _ _ _ _ _ _ _ hq => hq) [2] 30 _ _ _ _ _ _ _ ?_
      refine Exists.intro _ (And.intro hp ?_)
      refine And.intro (fun c => absurd c (nI_ge (by omega) (by omega))) (fun c => ?_)
      refine Exists.intro _ (And.intro hp ?_)
      refine Exists.intro .int (Exists.intro 2048 (Exists.intro _ (And.intro (Or.inl rfl) (And.intro hoo (And.intro (in_nI (by omega) (by decide)) ?_)))))
      rw [nI_clamp (by omega), hor]
      refine And.intro (fun c => absurd rfl c) (fun c => ?_)
      refine Exists.intro _ (And.intro hp ?_)
      refine Exists.intro _ (And.intro hp ?_)
      refine Exists.intro .int (Exists.intro 2048 (Exists.intro _ (And.intro (Or.inl rfl) (And.intro hg (And.intro (in_nI (by omega) (by decide)) ?_)))))
      rw [nI_clamp (by omega)]
      refine Exists.intro .int (Exists.intro 2048 (Exists.intro _ (And.intro (Or.inl rfl) (And.intro hoo (And.intro (in_nI (by omega) (by decide)) ?_)))))
      rw [nI_clamp (by omega)]
      exact And.intro rfl (And.intro rfl (And.intro rfl rfl))
    | succ m ih =>
      intro i hi
      have hW := ih (i + 1) (by omega)
      refine hp_run_sound hp_co V_pa_leastOfNet C (fun _ _ _ _ _ _ _ hq => hq) [2] 30 _ _ _ _ _ _ _ ?_
      refine Exists.intro _ (And.intro hp ?_)
      refine And.intro (fun c => absurd c (nI_ge (by omega) (by omega))) (fun c => ?_)
      refine Exists.intro _ (And.intro hp ?_)
      refine Exists.intro .int (Exists.intro 2048 (Exists.intro _ (And.intro (Or.inl rfl) (And.intro hoo (And.intro (in_nI (by omega) (by decide)) ?_)))))
      rw [nI_clamp (by omega)]
      refine And.intro (fun c => ?_) (fun c => absurd ((nI_eq (ho i) ht).mp c) (hlt i (by omega)))
      rw [← nI_1 i] at hW
      exact hW
  refine hp_run_sound hp_co V_pa_leastOfNet C (fun _ _ _ _ _ _ _ hq => hq) [2] 8 _ _ _ _ _ _ _ ?_
  exact key r0 0 (by omega)
/-! marks -/
def updB (M : Nat → Bool) (k : Nat) (v : Bool) : Nat → Bool := fun j => if j = k then v else M j
abbrev BA (n : Nat) (M : Nat → Bool) : hp_C := ZA n (fun j => zI (M j))
theorem BA_upd (n : Nat) (M : Nat → Bool) (k : Nat) (v : Bool) : BA n (updB M k v) = ZA n (upd (fun j => zI (M j)) k (zI v)) := by
  refine congrArg (ZA n) (funext fun j => ?_)
  unfold upd updB
  by_cases h : j = k
  · rw [if_pos h, if_pos h]
  · rw [if_neg h, if_neg h]
theorem updB_s (M : Nat → Bool) (k : Nat) (v : Bool) : updB M k v k = v := if_pos rfl
theorem updB_n (M : Nat → Bool) {k j : Nat} (v : Bool) (h : j ≠ k) : updB M k v j = M j := if_neg h
/-- a run of shape t before run J of row Y meets e -/
def mtQ (f e : Nat → Int64) (o : Nat → Nat) (Y J t : Nat) : Prop := ∃ y j, (y < Y ∨ (y = Y ∧ j < J)) ∧ y < 64 ∧ j < nr f y ∧ o (rs f y + j) = t ∧ ¬ (xrn (f y) j &&& e y) = 0
theorem mtQ_row {f e : Nat → Int64} {o : Nat → Nat} {Y t : Nat} (hY : Y < 64) : mtQ f e o Y (nr f Y) t ↔ mtQ f e o (Y + 1) 0 t := by
  constructor
  · rintro ⟨y, j, q1, q2⟩
    exact ⟨y, j, Or.inl (by omega), q2⟩
  · rintro ⟨y, j, q1, q2, q3, q4⟩
    refine ⟨y, j, ?_, q2, q3, q4⟩
    rcases Nat.lt_or_ge y Y with c | c
    · exact Or.inl c
    · have e1 : y = Y := by omega
      subst e1
      exact Or.inr ⟨rfl, q3⟩
theorem mtQ_step {f e : Nat → Int64} {o : Nat → Nat} {Y J t : Nat} (hY : Y < 64) (hJ : J < nr f Y) : mtQ f e o Y (J + 1) t ↔ mtQ f e o Y J t ∨ (o (rs f Y + J) = t ∧ ¬ (xrn (f Y) J &&& e Y) = 0) := by
  constructor
  · rintro ⟨y, j, q1, q2, q3, q4⟩
    by_cases c : y < Y ∨ (y = Y ∧ j < J)
    · exact Or.inl ⟨y, j, c, q2, q3, q4⟩
    · have e1 : y = Y := by omega
      have e2 : j = J := by omega
      subst e1
      subst e2
      exact Or.inr q4
  · rintro (⟨y, j, q1, q2⟩ | q)
    · exact ⟨y, j, by omega, q2⟩
    · exact ⟨Y, J, Or.inr ⟨rfl, by omega⟩, hY, hJ, q⟩
set_option maxRecDepth 20000 in
theorem c_pa_markMeeting (l : Launch) (h : hp_H) (b : Nat) (f e : Nat → Int64) (g o : Nat → Nat) (M0 : Nat → Bool) (hb : isR b) (he : h[b]? = some (LA 64 e)) (hS : fS f h g o) (hm : h[70]? = some (BA 2048 M0)) :
    hp_M l Y_pa_markMeeting [.ref 65, .ref b] h false 0 0 (fun q h' => q = .inl none ∧ ∃ M, h' = h.set 70 (BA 2048 M) ∧ ∀ t, t < cn (hdb g) (rs f 64) → (M t = true ↔ mtQ f e o 64 0 t)) := by
  refine hp_start (T := T_pa_markMeeting) (by decide) rfl (fun σ => Nat.le_of_ble_eq_true rfl) (fun G C => ?_)
  obtain ⟨s, r, a1, a2, a3, a4, a5, a6, a7, a8, a9, a10⟩ := hS
  have hn := rs_le f (y := 64) (Nat.le_refl _)
  have hc := cn_le (hdb g) (rs f 64)
  have gp : ∀ M, (h.set 70 (BA 2048 M))[65]? = some (PA (rs f 64) (cn (hdb g) (rs f 64))) := fun M => by rw [hq_ne (by decide)]; exact a1
  have gs : ∀ M, (h.set 70 (BA 2048 M))[66]? = some (LA 2048 s) := fun M => by rw [hq_ne (by decide)]; exact a2
  have go : ∀ M, (h.set 70 (BA 2048 M))[69]? = some (NA 2048 o) := fun M => by rw [hq_ne (by decide)]; exact a4
  have gr : ∀ M, (h.set 70 (BA 2048 M))[71]? = some (NA 65 r) := fun M => by rw [hq_ne (by decide)]; exact a5
  have ge : ∀ M, (h.set 70 (BA 2048 M))[b]? = some (LA 64 e) := fun M => by rw [hq_ne (fun q => isR_ne hb (b := 70) (by omega) q.symm)]; exact he
  have gm : ∀ M, (h.set 70 (BA 2048 M))[70]? = some (BA 2048 M) := fun M => hq_get hm
  have olt : ∀ q, q < rs f 64 → o q < 2048 := fun q hq => by
    rw [a10 q hq]
    have h1 := (a8 q hq).1
    have h2 := cn_le (hdb g) (g q)
    omega
  have L2 : ∀ (m y : Nat) (M : Nat → Bool), y + m = 64 → (∀ t, t < cn (hdb g) (rs f 64) → (M t = true ↔ mtQ f e o y 0 t)) →
      hp_W G 25 [(0, .ref 65), (1, .ref b), (2, .int (nI y))] [] (h.set 70 (BA 2048 M)) false 0 0 := by
    intro m
    induction m with
    | zero =>
      intro y M hy hM
      have e1 : y = 64 := by omega
      subst e1
      refine hp_run_sound hp_co V_pa_markMeeting C (fun _ _ _ _ _ _ _ hq => hq) [25] 8 _ _ _ _ _ _ _ ?_
      refine And.intro (fun c => ?_) (fun c => absurd (nI_le (Nat.le_refl 64) (by decide)) c)
      exact And.intro rfl (And.intro rfl (And.intro rfl ⟨M, rfl, hM⟩))
    | succ m ih =>
      intro y M hy hM
      have b1 := rs_s f y
      have b2 := rs_mono f (a := y + 1) (b := 64) (by omega)
      have inner : ∀ (m' j : Nat) (M : Nat → Bool), j + m' = nr f y → (∀ t, t < cn (hdb g) (rs f 64) → (M t = true ↔ mtQ f e o y j t)) →
          hp_W G 38 [(0, .ref 65), (1, .ref b), (2, .int (nI y)), (3, .int (nI (rs f y + j)))] [] (h.set 70 (BA 2048 M)) false 0 0 := by
        intro m'
        induction m' with
        | zero =>
          intro j M hj hM
          have e1 : j = nr f y := by omega
          subst e1
          refine hp_run_sound hp_co V_pa_markMeeting C (fun _ _ _ _ _ _ _ hq => hq) [25] 20 _ _ _ _ _ _ _ ?_
          refine Exists.intro _ (And.intro (gp M) ?_)
          refine Exists.intro .int (Exists.intro 65 (Exists.intro _ (And.intro (Or.inl rfl) (And.intro (gr M) (And.intro (by rw [show nI y + hp_c 1 = nI (y + 1) from nI_1 y]; exact in_nI (by omega) (by decide)) ?_)))))
          rw [show nI y + hp_c 1 = nI (y + 1) from nI_1 y, nI_clamp (by omega), a7 (y + 1) (by omega)]
          refine And.intro (fun c => ?_) (fun c => absurd (nI_le (by omega) (by omega)) c)
          have hW := ih (y + 1) M (by omega) (fun t ht => (hM t ht).trans (mtQ_row (by omega)))
          rw [← nI_1 y] at hW
          refine hp_W_pick [0, 1, 2] ?_
          exact hW
        | succ m' im =>
          intro j M hj hM
          refine hp_run_sound hp_co V_pa_markMeeting C (fun _ _ _ _ _ _ _ hq => hq) [38] 40 _ _ _ _ _ _ _ ?_
          refine Exists.intro _ (And.intro (gp M) ?_)
          refine Exists.intro .int (Exists.intro 65 (Exists.intro _ (And.intro (Or.inl rfl) (And.intro (gr M) (And.intro (by rw [show nI y + hp_c 1 = nI (y + 1) from nI_1 y]; exact in_nI (by omega) (by decide)) ?_)))))
          rw [show nI y + hp_c 1 = nI (y + 1) from nI_1 y, nI_clamp (show y + 1 < 2 ^ 31 by omega), a7 (y + 1) (by omega)]
          refine And.intro (fun c => absurd c (nI_ge (by omega) (by omega))) (fun c => ?_)
          refine Exists.intro _ (And.intro (gp M) ?_)
          refine Exists.intro 2048 (Exists.intro s (And.intro (gs M) (And.intro (in_nI (by omega) (by decide)) ?_)))
          refine Exists.intro 64 (Exists.intro e (And.intro (ge M) (And.intro (in64 (by omega)) ?_)))
          rw [nI_clamp (show rs f y + j < 2 ^ 31 by omega), cl64 (show y < 64 by omega), a6 y j (by omega) (by omega)]
          refine And.intro (fun c => ?_) (fun c => ?_)
          · have hz := (lg_cmp_eq _ _).mp c
            have hW := im (j + 1) M (by omega) (fun t ht => (hM t ht).trans ((mtQ_step (by omega) (by omega)).trans ⟨fun q => by
              rcases q with q | q
              · exact q
              · exact absurd hz q.2, Or.inl⟩).symm)
            rw [show rs f y + (j + 1) = (rs f y + j) + 1 from rfl, ← nI_1 (rs f y + j)] at hW
            exact hW
          · have hz : ¬ (xrn (f y) j &&& e y) = 0 := fun q => c ((lg_cmp_eq _ _).mpr q)
            refine Exists.intro _ (And.intro (gp M) ?_)
            refine Exists.intro _ (And.intro (gp M) ?_)
            refine Exists.intro .int (Exists.intro 2048 (Exists.intro _ (And.intro (Or.inl rfl) (And.intro (go M) (And.intro (in_nI (by omega) (by decide)) ?_)))))
            rw [nI_clamp (show rs f y + j < 2 ^ 31 by omega)]
            have ol := olt (rs f y + j) (by omega)
            refine Exists.intro 2048 (Exists.intro _ (And.intro (gm M) (And.intro (in_nI ol (by decide)) (And.intro rfl ?_))))
            rw [nI_clamp (show o (rs f y + j) < 2 ^ 31 by omega), hq_set]
            have hW := im (j + 1) (updB M (o (rs f y + j)) true) (by omega) (fun t ht => by
              rw [mtQ_step (by omega) (by omega)]
              by_cases q : t = o (rs f y + j)
              · rw [q, updB_s]
                exact ⟨fun _ => Or.inr ⟨rfl, hz⟩, fun _ => rfl⟩
              · rw [updB_n _ _ q, hM t ht]
                exact ⟨Or.inl, fun q2 => by
                  rcases q2 with q2 | q2
                  · exact q2
                  · exact absurd q2.1.symm q⟩)
            rw [show rs f y + (j + 1) = (rs f y + j) + 1 from rfl, ← nI_1 (rs f y + j), BA_upd] at hW
            exact hW
      refine hp_run_sound hp_co V_pa_markMeeting C (fun _ _ _ _ _ _ _ hq => hq) [38] 20 _ _ _ _ _ _ _ ?_
      refine And.intro (fun c => absurd c (nI_ge (b := 64) (by omega) (by decide))) (fun c => ?_)
      refine Exists.intro _ (And.intro (gp M) ?_)
      refine Exists.intro .int (Exists.intro 65 (Exists.intro _ (And.intro (Or.inl rfl) (And.intro (gr M) (And.intro (in_nI (by omega) (by decide)) ?_)))))
      rw [nI_clamp (show y < 2 ^ 31 by omega), a7 y (by omega)]
      exact inner (nr f y) 0 M (by omega) hM
  have L1 : ∀ (m i : Nat) (M : Nat → Bool), i + m = cn (hdb g) (rs f 64) → (∀ t, t < i → M t = false) → hp_W G 2 [(0, .ref 65), (1, .ref b), (2, .int (nI i))] [] (h.set 70 (BA 2048 M)) false 0 0 := by
    intro m
    induction m with
    | zero =>
      intro i M hi hM
      refine hp_run_sound hp_co V_pa_markMeeting C (fun _ _ _ _ _ _ _ hq => hq) [25] 20 _ _ _ _ _ _ _ ?_
      refine Exists.intro _ (And.intro (gp M) ?_)
      refine And.intro (fun c => ?_) (fun c => absurd (nI_le (by omega) (by omega)) c)
      refine L2 64 0 M (by omega) (fun t ht => ?_)
      rw [hM t (by omega)]
      refine ⟨fun q => (by cases q), fun q => ?_⟩
      obtain ⟨y, j, q1, q2⟩ := q
      omega
    | succ m ih =>
      intro i M hi hM
      refine hp_run_sound hp_co V_pa_markMeeting C (fun _ _ _ _ _ _ _ hq => hq) [2] 20 _ _ _ _ _ _ _ ?_
      refine Exists.intro _ (And.intro (gp M) ?_)
      refine And.intro (fun c => absurd c (nI_ge (by omega) (by omega))) (fun c => ?_)
      refine Exists.intro _ (And.intro (gp M) ?_)
      refine Exists.intro 2048 (Exists.intro _ (And.intro (gm M) (And.intro (in_nI (by omega) (by decide)) (And.intro rfl ?_))))
      rw [nI_clamp (by omega), hq_set]
      have hW := ih (i + 1) (updB M i false) (by omega) (fun t ht => by
        by_cases q : t = i
        · rw [q, updB_s]
        · rw [updB_n _ _ q]; exact hM t (by omega))
      rw [← nI_1 i, BA_upd] at hW
      exact hW
  have h0 := L1 (cn (hdb g) (rs f 64)) 0 M0 (by omega) (fun t q => absurd q (Nat.not_lt_zero _))
  rw [hq_self hm] at h0
  refine hp_run_sound hp_co V_pa_markMeeting C (fun _ _ _ _ _ _ _ hq => hq) [2] 8 _ _ _ _ _ _ _ ?_
  exact hp_W_dirty h0
end
section
/-! Parts: markedShape, gather, copyShape -/
set_option maxRecDepth 20000 in
theorem c_pa_markedShape (l : Launch) (h : hp_H) (n sc t : Nat) (hn : sc ≤ 2048) (M : Nat → Bool) (ht : t < sc) (hMt : M t = true) (hp : h[65]? = some (PA n sc)) (hm : h[70]? = some (BA 2048 M)) :
    hp_M l Y_pa_markedShape [.ref 65, .int (nI (cn M t))] h true 0 0 (hq_P (.inl (some (.int (nI t)))) h) := by
  refine hp_start (T := T_pa_markedShape) (by decide) rfl (fun σ => Nat.le_of_ble_eq_true rfl) (fun G C => ?_)
  have hct := cn_le M t
  have key : ∀ (m i : Nat), i + m = t → hp_W G 4 [(0, .ref 65), (1, .int (nI (cn M t))), (2, .int (nI (cn M t - cn M i))), (3, .int (nI i))] [] h true 0 0 := by
    intro m
    induction m with
    | zero =>
      intro i hi
      have e : i = t := by omega
      subst e
      refine hp_run_sound hp_co V_pa_markedShape C (fun _ _ _ _ _ _ _ hq => hq) [4] 20 _ _ _ _ _ _ _ ?_
      refine Exists.intro _ (And.intro hp ?_)
      refine And.intro (fun c => absurd c (nI_ge (by omega) (by omega))) (fun c => ?_)
      refine Exists.intro _ (And.intro hp ?_)
      refine Exists.intro 2048 (Exists.intro _ (And.intro hm (And.intro (in_nI (by omega) (by decide)) ?_)))
      rw [nI_clamp (by omega), hMt, Nat.sub_self]
      refine And.intro (fun c => absurd c (by decide)) (fun c => ?_)
      refine And.intro (fun c => absurd (show nI 0 = 0 from rfl) c) (fun c => ?_)
      exact And.intro rfl (And.intro rfl (And.intro rfl rfl))
    | succ m ih =>
      intro i hi
      have hW := ih (i + 1) (by omega)
      have h1 : cn M (i + 1) ≤ cn M t := cn_mono M (by omega)
      rw [cn_s] at h1
      refine hp_run_sound hp_co V_pa_markedShape C (fun _ _ _ _ _ _ _ hq => hq) [4] 20 _ _ _ _ _ _ _ ?_
      refine Exists.intro _ (And.intro hp ?_)
      refine And.intro (fun c => absurd c (nI_ge (by omega) (by omega))) (fun c => ?_)
      refine Exists.intro _ (And.intro hp ?_)
      refine Exists.intro 2048 (Exists.intro _ (And.intro hm (And.intro (in_nI (by omega) (by decide)) ?_)))
      rw [nI_clamp (by omega)]
      rw [cn_s] at hW
      cases hMi : M i with
      | false =>
        rw [hMi] at hW
        refine And.intro (fun c => ?_) (fun c => absurd rfl c)
        rw [← nI_1 i] at hW
        exact hW
      | true =>
        rw [hMi] at hW h1
        have h2 : cn M i + 1 ≤ cn M t := h1
        refine And.intro (fun c => absurd c (by decide)) (fun c => ?_)
        refine And.intro (fun c => ?_) (fun c => absurd c (nI_ne0 (by omega) (by omega)))
        have e : nI (cn M t - (cn M i + true.toNat)) = nI (cn M t - cn M i) + (-1) := by
          rw [show cn M t - cn M i = (cn M t - (cn M i + true.toNat)) + 1 by show _ = cn M t - (cn M i + 1) + 1; omega, pk_m1]
        rw [e, ← nI_1 i] at hW
        exact hW
  have h0 := key t 0 (by omega)
  refine hp_run_sound hp_co V_pa_markedShape C (fun _ _ _ _ _ _ _ hq => hq) [4] 8 _ _ _ _ _ _ _ ?_
  exact h0
set_option maxRecDepth 20000 in
theorem c_pa_markedShape_no (l : Launch) (h : hp_H) (n sc k : Nat) (hn : sc ≤ 2048) (M : Nat → Bool) (hk : cn M sc ≤ k) (hk2 : k < 2 ^ 31) (hp : h[65]? = some (PA n sc)) (hm : h[70]? = some (BA 2048 M)) :
    hp_M l Y_pa_markedShape [.ref 65, .int (nI k)] h true 0 0 (hq_P (.inl (some (.int (-1)))) h) := by
  refine hp_start (T := T_pa_markedShape) (by decide) rfl (fun σ => Nat.le_of_ble_eq_true rfl) (fun G C => ?_)
  have key : ∀ (m i : Nat), i + m = sc → hp_W G 4 [(0, .ref 65), (1, .int (nI k)), (2, .int (nI (k - cn M i))), (3, .int (nI i))] [] h true 0 0 := by
    intro m
    induction m with
    | zero =>
      intro i hi
      have e : i = sc := by omega
      subst e
      refine hp_run_sound hp_co V_pa_markedShape C (fun _ _ _ _ _ _ _ hq => hq) [4] 20 _ _ _ _ _ _ _ ?_
      refine Exists.intro _ (And.intro hp ?_)
      refine And.intro (fun c => ?_) (fun c => absurd (nI_le (Nat.le_refl _) (by omega)) c)
      exact And.intro rfl (And.intro rfl (And.intro rfl rfl))
    | succ m ih =>
      intro i hi
      have hW := ih (i + 1) (by omega)
      have h1 : cn M (i + 1) ≤ cn M sc := cn_mono M (by omega)
      rw [cn_s] at h1
      refine hp_run_sound hp_co V_pa_markedShape C (fun _ _ _ _ _ _ _ hq => hq) [4] 20 _ _ _ _ _ _ _ ?_
      refine Exists.intro _ (And.intro hp ?_)
      refine And.intro (fun c => absurd c (nI_ge (by omega) (by omega))) (fun c => ?_)
      refine Exists.intro _ (And.intro hp ?_)
      refine Exists.intro 2048 (Exists.intro _ (And.intro hm (And.intro (in_nI (by omega) (by decide)) ?_)))
      rw [nI_clamp (by omega)]
      rw [cn_s] at hW
      cases hMi : M i with
      | false =>
        rw [hMi] at hW
        refine And.intro (fun c => ?_) (fun c => absurd rfl c)
        rw [← nI_1 i] at hW
        exact hW
      | true =>
        rw [hMi] at hW h1
        have h2 : cn M i + 1 ≤ cn M sc := h1
        refine And.intro (fun c => absurd c (by decide)) (fun c => ?_)
        refine And.intro (fun c => ?_) (fun c => absurd c (nI_ne0 (by omega) (by omega)))
        have e : nI (k - (cn M i + true.toNat)) = nI (k - cn M i) + (-1) := by
          rw [show k - cn M i = (k - (cn M i + true.toNat)) + 1 by show _ = k - (cn M i + 1) + 1; omega, pk_m1]
        rw [e, ← nI_1 i] at hW
        exact hW
  have h0 := key sc 0 (by omega)
  refine hp_run_sound hp_co V_pa_markedShape C (fun _ _ _ _ _ _ _ hq => hq) [4] 8 _ _ _ _ _ _ _ ?_
  exact h0
/-- the first J of these rows that are wanted, together -/
def orj (c : Nat → Bool) (q : Nat → Int64) : Nat → Int64
  | 0 => 0
  | j + 1 => if c j then orj c q j ||| q j else orj c q j
theorem bb_orj (c : Nat → Bool) (q : Nat → Int64) (x : Nat) : ∀ J, bb (orj c q J) x = true ↔ ∃ j, j < J ∧ c j = true ∧ bb (q j) x = true
  | 0 => by
    show bb 0 x = true ↔ _
    rw [bb_0]
    exact ⟨fun h => (by cases h), fun ⟨j, h, _⟩ => absurd h (Nat.not_lt_zero _)⟩
  | J + 1 => by
    show bb (if c J then _ else _) x = true ↔ _
    cases hc : c J with
    | true =>
      rw [if_pos rfl, bb_or, Bool.or_eq_true, bb_orj c q x J]
      constructor
      · rintro (⟨j, h1, h2⟩ | h)
        · exact ⟨j, by omega, h2⟩
        · exact ⟨J, by omega, hc, h⟩
      · rintro ⟨j, h1, h2, h3⟩
        rcases Nat.lt_or_ge j J with q | q
        · exact Or.inl ⟨j, q, h2, h3⟩
        · have e : j = J := by omega
          subst e
          exact Or.inr h3
    | false =>
      rw [if_neg (by decide), bb_orj c q x J]
      constructor
      · rintro ⟨j, h1, h2⟩
        exact ⟨j, by omega, h2⟩
      · rintro ⟨j, h1, h2, h3⟩
        rcases Nat.lt_or_ge j J with q | q
        · exact ⟨j, q, h2, h3⟩
        · have e : j = J := by omega
          subst e
          rw [hc] at h2
          cases h2
theorem zI_inj {a b : Bool} : zI a = zI b ↔ a = b := by cases a <;> cases b <;> decide
set_option maxRecDepth 20000 in
theorem c_pa_gather (l : Launch) (h : hp_H) (b : Nat) (mk : Bool) (f e0 : Nat → Int64) (g o : Nat → Nat) (M : Nat → Bool) (hb : isR b) (he : h[b]? = some (LA 64 e0)) (hS : fS f h g o) (hm : h[70]? = some (BA 2048 M)) :
    hp_M l Y_pa_gather [.ref 65, .int (zI mk), .ref b] h false 0 0 (fun q h' => q = .inl none ∧ ∃ e, h' = h.set b (LA 64 e) ∧ ∀ y, y < 64 → e y = orj (fun j => M (o (rs f y + j)) == mk) (xrn (f y)) (nr f y)) := by
  refine hp_start (T := T_pa_gather) (by decide) rfl (fun σ => Nat.le_of_ble_eq_true rfl) (fun G C => ?_)
  obtain ⟨s, r, a1, a2, a3, a4, a5, a6, a7, a8, a9, a10⟩ := hS
  have hn := rs_le f (y := 64) (Nat.le_refl _)
  have gp : ∀ e, (h.set b (LA 64 e))[65]? = some (PA (rs f 64) (cn (hdb g) (rs f 64))) := fun M => by rw [hq_ne (isR_ne hb (b := 65) (by omega))]; exact a1
  have gs : ∀ e, (h.set b (LA 64 e))[66]? = some (LA 2048 s) := fun M => by rw [hq_ne (isR_ne hb (b := 66) (by omega))]; exact a2
  have go : ∀ e, (h.set b (LA 64 e))[69]? = some (NA 2048 o) := fun M => by rw [hq_ne (isR_ne hb (b := 69) (by omega))]; exact a4
  have gr : ∀ e, (h.set b (LA 64 e))[71]? = some (NA 65 r) := fun M => by rw [hq_ne (isR_ne hb (b := 71) (by omega))]; exact a5
  have gm : ∀ e, (h.set b (LA 64 e))[70]? = some (BA 2048 M) := fun _ => by rw [hq_ne (isR_ne hb (b := 70) (by omega))]; exact hm
  have ge : ∀ e, (h.set b (LA 64 e))[b]? = some (LA 64 e) := fun M => hq_get he
  have olt : ∀ q, q < rs f 64 → o q < 2048 := fun q hq => by
    rw [a10 q hq]
    have h1 := (a8 q hq).1
    have h2 := cn_le (hdb g) (g q)
    omega
  have key : ∀ (m y : Nat) (e : Nat → Int64), y + m = 64 → (∀ v, v < y → e v = orj (fun j => M (o (rs f v + j)) == mk) (xrn (f v)) (nr f v)) →
      hp_W G 2 [(0, .ref 65), (1, .int (zI mk)), (2, .ref b), (3, .int (nI y))] [] (h.set b (LA 64 e)) false 0 0 := by
    intro m
    induction m with
    | zero =>
      intro y e hy hE
      have e1 : y = 64 := by omega
      subst e1
      refine hp_run_sound hp_co V_pa_gather C (fun _ _ _ _ _ _ _ hq => hq) [2] 8 _ _ _ _ _ _ _ ?_
      refine And.intro (fun c => ?_) (fun c => absurd (nI_le (Nat.le_refl 64) (by decide)) c)
      exact And.intro rfl (And.intro rfl (And.intro rfl ⟨e, rfl, hE⟩))
    | succ m ih =>
      intro y e hy hE
      have b1 := rs_s f y
      have b2 := rs_mono f (a := y + 1) (b := 64) (by omega)
      have inner : ∀ (m' j : Nat) (e : Nat → Int64), j + m' = nr f y → (∀ v, v < y → e v = orj (fun j => M (o (rs f v + j)) == mk) (xrn (f v)) (nr f v)) → e y = orj (fun j => M (o (rs f y + j)) == mk) (xrn (f y)) j →
          hp_W G 20 [(0, .ref 65), (1, .int (zI mk)), (2, .ref b), (3, .int (nI y)), (4, .int (nI (rs f y + j)))] [] (h.set b (LA 64 e)) false 0 0 := by
        intro m'
        induction m' with
        | zero =>
          intro j e hj hE hy2
          have e1 : j = nr f y := by omega
          subst e1
          refine hp_run_sound hp_co V_pa_gather C (fun _ _ _ _ _ _ _ hq => hq) [2] 20 _ _ _ _ _ _ _ ?_
          refine Exists.intro _ (And.intro (gp e) ?_)
          refine Exists.intro .int (Exists.intro 65 (Exists.intro _ (And.intro (Or.inl rfl) (And.intro (gr e) (And.intro (by rw [show nI y + hp_c 1 = nI (y + 1) from nI_1 y]; exact in_nI (by omega) (by decide)) ?_)))))
          rw [show nI y + hp_c 1 = nI (y + 1) from nI_1 y, nI_clamp (by omega), a7 (y + 1) (by omega)]
          refine And.intro (fun c => ?_) (fun c => absurd (nI_le (by omega) (by omega)) c)
          have hW := ih (y + 1) e (by omega) (fun v hv => by
            rcases Nat.lt_or_ge v y with q | q
            · exact hE v q
            · have e2 : v = y := by omega
              subst e2
              exact hy2)
          rw [← nI_1 y] at hW
          refine hp_W_pick [0, 1, 2, 3] ?_
          exact hW
        | succ m' im =>
          intro j e hj hE hy2
          have ol := olt (rs f y + j) (by omega)
          refine hp_run_sound hp_co V_pa_gather C (fun _ _ _ _ _ _ _ hq => hq) [20] 50 _ _ _ _ _ _ _ ?_
          refine Exists.intro _ (And.intro (gp e) ?_)
          refine Exists.intro .int (Exists.intro 65 (Exists.intro _ (And.intro (Or.inl rfl) (And.intro (gr e) (And.intro (by rw [show nI y + hp_c 1 = nI (y + 1) from nI_1 y]; exact in_nI (by omega) (by decide)) ?_)))))
          rw [show nI y + hp_c 1 = nI (y + 1) from nI_1 y, nI_clamp (show y + 1 < 2 ^ 31 by omega), a7 (y + 1) (by omega)]
          refine And.intro (fun c => absurd c (nI_ge (by omega) (by omega))) (fun c => ?_)
          refine Exists.intro _ (And.intro (gp e) ?_)
          refine Exists.intro _ (And.intro (gp e) ?_)
          refine Exists.intro .int (Exists.intro 2048 (Exists.intro _ (And.intro (Or.inl rfl) (And.intro (go e) (And.intro (in_nI (by omega) (by decide)) ?_)))))
          rw [nI_clamp (show rs f y + j < 2 ^ 31 by omega)]
          refine Exists.intro 2048 (Exists.intro _ (And.intro (gm e) (And.intro (in_nI ol (by decide)) ?_)))
          rw [nI_clamp (show o (rs f y + j) < 2 ^ 31 by omega)]
          refine And.intro (fun c => ?_) (fun c => ?_)
          · have hz : (M (o (rs f y + j)) == mk) = false := beq_eq_false_iff_ne.mpr (fun q => c (zI_inj.mpr q))
            have hW := im (j + 1) e (by omega) hE (by
              show e y = if (M (o (rs f y + j)) == mk) then _ else _
              rw [hz, if_neg (by decide)]
              exact hy2)
            rw [show rs f y + (j + 1) = (rs f y + j) + 1 from rfl, ← nI_1 (rs f y + j)] at hW
            exact hW
          · have hz : (M (o (rs f y + j)) == mk) = true := beq_iff_eq.mpr (zI_inj.mp c)
            refine Exists.intro 64 (Exists.intro e (And.intro (ge e) (And.intro (in64 (by omega)) ?_)))
            refine Exists.intro _ (And.intro (gp e) ?_)
            refine Exists.intro 2048 (Exists.intro s (And.intro (gs e) (And.intro (in_nI (by omega) (by decide)) ?_)))
            refine Exists.intro 64 (Exists.intro e (And.intro (ge e) (And.intro (in64 (by omega)) ?_)))
            rw [nI_clamp (show rs f y + j < 2 ^ 31 by omega), cl64 (show y < 64 by omega), a6 y j (by omega) (by omega), hq_set]
            have hW := im (j + 1) (vp_updL e y (e y ||| xrn (f y) j)) (by omega) (fun v hv => by rw [pk_uLn (by omega)]; exact hE v hv) (by
              rw [pk_uLs, hy2]
              show _ = if (M (o (rs f y + j)) == mk) then _ else _
              rw [hz, if_pos rfl])
            rw [show rs f y + (j + 1) = (rs f y + j) + 1 from rfl, ← nI_1 (rs f y + j)] at hW
            exact hW
      have h0 := inner (nr f y) 0 (vp_updL e y 0) (by omega) (fun v hv => by rw [pk_uLn (by omega)]; exact hE v hv) pk_uLs
      refine hp_run_sound hp_co V_pa_gather C (fun _ _ _ _ _ _ _ hq => hq) [20] 20 _ _ _ _ _ _ _ ?_
      refine And.intro (fun c => absurd c (nI_ge (b := 64) (by omega) (by decide))) (fun c => ?_)
      refine Exists.intro 64 (Exists.intro e (And.intro (ge e) (And.intro (in64 (by omega)) ?_)))
      rw [cl64 (show y < 64 by omega), hq_set]
      refine Exists.intro _ (And.intro (gp _) ?_)
      refine Exists.intro .int (Exists.intro 65 (Exists.intro _ (And.intro (Or.inl rfl) (And.intro (gr _) (And.intro (in_nI (by omega) (by decide)) ?_)))))
      rw [nI_clamp (show y < 2 ^ 31 by omega), a7 y (by omega)]
      exact h0
  have h0 := key 64 0 e0 (by omega) (fun v q => absurd q (Nat.not_lt_zero _))
  rw [hq_self he] at h0
  refine hp_run_sound hp_co V_pa_gather C (fun _ _ _ _ _ _ _ hq => hq) [2] 8 _ _ _ _ _ _ _ ?_
  exact hp_W_dirty h0
set_option maxRecDepth 20000 in
theorem c_pa_copyShape (l : Launch) (h : hp_H) (b t : Nat) (ht : t < 2 ^ 31) (f e0 : Nat → Int64) (g o : Nat → Nat) (hb : isR b) (he : h[b]? = some (LA 64 e0)) (hS : fS f h g o) :
    hp_M l Y_pa_copyShape [.ref 65, .int (nI t), .ref b] h false 0 0 (fun q h' => q = .inl none ∧ ∃ e, h' = h.set b (LA 64 e) ∧ ∀ y, y < 64 → e y = orj (fun j => o (rs f y + j) == t) (xrn (f y)) (nr f y)) := by
  refine hp_start (T := T_pa_copyShape) (by decide) rfl (fun σ => Nat.le_of_ble_eq_true rfl) (fun G C => ?_)
  obtain ⟨s, r, a1, a2, a3, a4, a5, a6, a7, a8, a9, a10⟩ := hS
  have hn := rs_le f (y := 64) (Nat.le_refl _)
  have gp : ∀ e, (h.set b (LA 64 e))[65]? = some (PA (rs f 64) (cn (hdb g) (rs f 64))) := fun M => by rw [hq_ne (isR_ne hb (b := 65) (by omega))]; exact a1
  have gs : ∀ e, (h.set b (LA 64 e))[66]? = some (LA 2048 s) := fun M => by rw [hq_ne (isR_ne hb (b := 66) (by omega))]; exact a2
  have go : ∀ e, (h.set b (LA 64 e))[69]? = some (NA 2048 o) := fun M => by rw [hq_ne (isR_ne hb (b := 69) (by omega))]; exact a4
  have gr : ∀ e, (h.set b (LA 64 e))[71]? = some (NA 65 r) := fun M => by rw [hq_ne (isR_ne hb (b := 71) (by omega))]; exact a5
  have ge : ∀ e, (h.set b (LA 64 e))[b]? = some (LA 64 e) := fun M => hq_get he
  have olt : ∀ q, q < rs f 64 → o q < 2048 := fun q hq => by
    rw [a10 q hq]
    have h1 := (a8 q hq).1
    have h2 := cn_le (hdb g) (g q)
    omega
  have key : ∀ (m y : Nat) (e : Nat → Int64), y + m = 64 → (∀ v, v < y → e v = orj (fun j => o (rs f v + j) == t) (xrn (f v)) (nr f v)) →
      hp_W G 2 [(0, .ref 65), (1, .int (nI t)), (2, .ref b), (3, .int (nI y))] [] (h.set b (LA 64 e)) false 0 0 := by
    intro m
    induction m with
    | zero =>
      intro y e hy hE
      have e1 : y = 64 := by omega
      subst e1
      refine hp_run_sound hp_co V_pa_copyShape C (fun _ _ _ _ _ _ _ hq => hq) [2] 8 _ _ _ _ _ _ _ ?_
      refine And.intro (fun c => ?_) (fun c => absurd (nI_le (Nat.le_refl 64) (by decide)) c)
      exact And.intro rfl (And.intro rfl (And.intro rfl ⟨e, rfl, hE⟩))
    | succ m ih =>
      intro y e hy hE
      have b1 := rs_s f y
      have b2 := rs_mono f (a := y + 1) (b := 64) (by omega)
      have inner : ∀ (m' j : Nat) (e : Nat → Int64), j + m' = nr f y → (∀ v, v < y → e v = orj (fun j => o (rs f v + j) == t) (xrn (f v)) (nr f v)) → e y = orj (fun j => o (rs f y + j) == t) (xrn (f y)) j →
          hp_W G 20 [(0, .ref 65), (1, .int (nI t)), (2, .ref b), (3, .int (nI y)), (4, .int (nI (rs f y + j)))] [] (h.set b (LA 64 e)) false 0 0 := by
        intro m'
        induction m' with
        | zero =>
          intro j e hj hE hy2
          have e1 : j = nr f y := by omega
          subst e1
          refine hp_run_sound hp_co V_pa_copyShape C (fun _ _ _ _ _ _ _ hq => hq) [2] 20 _ _ _ _ _ _ _ ?_
          refine Exists.intro _ (And.intro (gp e) ?_)
          refine Exists.intro .int (Exists.intro 65 (Exists.intro _ (And.intro (Or.inl rfl) (And.intro (gr e) (And.intro (by rw [show nI y + hp_c 1 = nI (y + 1) from nI_1 y]; exact in_nI (by omega) (by decide)) ?_)))))
          rw [show nI y + hp_c 1 = nI (y + 1) from nI_1 y, nI_clamp (by omega), a7 (y + 1) (by omega)]
          refine And.intro (fun c => ?_) (fun c => absurd (nI_le (by omega) (by omega)) c)
          have hW := ih (y + 1) e (by omega) (fun v hv => by
            rcases Nat.lt_or_ge v y with q | q
            · exact hE v q
            · have e2 : v = y := by omega
              subst e2
              exact hy2)
          rw [← nI_1 y] at hW
          refine hp_W_pick [0, 1, 2, 3] ?_
          exact hW
        | succ m' im =>
          intro j e hj hE hy2
          have ol := olt (rs f y + j) (by omega)
          refine hp_run_sound hp_co V_pa_copyShape C (fun _ _ _ _ _ _ _ hq => hq) [20] 50 _ _ _ _ _ _ _ ?_
          refine Exists.intro _ (And.intro (gp e) ?_)
          refine Exists.intro .int (Exists.intro 65 (Exists.intro _ (And.intro (Or.inl rfl) (And.intro (gr e) (And.intro (by rw [show nI y + hp_c 1 = nI (y + 1) from nI_1 y]; exact in_nI (by omega) (by decide)) ?_)))))
          rw [show nI y + hp_c 1 = nI (y + 1) from nI_1 y, nI_clamp (show y + 1 < 2 ^ 31 by omega), a7 (y + 1) (by omega)]
          refine And.intro (fun c => absurd c (nI_ge (by omega) (by omega))) (fun c => ?_)
          refine Exists.intro _ (And.intro (gp e) ?_)
          refine Exists.intro .int (Exists.intro 2048 (Exists.intro _ (And.intro (Or.inl rfl) (And.intro (go e) (And.intro (in_nI (by omega) (by decide)) ?_)))))
          rw [nI_clamp (show rs f y + j < 2 ^ 31 by omega)]
          refine And.intro (fun c => ?_) (fun c => ?_)
          · have hz : (o (rs f y + j) == t) = false := beq_eq_false_iff_ne.mpr (fun q => c (by rw [q]))
            have hW := im (j + 1) e (by omega) hE (by
              show e y = if (o (rs f y + j) == t) then _ else _
              rw [hz, if_neg (by decide)]
              exact hy2)
            rw [show rs f y + (j + 1) = (rs f y + j) + 1 from rfl, ← nI_1 (rs f y + j)] at hW
            exact hW
          · have hz : (o (rs f y + j) == t) = true := beq_iff_eq.mpr ((nI_eq (by omega) ht).mp c)
            refine Exists.intro 64 (Exists.intro e (And.intro (ge e) (And.intro (in64 (by omega)) ?_)))
            refine Exists.intro _ (And.intro (gp e) ?_)
            refine Exists.intro 2048 (Exists.intro s (And.intro (gs e) (And.intro (in_nI (by omega) (by decide)) ?_)))
            refine Exists.intro 64 (Exists.intro e (And.intro (ge e) (And.intro (in64 (by omega)) ?_)))
            rw [nI_clamp (show rs f y + j < 2 ^ 31 by omega), cl64 (show y < 64 by omega), a6 y j (by omega) (by omega), hq_set]
            have hW := im (j + 1) (vp_updL e y (e y ||| xrn (f y) j)) (by omega) (fun v hv => by rw [pk_uLn (by omega)]; exact hE v hv) (by
              rw [pk_uLs, hy2]
              show _ = if (o (rs f y + j) == t) then _ else _
              rw [hz, if_pos rfl])
            rw [show rs f y + (j + 1) = (rs f y + j) + 1 from rfl, ← nI_1 (rs f y + j)] at hW
            exact hW
      have h0 := inner (nr f y) 0 (vp_updL e y 0) (by omega) (fun v hv => by rw [pk_uLn (by omega)]; exact hE v hv) pk_uLs
      refine hp_run_sound hp_co V_pa_copyShape C (fun _ _ _ _ _ _ _ hq => hq) [20] 20 _ _ _ _ _ _ _ ?_
      refine And.intro (fun c => absurd c (nI_ge (b := 64) (by omega) (by decide))) (fun c => ?_)
      refine Exists.intro 64 (Exists.intro e (And.intro (ge e) (And.intro (in64 (by omega)) ?_)))
      rw [cl64 (show y < 64 by omega), hq_set]
      refine Exists.intro _ (And.intro (gp _) ?_)
      refine Exists.intro .int (Exists.intro 65 (Exists.intro _ (And.intro (Or.inl rfl) (And.intro (gr _) (And.intro (in_nI (by omega) (by decide)) ?_)))))
      rw [nI_clamp (show y < 2 ^ 31 by omega), a7 y (by omega)]
      exact h0
  have h0 := key 64 0 e0 (by omega) (fun v q => absurd q (Nat.not_lt_zero _))
  rw [hq_self he] at h0
  refine hp_run_sound hp_co V_pa_copyShape C (fun _ _ _ _ _ _ _ hq => hq) [2] 8 _ _ _ _ _ _ _ ?_
  exact hp_W_dirty h0
end
section
/-! Polygons -/
abbrev PO (c : Nat) : hp_C := .inr (1, [.int (nI c), .ref 3, .ref 4, .ref 5, .ref 22, .ref 39])
abbrev OA (n b : Nat) : hp_C := .inl (.array .int, n, .inr (.inr (.inr (.inr (fun p => some (b + p))))))
def poS (h : hp_H) (c : Nat) (lay k : Nat → Nat) (X Y : Nat → Nat → Nat) : Prop :=
  h[2]? = some (PO c) ∧ h[3]? = some (NA 16 lay) ∧ h[4]? = some (NA 16 k) ∧ h[5]? = some (OA 16 6) ∧ (∀ p, p < 16 → h[6 + p]? = some (NA 16 (X p))) ∧ h[22]? = some (OA 16 23) ∧ ∀ p, p < 16 → h[23 + p]? = some (NA 16 (Y p))
theorem poS_hx {ps : List Nat} {h h' : hp_H} {c : Nat} {lay k : Nat → Nat} {X Y : Nat → Nat → Nat} (hS : poS h c lay k X Y) (hH : hx ps h h') (hn : ∀ q ∈ ps, 39 ≤ q) : poS h' c lay k X Y := by
  obtain ⟨a1, a2, a3, a4, a5, a6, a7⟩ := hS
  have hm : ∀ q, q < 39 → q ∉ ps := fun q hq e => absurd (hn q e) (by omega)
  exact ⟨hx_at hH (hm _ (by omega)) a1, hx_at hH (hm _ (by omega)) a2, hx_at hH (hm _ (by omega)) a3, hx_at hH (hm _ (by omega)) a4, fun p hp => hx_at hH (hm _ (by omega)) (a5 p hp), hx_at hH (hm _ (by omega)) a6, fun p hp => hx_at hH (hm _ (by omega)) (a7 p hp)⟩
set_option maxRecDepth 20000 in
theorem c_po_isFull (l : Launch) (h : hp_H) (c : Nat) (hc : c ≤ 16) (hp : h[2]? = some (PO c)) : hp_M l Y_po_isFull [.ref 2] h true 0 0 (hq_P (.inl (some (.int (zI (decide (16 ≤ c)))))) h) := by
  refine hp_start (T := T_po_isFull) (by decide) rfl (fun σ => Nat.le_of_ble_eq_true rfl) (fun G C => ?_)
  refine hp_run_sound hp_co V_po_isFull C (fun _ _ _ _ _ _ _ hq => hq) [] 10 _ _ _ _ _ _ _ ?_
  refine Exists.intro _ (And.intro hp ?_)
  refine And.intro (fun q => ?_) (fun q => ?_)
  · have e : ¬ 16 ≤ c := by have := (nI_ltI (b := 16) (by omega) (by decide)).mp q; omega
    rw [decide_eq_false e]
    exact And.intro rfl (And.intro rfl (And.intro rfl rfl))
  · have e : 16 ≤ c := by
      rcases Nat.lt_or_ge c 16 with q2 | q2
      · exact absurd (nI_lt (b := 16) q2 (by decide)) q
      · exact q2
    rw [decide_eq_true e]
    exact And.intro rfl (And.intro rfl (And.intro rfl rfl))
set_option maxRecDepth 20000 in
theorem c_po_has (l : Launch) (h : hp_H) (c : Nat) (x : Int32) (hp : h[2]? = some (PO c)) : hp_M l Y_po_has [.ref 2, .int x] h true 0 0 (hq_P (.inl (some (.int (zI (decide (¬ x < 0 ∧ ¬ nI c ≤ x)))))) h) := by
  refine hp_start (T := T_po_has) (by decide) rfl (fun σ => Nat.le_of_ble_eq_true rfl) (fun G C => ?_)
  refine hp_run_sound hp_co V_po_has C (fun _ _ _ _ _ _ _ hq => hq) [] 12 _ _ _ _ _ _ _ ?_
  refine And.intro (fun q => ?_) (fun q => Exists.intro _ (And.intro hp (And.intro (fun q2 => ?_) (fun q2 => ?_))))
  · rw [decide_eq_false (fun e => e.1 q)]
    exact And.intro rfl (And.intro rfl (And.intro rfl rfl))
  · rw [decide_eq_false (fun e => e.2 q2)]
    exact And.intro rfl (And.intro rfl (And.intro rfl rfl))
  · rw [decide_eq_true ⟨q, q2⟩]
    exact And.intro rfl (And.intro rfl (And.intro rfl rfl))
set_option maxRecDepth 20000 in
theorem c_po_hasAllCorners (l : Launch) (h : hp_H) (c p : Nat) (hpp : p < 16) (k : Nat → Nat) (hk : k p ≤ 16) (hp : h[2]? = some (PO c)) (h4 : h[4]? = some (NA 16 k)) : hp_M l Y_po_hasAllCorners [.ref 2, .int (nI p)] h true 0 0 (hq_P (.inl (some (.int (zI (decide (16 ≤ k p)))))) h) := by
  refine hp_start (T := T_po_hasAllCorners) (by decide) rfl (fun σ => Nat.le_of_ble_eq_true rfl) (fun G C => ?_)
  refine hp_run_sound hp_co V_po_hasAllCorners C (fun _ _ _ _ _ _ _ hq => hq) [] 12 _ _ _ _ _ _ _ ?_
  refine Exists.intro _ (And.intro hp ?_)
  refine Exists.intro .int (Exists.intro 16 (Exists.intro _ (And.intro (Or.inl rfl) (And.intro h4 (And.intro (in_nI hpp (by decide)) ?_)))))
  rw [nI_clamp (by omega)]
  refine And.intro (fun q => ?_) (fun q => ?_)
  · have e : ¬ 16 ≤ k p := by have := (nI_ltI (b := 16) (by omega) (by decide)).mp q; omega
    rw [decide_eq_false e]
    exact And.intro rfl (And.intro rfl (And.intro rfl rfl))
  · have e : 16 ≤ k p := by
      rcases Nat.lt_or_ge (k p) 16 with q2 | q2
      · exact absurd (nI_lt (b := 16) q2 (by decide)) q
      · exact q2
    rw [decide_eq_true e]
    exact And.intro rfl (And.intro rfl (And.intro rfl rfl))
set_option maxRecDepth 20000 in
theorem c_po_start (l : Launch) (h : hp_H) (c L : Nat) (hc : c < 16) (lay k : Nat → Nat) (X Y : Nat → Nat → Nat) (hS : poS h c lay k X Y) :
    hp_M l Y_po_start [.ref 2, .int (nI L)] h false 0 0 (fun q h' => q = .inl (some (.int (nI c))) ∧ hx [2, 3, 4] h h' ∧ poS h' (c + 1) (updN lay c L) (updN k c 0) X Y) := by
  refine hp_start (T := T_po_start) (by decide) rfl (fun σ => Nat.le_of_ble_eq_true rfl) (fun G C => ?_)
  obtain ⟨a1, a2, a3, a4, a5, a6, a7⟩ := hS
  refine hp_run_sound hp_co V_po_start C (fun _ _ _ _ _ _ _ hq => hq) [] 30 _ _ _ _ _ _ _ ?_
  refine Exists.intro _ (And.intro a1 ?_)
  refine Exists.intro _ (And.intro a1 ?_)
  refine Exists.intro 16 (Exists.intro _ (And.intro a2 (And.intro (in_nI hc (by decide)) ?_)))
  refine Exists.intro _ (And.intro (by rw [hq_ne (by decide)]; exact a1) ?_)
  refine Exists.intro 16 (Exists.intro _ (And.intro (by rw [hq_ne (by decide)]; exact a3) (And.intro (in_nI hc (by decide)) ?_)))
  refine Exists.intro _ (And.intro (by rw [hq_ne (by decide), hq_ne (by decide)]; exact a1) ?_)
  refine And.intro (Or.inl rfl) (Exists.intro _ (And.intro (by rw [hq_ne (by decide), hq_ne (by decide)]; exact a1) (And.intro (Nat.le_of_ble_eq_true rfl) (And.intro rfl (And.intro rfl ?_)))))
  rw [nI_clamp (by omega)]
  have x0 : hx [2, 3, 4] h (((h.set 3 (NA 16 (updN lay c L))).set 4 (NA 16 (updN k c 0))).set 2 (PO (c + 1))) := hx_set (hx_set (hx_set (hx_rf _ _) _ (by decide)) _ (by decide)) _ (by decide)
  have hS' : poS (((h.set 3 (NA 16 (updN lay c L))).set 4 (NA 16 (updN k c 0))).set 2 (PO (c + 1))) (c + 1) (updN lay c L) (updN k c 0) X Y := by
    have hm : ∀ q, 4 < q → q ∉ [2, 3, 4] := fun q hq e => by simp at e; omega
    refine ⟨hq_get (by rw [hq_ne (by decide), hq_ne (by decide)]; exact a1), ?_, ?_, hx_at x0 (hm _ (by omega)) a4, fun p hp => hx_at x0 (hm _ (by omega)) (a5 p hp), hx_at x0 (hm _ (by omega)) a6, fun p hp => hx_at x0 (hm _ (by omega)) (a7 p hp)⟩
    · rw [hq_ne (by decide), hq_ne (by decide)]; exact hq_get a2
    · rw [hq_ne (by decide)]; exact hq_get (by rw [hq_ne (by decide)]; exact a3)
  have hfin := And.intro x0 hS'
  rw [NA_upd, NA_upd] at hfin
  unfold PO at hfin
  rw [← nI_1 c] at hfin
  exact And.intro rfl (And.intro rfl (And.intro rfl hfin))
set_option maxRecDepth 20000 in
theorem c_po_forget (l : Launch) (h : hp_H) (c : Nat) (hp : h[2]? = some (PO c)) : hp_M l Y_po_forget [.ref 2] h false 0 0 (hq_P (.inl none) (h.set 2 (PO 0))) := by
  refine hp_start (T := T_po_forget) (by decide) rfl (fun σ => Nat.le_of_ble_eq_true rfl) (fun G C => ?_)
  refine hp_run_sound hp_co V_po_forget C (fun _ _ _ _ _ _ _ hq => hq) [] 10 _ _ _ _ _ _ _ ?_
  refine And.intro (Or.inl rfl) (Exists.intro _ (And.intro hp (And.intro (Nat.le_of_ble_eq_true rfl) (And.intro rfl (And.intro rfl ?_)))))
  exact And.intro rfl (And.intro rfl (And.intro rfl rfl))
/-! corners -/
def dif (X Y : Nat → Nat → Nat) (p j x y : Nat) : Bool := (!decide (X p j = x)) ^^ (!decide (Y p j = y))
set_option maxRecDepth 20000 in
theorem c_po_differInOne (l : Launch) (h : hp_H) (c p j x y : Nat) (hpp : p < 16) (hj : j < 16) (lay k : Nat → Nat) (X Y : Nat → Nat → Nat) (hx1 : X p j < 2 ^ 31) (hy1 : Y p j < 2 ^ 31) (hx2 : x < 2 ^ 31) (hy2 : y < 2 ^ 31) (hS : poS h c lay k X Y) :
    hp_M l Y_po_differInOne [.ref 2, .int (nI p), .int (nI j), .int (nI x), .int (nI y)] h true 0 0 (hq_P (.inl (some (.int (zI (dif X Y p j x y))))) h) := by
  refine hp_start (T := T_po_differInOne) (by decide) rfl (fun σ => Nat.le_of_ble_eq_true rfl) (fun G C => ?_)
  obtain ⟨a1, a2, a3, a4, a5, a6, a7⟩ := hS
  have t2 : ∀ b1 b2 : Bool, (b1 ^^ b2) = dif X Y p j x y → hp_W G 35 [(0, .ref 2), (1, .int (nI p)), (2, .int (nI j)), (3, .int (nI x)), (4, .int (nI y))] [.int (zI b2), .int (zI b1)] h true 0 0 := by
    intro b1 b2 hb
    refine hp_run_sound hp_co V_po_differInOne C (fun _ _ _ _ _ _ _ hq => hq) [] 10 _ _ _ _ _ _ _ ?_
    refine And.intro (fun q => ?_) (fun q => ?_)
    · refine And.intro rfl (And.intro rfl (And.intro ?_ rfl))
      rw [← hb, zI_inj.mp q, Bool.xor_self]
      rfl
    · have e : (b1 ^^ b2) = true := by
        cases b1 <;> cases b2 <;> first | rfl | exact absurd rfl q
      refine And.intro rfl (And.intro rfl (And.intro ?_ rfl))
      rw [← hb, e]
      rfl
  have t1 : ∀ b1 : Bool, b1 = (!decide (X p j = x)) → hp_W G 17 [(0, .ref 2), (1, .int (nI p)), (2, .int (nI j)), (3, .int (nI x)), (4, .int (nI y))] [.int (zI b1)] h true 0 0 := by
    intro b1 hb
    refine hp_run_sound hp_co V_po_differInOne C (fun _ _ _ _ _ _ _ hq => hq) [35] 20 _ _ _ _ _ _ _ ?_
    refine Exists.intro _ (And.intro a1 ?_)
    refine Exists.intro _ (Exists.intro 16 (Exists.intro _ (And.intro a6 (And.intro (in_nI hpp (by decide)) ?_))))
    rw [nI_clamp (show p < 2 ^ 31 by omega)]
    refine Exists.intro .int (Exists.intro 16 (Exists.intro _ (And.intro (Or.inl rfl) (And.intro (a7 p hpp) (And.intro (in_nI hj (by decide)) ?_)))))
    rw [nI_clamp (show j < 2 ^ 31 by omega)]
    refine And.intro (fun q => ?_) (fun q => ?_)
    · refine t2 b1 false ?_
      unfold dif
      rw [hb, decide_eq_true ((nI_eq hy1 hy2).mp q)]
      rfl
    · refine t2 b1 true ?_
      unfold dif
      rw [hb, decide_eq_false (p := Y p j = y) (fun e => q (by rw [e]))]
      rfl
  refine hp_run_sound hp_co V_po_differInOne C (fun _ _ _ _ _ _ _ hq => hq) [17] 20 _ _ _ _ _ _ _ ?_
  refine Exists.intro _ (And.intro a1 ?_)
  refine Exists.intro _ (Exists.intro 16 (Exists.intro _ (And.intro a4 (And.intro (in_nI hpp (by decide)) ?_))))
  rw [nI_clamp (show p < 2 ^ 31 by omega)]
  refine Exists.intro .int (Exists.intro 16 (Exists.intro _ (And.intro (Or.inl rfl) (And.intro (a5 p hpp) (And.intro (in_nI hj (by decide)) ?_)))))
  rw [nI_clamp (show j < 2 ^ 31 by omega)]
  refine And.intro (fun q => ?_) (fun q => ?_)
  · refine t1 false ?_
    rw [decide_eq_true ((nI_eq hx1 hx2).mp q)]
    rfl
  · refine t1 true ?_
    rw [decide_eq_false (fun e => q (by rw [e]))]
    rfl
set_option maxRecDepth 20000 in
theorem c_po_extend_no (l : Launch) (h : hp_H) (c p x y : Nat) (hpp : p < 16) (hx2 : x < 2 ^ 31) (hy2 : y < 2 ^ 31) (lay k : Nat → Nat) (X Y : Nat → Nat → Nat) (hk : k p < 16) (hk0 : 0 < k p) (hxb : X p (k p - 1) < 2 ^ 31) (hyb : Y p (k p - 1) < 2 ^ 31) (hd : dif X Y p (k p - 1) x y = false) (hS : poS h c lay k X Y) :
    hp_M l Y_po_extend [.ref 2, .int (nI p), .int (nI x), .int (nI y)] h true 0 0 (hq_P (.inl (some (.int 0))) h) := by
  refine hp_start (T := T_po_extend) (by decide) rfl (fun σ => Nat.le_of_ble_eq_true rfl) (fun G C => ?_)
  obtain ⟨a1, a2, a3, a4, a5, a6, a7⟩ := id hS
  refine hp_run_sound hp_co V_po_extend C (fun _ _ _ _ _ _ _ hq => hq) [29] 30 _ _ _ _ _ _ _ ?_
  refine Exists.intro _ (And.intro a1 ?_)
  refine Exists.intro .int (Exists.intro 16 (Exists.intro _ (And.intro (Or.inl rfl) (And.intro a3 (And.intro (in_nI hpp (by decide)) ?_)))))
  rw [nI_clamp (show p < 2 ^ 31 by omega)]
  refine And.intro (fun q => absurd q (nI_nle hk0 (by omega))) (fun q => ?_)
  refine And.intro ⟨1, _, a1, rfl⟩ ?_
  rw [show nI (k p) - hp_c 1 = nI (k p - 1) from pk_sub (b := 1) hk0]
  refine ic_P (c_po_differInOne l h c p (k p - 1) x y hpp (by omega) lay k X Y hxb hyb hx2 hy2 hS) (Nat.le_refl _) (Nat.le_refl _) ?_
  rw [hd]
  refine And.intro (fun q => absurd rfl q) (fun q => ?_)
  exact And.intro rfl (And.intro rfl (And.intro rfl rfl))
def updF (X : Nat → Nat → Nat) (p : Nat) (r : Nat → Nat) : Nat → Nat → Nat := fun v => if v = p then r else X v
theorem updF_s (X : Nat → Nat → Nat) (p : Nat) (r : Nat → Nat) : updF X p r p = r := if_pos rfl
theorem updF_n (X : Nat → Nat → Nat) {p v : Nat} (r : Nat → Nat) (h : v ≠ p) : updF X p r v = X v := if_neg h
theorem po_ne {p q : Nat} (hp : p < 16) (hq : q < 16) : 6 + p ≠ 23 + q := by omega
set_option maxRecDepth 20000 in
theorem c_po_extend (l : Launch) (h : hp_H) (c p x y : Nat) (hpp : p < 16) (hx2 : x < 2 ^ 31) (hy2 : y < 2 ^ 31) (lay k : Nat → Nat) (X Y : Nat → Nat → Nat) (hk : k p < 16) (hxb : X p (k p - 1) < 2 ^ 31) (hyb : Y p (k p - 1) < 2 ^ 31) (hd : k p = 0 ∨ dif X Y p (k p - 1) x y = true) (hS : poS h c lay k X Y) :
    hp_M l Y_po_extend [.ref 2, .int (nI p), .int (nI x), .int (nI y)] h false 0 0 (fun q h' => q = .inl (some (.int 1)) ∧ hx [4, 6 + p, 23 + p] h h' ∧ poS h' c lay (updN k p (k p + 1)) (updF X p (updN (X p) (k p) x)) (updF Y p (updN (Y p) (k p) y))) := by
  refine hp_start (T := T_po_extend) (by decide) rfl (fun σ => Nat.le_of_ble_eq_true rfl) (fun G C => ?_)
  obtain ⟨a1, a2, a3, a4, a5, a6, a7⟩ := id hS
  have tail : hp_W G 29 [(0, .ref 2), (1, .int (nI p)), (2, .int (nI x)), (3, .int (nI y)), (4, .int (nI (k p)))] [] h true 0 0 := by
    refine hp_run_sound hp_co V_po_extend C (fun _ _ _ _ _ _ _ hq => hq) [] 40 _ _ _ _ _ _ _ ?_
    have n1 : ∀ q, q < 6 ∨ 22 ≤ q → 6 + p ≠ q := fun q hq => by omega
    have n2 : ∀ q, q < 23 → 23 + p ≠ q := fun q hq => by omega
    refine Exists.intro _ (And.intro a1 ?_)
    refine Exists.intro _ (Exists.intro 16 (Exists.intro _ (And.intro a4 (And.intro (in_nI hpp (by decide)) ?_))))
    rw [nI_clamp (show p < 2 ^ 31 by omega)]
    refine Exists.intro 16 (Exists.intro _ (And.intro (a5 p hpp) (And.intro (in_nI hk (by decide)) ?_)))
    rw [nI_clamp (show k p < 2 ^ 31 by omega)]
    refine Exists.intro _ (And.intro (by rw [hq_ne (n1 _ (by omega))]; exact a1) ?_)
    refine Exists.intro _ (Exists.intro 16 (Exists.intro _ (And.intro (by rw [hq_ne (n1 _ (by omega))]; exact a6) (And.intro (in_nI hpp (by decide)) ?_))))
    rw [nI_clamp (show p < 2 ^ 31 by omega)]
    refine Exists.intro 16 (Exists.intro _ (And.intro (by rw [hq_ne (n1 _ (by omega))]; exact a7 p hpp) (And.intro (in_nI hk (by decide)) ?_)))
    rw [nI_clamp (show k p < 2 ^ 31 by omega)]
    refine Exists.intro _ (And.intro (by rw [hq_ne (n2 _ (by omega)), hq_ne (n1 _ (by omega))]; exact a1) ?_)
    refine Exists.intro 16 (Exists.intro _ (And.intro (by rw [hq_ne (n2 _ (by omega)), hq_ne (n1 _ (by omega))]; exact a3) (And.intro (in_nI hpp (by decide)) ?_)))
    rw [nI_clamp (show p < 2 ^ 31 by omega)]
    refine And.intro rfl (And.intro rfl (And.intro rfl ?_))
    have x0 : hx [4, 6 + p, 23 + p] h (((h.set (6 + p) (NA 16 (updN (X p) (k p) x))).set (23 + p) (NA 16 (updN (Y p) (k p) y))).set 4 (NA 16 (updN k p (k p + 1)))) := hx_set (hx_set (hx_set (hx_rf _ _) _ (by simp)) _ (by simp)) _ (by simp)
    have hm : ∀ q, q ≠ 4 → q ≠ 6 + p → q ≠ 23 + p → q ∉ [4, 6 + p, 23 + p] := fun q q1 q2 q3 e => by simp at e; omega
    have hS' : poS (((h.set (6 + p) (NA 16 (updN (X p) (k p) x))).set (23 + p) (NA 16 (updN (Y p) (k p) y))).set 4 (NA 16 (updN k p (k p + 1)))) c lay (updN k p (k p + 1)) (updF X p (updN (X p) (k p) x)) (updF Y p (updN (Y p) (k p) y)) := by
      refine ⟨hx_at x0 (hm _ (by omega) (by omega) (by omega)) a1, hx_at x0 (hm _ (by omega) (by omega) (by omega)) a2, ?_, hx_at x0 (hm _ (by omega) (by omega) (by omega)) a4, fun v hv => ?_, hx_at x0 (hm _ (by omega) (by omega) (by omega)) a6, fun v hv => ?_⟩
      · exact hq_get (by rw [hq_ne (n2 _ (by omega)), hq_ne (n1 _ (by omega))]; exact a3)
      · by_cases e : v = p
        · subst e
          rw [updF_s, hq_ne (by omega), hq_ne (by omega)]
          exact hq_get (a5 v hv)
        · rw [updF_n _ _ e]
          exact hx_at x0 (hm _ (by omega) (by omega) (by omega)) (a5 v hv)
      · by_cases e : v = p
        · subst e
          rw [updF_s, hq_ne (by omega)]
          exact hq_get (by rw [hq_ne (by omega)]; exact a7 v hv)
        · rw [updF_n _ _ e]
          exact hx_at x0 (hm _ (by omega) (by omega) (by omega)) (a7 v hv)
    have hfin := And.intro x0 hS'
    rw [NA_upd, NA_upd, NA_upd, ← nI_1 (k p)] at hfin
    exact hfin
  refine hp_run_sound hp_co V_po_extend C (fun _ _ _ _ _ _ _ hq => hq) [29] 30 _ _ _ _ _ _ _ ?_
  refine Exists.intro _ (And.intro a1 ?_)
  refine Exists.intro .int (Exists.intro 16 (Exists.intro _ (And.intro (Or.inl rfl) (And.intro a3 (And.intro (in_nI hpp (by decide)) ?_)))))
  rw [nI_clamp (show p < 2 ^ 31 by omega)]
  refine And.intro (fun q => tail) (fun q => ?_)
  have hk0 : 0 < k p := by
    rcases Nat.eq_zero_or_pos (k p) with e | e
    · exact absurd (by rw [e]; decide) q
    · exact e
  refine And.intro ⟨1, _, a1, rfl⟩ ?_
  rw [show nI (k p) - hp_c 1 = nI (k p - 1) from pk_sub (b := 1) hk0]
  refine ic_P (c_po_differInOne l h c p (k p - 1) x y hpp (by omega) lay k X Y hxb hyb hx2 hy2 hS) (Nat.le_refl _) (Nat.le_refl _) ?_
  rw [show dif X Y p (k p - 1) x y = true by rcases hd with e | e; omega; exact e]
  exact And.intro (fun q => tail) (fun q => absurd q (by decide))
end
section
/-! Polygons: isOpen, paint -/
def opn (k : Nat → Nat) (X Y : Nat → Nat → Nat) (p : Nat) : Bool := decide (k p < 4) || !dif X Y p 0 (X p (k p - 1)) (Y p (k p - 1))
set_option maxRecDepth 20000 in
theorem c_po_isOpen (l : Launch) (h : hp_H) (c p : Nat) (hpp : p < 16) (lay k : Nat → Nat) (X Y : Nat → Nat → Nat) (hk : k p ≤ 16) (hX : ∀ j, X p j ≤ 64) (hY : ∀ j, Y p j ≤ 64) (hS : poS h c lay k X Y) :
    hp_M l Y_po_isOpen [.ref 2, .int (nI p)] h true 0 0 (hq_P (.inl (some (.int (zI (opn k X Y p))))) h) := by
  refine hp_start (T := T_po_isOpen) (by decide) rfl (fun σ => Nat.le_of_ble_eq_true rfl) (fun G C => ?_)
  obtain ⟨a1, a2, a3, a4, a5, a6, a7⟩ := id hS
  refine hp_run_sound hp_co V_po_isOpen C (fun _ _ _ _ _ _ _ hq => hq) [] 40 _ _ _ _ _ _ _ ?_
  refine Exists.intro _ (And.intro a1 ?_)
  refine Exists.intro .int (Exists.intro 16 (Exists.intro _ (And.intro (Or.inl rfl) (And.intro a3 (And.intro (in_nI hpp (by decide)) ?_)))))
  rw [nI_clamp (show p < 2 ^ 31 by omega)]
  have ec : nI (k p) - hp_c 1 + hp_c 1 = nI (k p) := Int32.sub_add_cancel _ _
  refine And.intro (fun q => ?_) (fun q => ?_)
  · rw [ec] at q
    have e : k p < 4 := (nI_ltI (b := 4) (by omega) (by decide)).mp q
    refine And.intro rfl (And.intro rfl (And.intro ?_ rfl))
    unfold opn
    rw [decide_eq_true e]
    rfl
  · rw [ec] at q
    have e : 4 ≤ k p := by
      rcases Nat.lt_or_ge (k p) 4 with q2 | q2
      · exact absurd (nI_lt (b := 4) q2 (by decide)) q
      · exact q2
    have ek : nI (k p) - hp_c 1 = nI (k p - 1) := pk_sub (b := 1) (by omega)
    refine Exists.intro _ (And.intro a1 ?_)
    refine Exists.intro _ (Exists.intro 16 (Exists.intro _ (And.intro a4 (And.intro (in_nI hpp (by decide)) ?_))))
    rw [nI_clamp (show p < 2 ^ 31 by omega)]
    refine Exists.intro .int (Exists.intro 16 (Exists.intro _ (And.intro (Or.inl rfl) (And.intro (a5 p hpp) (And.intro (by rw [ek]; exact in_nI (by omega) (by decide)) ?_)))))
    rw [ek, nI_clamp (show k p - 1 < 2 ^ 31 by omega)]
    refine Exists.intro _ (And.intro a1 ?_)
    refine Exists.intro _ (Exists.intro 16 (Exists.intro _ (And.intro a6 (And.intro (in_nI hpp (by decide)) ?_))))
    rw [nI_clamp (show p < 2 ^ 31 by omega)]
    refine Exists.intro .int (Exists.intro 16 (Exists.intro _ (And.intro (Or.inl rfl) (And.intro (a7 p hpp) (And.intro (in_nI (by omega) (by decide)) ?_)))))
    rw [nI_clamp (show k p - 1 < 2 ^ 31 by omega)]
    refine And.intro ⟨1, _, a1, rfl⟩ ?_
    have b1 := hX 0
    have b2 := hY 0
    have b3 := hX (k p - 1)
    have b4 := hY (k p - 1)
    refine ic_P (c_po_differInOne l h c p 0 (X p (k p - 1)) (Y p (k p - 1)) hpp (by omega) lay k X Y (by omega) (by omega) (by omega) (by omega) hS) (Nat.le_refl _) (Nat.le_refl _) ?_
    have e2 : opn k X Y p = !dif X Y p 0 (X p (k p - 1)) (Y p (k p - 1)) := by
      unfold opn
      rw [decide_eq_false (by omega), Bool.false_or]
    rw [e2]
    cases hd : dif X Y p 0 (X p (k p - 1)) (Y p (k p - 1)) with
    | true =>
      refine And.intro (fun q => ?_) (fun q => absurd q (by decide))
      exact And.intro rfl (And.intro rfl (And.intro rfl rfl))
    | false =>
      refine And.intro (fun q => absurd rfl q) (fun q => ?_)
      exact And.intro rfl (And.intro rfl (And.intro rfl rfl))
/-! paintOne -/
def xr (f : Nat → Bool) : Nat → Bool
  | 0 => false
  | n + 1 => xr f n ^^ f n
theorem xr_congr {f g : Nat → Bool} : ∀ n, (∀ i, i < n → f i = g i) → xr f n = xr g n
  | 0, _ => rfl
  | n + 1, h => by
    show (xr f n ^^ f n) = (xr g n ^^ g n)
    rw [xr_congr n (fun i hi => h i (by omega)), h n (by omega)]
theorem xr_xor (f g : Nat → Bool) : ∀ n, (xr f n ^^ xr g n) = xr (fun i => f i ^^ g i) n
  | 0 => rfl
  | n + 1 => by
    show ((xr f n ^^ f n) ^^ (xr g n ^^ g n)) = (xr (fun i => f i ^^ g i) n ^^ (f n ^^ g n))
    rw [← xr_xor f g n]
    cases xr f n <;> cases f n <;> cases xr g n <;> cases g n <;> rfl
theorem xr_none {f : Nat → Bool} : ∀ {n : Nat}, (∀ i, i < n → f i = false) → xr f n = false
  | 0, _ => rfl
  | n + 1, h => by
    show (xr f n ^^ f n) = false
    rw [xr_none (fun i hi => h i (by omega)), h n (by omega)]
    rfl
/-- the corner before corner i, of k -/
def bef (k i : Nat) : Nat := if i = 0 then k - 1 else i - 1
/-- edge i stands right of place x -/
def std (k : Nat) (X : Nat → Nat) (x i : Nat) : Bool := decide (X i = X (bef k i)) && decide (x < X i)
def flb (k : Nat) (X Y : Nat → Nat) (j v x : Nat) : Bool := xr (fun i => std k X x i && (decide (v = Y (bef k i)) ^^ decide (v = Y i))) j
def pin' (k : Nat) (X Y : Nat → Nat) (x y : Nat) : Bool := xr (fun i => std k X x i && (decide (Y (bef k i) < y) ^^ decide (Y i < y))) k
theorem pin_0 (k : Nat) (X Y : Nat → Nat) (x : Nat) : pin' k X Y x 0 = false := xr_none (fun i _ => by simp)
theorem pin_s (k : Nat) (X Y : Nat → Nat) (x y : Nat) : (pin' k X Y x y ^^ flb k X Y k y x) = pin' k X Y x (y + 1) := by
  unfold pin' flb
  rw [xr_xor]
  refine xr_congr k (fun i _ => ?_)
  have e : ∀ a : Nat, decide (a < y + 1) = (decide (a < y) ^^ decide (y = a)) := fun a => by
    by_cases h1 : a < y
    · rw [decide_eq_true h1, decide_eq_true (by omega), decide_eq_false (by omega)]; rfl
    · by_cases h2 : y = a
      · rw [decide_eq_false h1, decide_eq_true h2, decide_eq_true (by omega)]; rfl
      · rw [decide_eq_false h1, decide_eq_false h2, decide_eq_false (by omega)]; rfl
  rw [e, e]
  cases std k X x i <;> cases decide (Y (bef k i) < y) <;> cases decide (y = Y (bef k i)) <;> cases decide (Y i < y) <;> cases decide (y = Y i) <;> rfl
theorem in65 {i : Nat} (h : i ≤ 64) : vp_in (nI i) 65 := in_nI (by omega) (by decide)
set_option maxRecDepth 20000 in
theorem c_po_paintOne (l : Launch) (h : hp_H) (c p a : Nat) (hpp : p < 16) (lay k : Nat → Nat) (X Y : Nat → Nat → Nat) (hk0 : 0 < k p) (hk : k p ≤ 16) (hX : ∀ j, X p j ≤ 64) (hY : ∀ j, Y p j ≤ 64) (f fl0 : Nat → Int64) (ha : isR a) (hf : h[a]? = some (LA 64 f)) (h39 : h[39]? = some (LA 65 fl0)) (hS : poS h c lay k X Y) :
    hp_M l Y_po_paintOne [.ref 2, .int (nI p), .ref a] h false 0 0 (fun q h' => q = .inl none ∧ hx [39, a] h h' ∧ (∃ fl, h'[39]? = some (LA 65 fl)) ∧ ∃ f', h'[a]? = some (LA 64 f') ∧ ∀ y x, y < 64 → x < 64 → bb (f' y) x = (bb (f y) x || pin' (k p) (X p) (Y p) x (y + 1))) := by
  refine hp_start (T := T_po_paintOne) (by decide) rfl (fun σ => Nat.le_of_ble_eq_true rfl) (fun G C => ?_)
  have hna : a ≠ 39 := isR_ne ha (by omega)
  have L2 : ∀ (m y : Nat) (H : hp_H) (fl f' : Nat → Int64) (row : Int64), y + m = 64 → hx [39, a] h H → H[2]? = some (PO c) → H[39]? = some (LA 65 fl) → H[a]? = some (LA 64 f') → (∀ v x, v ≤ 64 → x < 64 → bb (fl v) x = flb (k p) (X p) (Y p) (k p) v x) → (∀ x, x < 64 → bb row x = pin' (k p) (X p) (Y p) x y) →
      (∀ v x, v < y → x < 64 → bb (f' v) x = (bb (f v) x || pin' (k p) (X p) (Y p) x (v + 1))) → (∀ v, y ≤ v → v < 64 → f' v = f v) →
      hp_W G 113 [(0, .ref 2), (1, .int (nI p)), (2, .ref a), (4, .long row), (6, .int (nI y))] [] H false 0 0 := by
    intro m
    induction m with
    | zero =>
      intro y H fl f' row hy x1 h2 h3 h4 hfl hrow hd hr
      have e : y = 64 := by omega
      subst e
      refine hp_run_sound hp_co V_po_paintOne C (fun _ _ _ _ _ _ _ hq => hq) [113] 8 _ _ _ _ _ _ _ ?_
      refine And.intro (fun q => ?_) (fun q => absurd (nI_le (Nat.le_refl 64) (by decide)) q)
      exact And.intro rfl (And.intro rfl (And.intro rfl ⟨x1, ⟨fl, h3⟩, f', h4, fun y x hy hx2 => hd y x hy hx2⟩))
    | succ m ih =>
      intro y H fl f' row hy x1 h2 h3 h4 hfl hrow hd hr
      refine hp_run_sound hp_co V_po_paintOne C (fun _ _ _ _ _ _ _ hq => hq) [113] 30 _ _ _ _ _ _ _ ?_
      refine And.intro (fun q => absurd q (nI_ge (b := 64) (by omega) (by decide))) (fun q => ?_)
      refine Exists.intro _ (And.intro h2 ?_)
      refine Exists.intro 65 (Exists.intro fl (And.intro h3 (And.intro (in65 (by omega)) ?_)))
      refine Exists.intro 64 (Exists.intro f' (And.intro h4 (And.intro (in64 (by omega)) ?_)))
      refine Exists.intro 64 (Exists.intro f' (And.intro h4 (And.intro (in64 (by omega)) ?_)))
      rw [cl64 (show y < 64 by omega)]
      have hrow2 : ∀ x, x < 64 → bb (row ^^^ fl y) x = pin' (k p) (X p) (Y p) x (y + 1) := fun x hx2 => by rw [bb_xor, hrow x hx2, hfl y x (by omega) hx2, pin_s]
      have hW := ih (y + 1) (H.set a (LA 64 (vp_updL f' y (f' y ||| (row ^^^ fl y))))) fl _ (row ^^^ fl y) (by omega) (hx_set x1 _ (by simp)) (by rw [hq_ne (isR_ne ha (by omega))]; exact h2) (by rw [hq_ne hna]; exact h3) (hq_get h4) hfl hrow2 (fun v x hv hx2 => by
        by_cases e : v = y
        · rw [e, pk_uLs, bb_or, hrow2 x hx2, hr y (by omega) (by omega)]
        · rw [pk_uLn e]; exact hd v x (by omega) hx2) (fun v hv hv2 => by rw [pk_uLn (by omega)]; exact hr v (by omega) hv2)
      rw [← nI_1 y] at hW
      exact hW
  obtain ⟨a1, a2, a3, a4, a5, a6, a7⟩ := id hS
  have L1 : ∀ (m j : Nat) (H : hp_H) (fl : Nat → Int64), j + m = k p → hx [39, a] h H → H[39]? = some (LA 65 fl) → H[a]? = some (LA 64 f) → (∀ v x, v ≤ 64 → x < 64 → bb (fl v) x = flb (k p) (X p) (Y p) j v x) →
      hp_W G 20 [(0, .ref 2), (1, .int (nI p)), (2, .ref a), (3, .int (nI (bef (k p) j))), (4, .int (nI j))] [] H false 0 0 := by
    intro m
    induction m with
    | zero =>
      intro j H fl hj x1 h3 h4 hfl
      have e : j = k p := by omega
      have hna2 : ∀ q, q < 39 → q ∉ [39, a] := fun q hq e => by
        have := isR_ne ha (b := q) (by omega)
        simp at e
        omega
      refine hp_run_sound hp_co V_po_paintOne C (fun _ _ _ _ _ _ _ hq => hq) [113] 20 _ _ _ _ _ _ _ ?_
      refine Exists.intro _ (And.intro (hx_at x1 (hna2 _ (by omega)) a1) ?_)
      refine Exists.intro .int (Exists.intro 16 (Exists.intro _ (And.intro (Or.inl rfl) (And.intro (hx_at x1 (hna2 _ (by omega)) a3) (And.intro (in_nI hpp (by decide)) ?_)))))
      rw [nI_clamp (show p < 2 ^ 31 by omega)]
      refine And.intro (fun q => ?_) (fun q => absurd (nI_le (by omega) (by omega)) q)
      have hW := L2 64 0 H fl f 0 (by omega) x1 (hx_at x1 (hna2 _ (by omega)) a1) h3 h4 (fun v x hv hx2 => by rw [hfl v x hv hx2, e]) (fun x _ => by rw [bb_0, pin_0]) (fun v x q => absurd q (Nat.not_lt_zero _)) (fun _ _ _ => rfl)
      refine hp_W_pick [0, 1, 2, 4, 6] ?_
      exact hW
    | succ m ih =>
      intro j H fl hj x1 h3 h4 hfl
      have hna2 : ∀ q, q < 39 → q ∉ [39, a] := fun q hq e => by
        have := isR_ne ha (b := q) (by omega)
        simp at e
        omega
      have hb16 : bef (k p) j < 16 := by unfold bef; split <;> omega
      have g1 := hx_at x1 (hna2 2 (by omega)) a1
      have g3 := hx_at x1 (hna2 4 (by omega)) a3
      have g4 := hx_at x1 (hna2 5 (by omega)) a4
      have g5 := hx_at x1 (hna2 (6 + p) (by omega)) (a5 p hpp)
      have g6 := hx_at x1 (hna2 22 (by omega)) a6
      have g7 := hx_at x1 (hna2 (23 + p) (by omega)) (a7 p hpp)
      have q1 := hX j
      have q2 := hX (bef (k p) j)
      have q3 := hY j
      have q4 := hY (bef (k p) j)
      have ebn : bef (k p) (j + 1) = j := by unfold bef; rw [if_neg (by omega)]; rfl
      refine hp_run_sound hp_co V_po_paintOne C (fun _ _ _ _ _ _ _ hq => hq) [20] 70 _ _ _ _ _ _ _ ?_
      refine Exists.intro _ (And.intro g1 ?_)
      refine Exists.intro .int (Exists.intro 16 (Exists.intro _ (And.intro (Or.inl rfl) (And.intro g3 (And.intro (in_nI hpp (by decide)) ?_)))))
      rw [nI_clamp (show p < 2 ^ 31 by omega)]
      refine And.intro (fun q => absurd q (nI_ge (by omega) (by omega))) (fun q => ?_)
      refine Exists.intro _ (And.intro g1 ?_)
      refine Exists.intro _ (Exists.intro 16 (Exists.intro _ (And.intro g4 (And.intro (in_nI hpp (by decide)) ?_))))
      rw [nI_clamp (show p < 2 ^ 31 by omega)]
      refine Exists.intro .int (Exists.intro 16 (Exists.intro _ (And.intro (Or.inl rfl) (And.intro g5 (And.intro (in_nI (by omega) (by decide)) ?_)))))
      rw [nI_clamp (show j < 2 ^ 31 by omega)]
      refine Exists.intro _ (And.intro g1 ?_)
      refine Exists.intro _ (Exists.intro 16 (Exists.intro _ (And.intro g4 (And.intro (in_nI hpp (by decide)) ?_))))
      rw [nI_clamp (show p < 2 ^ 31 by omega)]
      refine Exists.intro .int (Exists.intro 16 (Exists.intro _ (And.intro (Or.inl rfl) (And.intro g5 (And.intro (in_nI hb16 (by decide)) ?_)))))
      rw [nI_clamp (show bef (k p) j < 2 ^ 31 by omega)]
      refine And.intro (fun q => ?_) (fun q => ?_)
      · have e : ¬ X p j = X p (bef (k p) j) := fun e => q (by rw [e])
        have hW := ih (j + 1) H fl (by omega) x1 h3 h4 (fun v x hv hx2 => by
          rw [hfl v x hv hx2]
          show _ = (flb (k p) (X p) (Y p) j v x ^^ (std (k p) (X p) x j && _))
          unfold std
          rw [decide_eq_false e]
          simp)
        rw [ebn, ← nI_1 j] at hW
        refine hp_W_pick [0, 1, 2, 3, 4] ?_
        exact hW
      · have e : X p j = X p (bef (k p) j) := (nI_eq (by omega) (by omega)).mp q
        refine Exists.intro _ (And.intro g1 ?_)
        refine Exists.intro _ (And.intro g1 ?_)
        refine Exists.intro _ (Exists.intro 16 (Exists.intro _ (And.intro g6 (And.intro (in_nI hpp (by decide)) ?_))))
        rw [nI_clamp (show p < 2 ^ 31 by omega)]
        refine Exists.intro .int (Exists.intro 16 (Exists.intro _ (And.intro (Or.inl rfl) (And.intro g7 (And.intro (in_nI hb16 (by decide)) ?_)))))
        rw [nI_clamp (show bef (k p) j < 2 ^ 31 by omega)]
        refine Exists.intro 65 (Exists.intro fl (And.intro h3 (And.intro (in65 (by omega)) ?_)))
        refine ic_P (c_ro_leftOf l _ (X p j) (hX j)) (Nat.le_refl _) (Nat.le_refl _) ?_
        refine Exists.intro 65 (Exists.intro fl (And.intro h3 (And.intro (in65 (by omega)) ?_)))
        rw [nI_clamp (show Y p (bef (k p) j) < 2 ^ 31 by omega)]
        have m1 : ∀ q, q < 39 → 39 ≠ q := fun q hq => by omega
        refine Exists.intro _ (And.intro (by rw [hq_ne (m1 _ (by omega))]; exact g1) ?_)
        refine Exists.intro _ (And.intro (by rw [hq_ne (m1 _ (by omega))]; exact g1) ?_)
        refine Exists.intro _ (Exists.intro 16 (Exists.intro _ (And.intro (by rw [hq_ne (m1 _ (by omega))]; exact g6) (And.intro (in_nI hpp (by decide)) ?_))))
        rw [nI_clamp (show p < 2 ^ 31 by omega)]
        refine Exists.intro .int (Exists.intro 16 (Exists.intro _ (And.intro (Or.inl rfl) (And.intro (by rw [hq_ne (m1 _ (by omega))]; exact g7) (And.intro (in_nI (by omega) (by decide)) ?_)))))
        rw [nI_clamp (show j < 2 ^ 31 by omega)]
        refine Exists.intro 65 (Exists.intro _ (And.intro (hq_get h3) (And.intro (in65 (by omega)) ?_)))
        refine ic_P (c_ro_leftOf l _ (X p j) (hX j)) (Nat.le_refl _) (Nat.le_refl _) ?_
        refine Exists.intro 65 (Exists.intro _ (And.intro (hq_get h3) (And.intro (in65 (by omega)) ?_)))
        rw [nI_clamp (show Y p j < 2 ^ 31 by omega), hq_set]
        have hW := ih (j + 1) (H.set 39 (LA 65 (vp_updL (vp_updL fl (Y p (bef (k p) j)) (fl (Y p (bef (k p) j)) ^^^ xlo (X p j))) (Y p j) (vp_updL fl (Y p (bef (k p) j)) (fl (Y p (bef (k p) j)) ^^^ xlo (X p j)) (Y p j) ^^^ xlo (X p j))))) _ (by omega) (hx_set x1 _ (by simp)) (hq_get h3) (by rw [hq_ne (fun e => hna e.symm)]; exact h4) (fun v x hv hx2 => by
          have hlo : bb (xlo (X p j)) x = decide (x < X p j) := bb_ofB _ hx2
          have e1 : bb (vp_updL fl (Y p (bef (k p) j)) (fl (Y p (bef (k p) j)) ^^^ xlo (X p j)) v) x = (bb (fl v) x ^^ (decide (x < X p j) && decide (v = Y p (bef (k p) j)))) := by
            by_cases c1 : v = Y p (bef (k p) j)
            · rw [c1, pk_uLs, bb_xor, hlo, decide_eq_true rfl, Bool.and_true]
            · rw [pk_uLn c1, decide_eq_false c1, Bool.and_false, Bool.xor_false]
          have e2 : bb (vp_updL (vp_updL fl (Y p (bef (k p) j)) (fl (Y p (bef (k p) j)) ^^^ xlo (X p j))) (Y p j) (vp_updL fl (Y p (bef (k p) j)) (fl (Y p (bef (k p) j)) ^^^ xlo (X p j)) (Y p j) ^^^ xlo (X p j)) v) x = (bb (vp_updL fl (Y p (bef (k p) j)) (fl (Y p (bef (k p) j)) ^^^ xlo (X p j)) v) x ^^ (decide (x < X p j) && decide (v = Y p j))) := by
            by_cases c1 : v = Y p j
            · rw [c1, pk_uLs, bb_xor, hlo, decide_eq_true rfl, Bool.and_true]
            · rw [pk_uLn c1, decide_eq_false c1, Bool.and_false, Bool.xor_false]
          rw [e2, e1, hfl v x hv hx2]
          show _ = (flb (k p) (X p) (Y p) j v x ^^ (std (k p) (X p) x j && _))
          unfold std
          rw [decide_eq_true e, Bool.true_and]
          cases flb (k p) (X p) (Y p) j v x <;> cases decide (x < X p j) <;> cases decide (v = Y p (bef (k p) j)) <;> cases decide (v = Y p j) <;> rfl)
        rw [ebn, ← nI_1 j] at hW
        refine hp_W_pick [0, 1, 2, 3, 4] ?_
        exact hW
  refine hp_run_sound hp_co V_po_paintOne C (fun _ _ _ _ _ _ _ hq => hq) [20] 20 _ _ _ _ _ _ _ ?_
  refine Exists.intro _ (And.intro a1 ?_)
  refine ic_P (hp_M_weak (c_ja_fill l h 39 65 0 fl0 (by decide) h39) (fun _ _ q => q)) (Nat.le_refl _) (Nat.le_refl _) ?_
  refine Exists.intro _ (And.intro (by rw [hq_ne (by decide)]; exact a1) ?_)
  refine Exists.intro .int (Exists.intro 16 (Exists.intro _ (And.intro (Or.inl rfl) (And.intro (by rw [hq_ne (by decide)]; exact a3) (And.intro (in_nI hpp (by decide)) ?_)))))
  rw [nI_clamp (show p < 2 ^ 31 by omega)]
  have h0 := L1 (k p) 0 (h.set 39 (LA 65 (fun j => if j < 65 then 0 else fl0 j))) _ (by omega) (hx_set (hx_rf _ _) _ (by simp)) (hq_get h39) (by rw [hq_ne (fun e => hna e.symm)]; exact hf) (fun v x hv hx2 => by rw [if_pos (by omega), bb_0]; rfl)
  have eb : nI (bef (k p) 0) = nI (k p) - hp_c 1 := (pk_sub (b := 1) (by omega)).symm
  rw [eb] at h0
  exact hp_W_dirty h0
/-! paint -/
def ob (f : Nat → Bool) : Nat → Bool
  | 0 => false
  | n + 1 => ob f n || f n
/-- square (x, y) of base layer L -/
def lin (c : Nat) (lay k : Nat → Nat) (X Y : Nat → Nat → Nat) (L x y : Nat) : Bool := ob (fun p => decide (lay p = L) && !opn k X Y p && pin' (k p) (X p) (Y p) x (y + 1)) c
set_option maxRecDepth 20000 in
theorem c_po_paint (l : Launch) (h : hp_H) (c a L : Nat) (hc : c ≤ 16) (hL : L < 2 ^ 31) (lay k : Nat → Nat) (X Y : Nat → Nat → Nat) (hlay : ∀ p, p < 16 → lay p < 2 ^ 31) (hk : ∀ p, p < 16 → k p ≤ 16) (hX : ∀ p j, p < 16 → X p j ≤ 64) (hY : ∀ p j, p < 16 → Y p j ≤ 64) (f fl0 : Nat → Int64) (ha : isR a) (hf : h[a]? = some (LA 64 f)) (h39 : h[39]? = some (LA 65 fl0)) (hS : poS h c lay k X Y) :
    hp_M l Y_po_paint [.ref 2, .int (nI L), .ref a] h false 0 0 (fun q h' => q = .inl none ∧ hx [39, a] h h' ∧ (∃ fl, h'[39]? = some (LA 65 fl)) ∧ ∃ f', h'[a]? = some (LA 64 f') ∧ ∀ y x, y < 64 → x < 64 → bb (f' y) x = lin c lay k X Y L x y) := by
  refine hp_start (T := T_po_paint) (by decide) rfl (fun σ => Nat.le_of_ble_eq_true rfl) (fun G C => ?_)
  have hna : a ≠ 39 := isR_ne ha (by omega)
  have hps : ∀ q ∈ [39, a], 39 ≤ q := fun q e => by
    unfold isR at ha
    simp at e
    omega
  have key : ∀ (m i : Nat) (H : hp_H) (f' : Nat → Int64), i + m = c → hx [39, a] h H → (∃ fl, H[39]? = some (LA 65 fl)) → H[a]? = some (LA 64 f') → (∀ y x, y < 64 → x < 64 → bb (f' y) x = lin i lay k X Y L x y) →
      hp_W G 7 [(0, .ref 2), (1, .int (nI L)), (2, .ref a), (3, .int (nI i))] [] H false 0 0 := by
    intro m
    induction m with
    | zero =>
      intro i H f' hi x1 h3 h4 hb
      have e : i = c := by omega
      subst e
      have hS' := poS_hx hS x1 hps
      refine hp_run_sound hp_co V_po_paint C (fun _ _ _ _ _ _ _ hq => hq) [7] 10 _ _ _ _ _ _ _ ?_
      refine Exists.intro _ (And.intro hS'.1 ?_)
      refine And.intro (fun q => ?_) (fun q => absurd (nI_le (Nat.le_refl _) (by omega)) q)
      exact And.intro rfl (And.intro rfl (And.intro rfl ⟨x1, h3, f', h4, hb⟩))
    | succ m ih =>
      intro i H f' hi x1 h3 h4 hb
      have hS' := poS_hx hS x1 hps
      obtain ⟨fl, h39'⟩ := id h3
      have hi16 : i < 16 := by omega
      have hls : ∀ x y, lin (i + 1) lay k X Y L x y = (lin i lay k X Y L x y || (decide (lay i = L) && !opn k X Y i && pin' (k i) (X i) (Y i) x (y + 1))) := fun _ _ => rfl
      refine hp_run_sound hp_co V_po_paint C (fun _ _ _ _ _ _ _ hq => hq) [7] 30 _ _ _ _ _ _ _ ?_
      refine Exists.intro _ (And.intro hS'.1 ?_)
      refine And.intro (fun q => absurd q (nI_ge (by omega) (by omega))) (fun q => ?_)
      refine Exists.intro _ (And.intro hS'.1 ?_)
      refine Exists.intro .int (Exists.intro 16 (Exists.intro _ (And.intro (Or.inl rfl) (And.intro hS'.2.1 (And.intro (in_nI hi16 (by decide)) ?_)))))
      rw [nI_clamp (show i < 2 ^ 31 by omega)]
      refine And.intro (fun q => ?_) (fun q => ?_)
      · have e : ¬ lay i = L := fun e => q (by rw [e])
        have hW := ih (i + 1) H f' (by omega) x1 h3 h4 (fun y x hy hx2 => by rw [hls, hb y x hy hx2, decide_eq_false e]; simp)
        rw [← nI_1 i] at hW
        exact hW
      · have e : lay i = L := (nI_eq (hlay i hi16) hL).mp q
        refine And.intro ⟨1, _, hS'.1, rfl⟩ ?_
        refine ic_P (c_po_isOpen l H c i hi16 lay k X Y (hk i hi16) (fun j => hX i j hi16) (fun j => hY i j hi16) hS') (Nat.le_refl _) (Nat.le_refl _) ?_
        cases ho : opn k X Y i with
        | true =>
          refine And.intro (fun q => ?_) (fun q => absurd q (by decide))
          have hW := ih (i + 1) H f' (by omega) x1 h3 h4 (fun y x hy hx2 => by rw [hls, hb y x hy hx2, ho]; simp)
          rw [← nI_1 i] at hW
          exact hW
        | false =>
          have hk0 : 0 < k i := by
            unfold opn at ho
            rw [Bool.or_eq_false_iff] at ho
            have := of_decide_eq_false ho.1
            omega
          refine And.intro (fun q => absurd rfl q) (fun q => ?_)
          refine And.intro ⟨1, _, hS'.1, rfl⟩ ?_
          refine ic_Q (c_po_paintOne l H c i a hi16 lay k X Y hk0 (hk i hi16) (fun j => hX i j hi16) (fun j => hY i j hi16) f' fl ha h4 h39' hS') (Nat.le_refl _) (Nat.le_refl _) (fun r H2 hq => ?_)
          obtain ⟨rfl, x2, k3, f2, k4, kb⟩ := hq
          have hW := ih (i + 1) H2 f2 (by omega) (hx_tr x1 x2 _ (fun q hq => hq) (fun q hq => hq)) k3 k4 (fun y x hy hx2 => by rw [hls, kb y x hy hx2, hb y x hy hx2, ho, decide_eq_true e]; simp)
          rw [← nI_1 i] at hW
          exact hW
  refine hp_run_sound hp_co V_po_paint C (fun _ _ _ _ _ _ _ hq => hq) [7] 20 _ _ _ _ _ _ _ ?_
  refine ic_P (hp_M_weak (c_ja_fill l h a 64 0 f (by decide) hf) (fun _ _ q => q)) (Nat.le_refl _) (Nat.le_refl _) ?_
  have h0 := key c 0 (h.set a (LA 64 (fun j => if j < 64 then 0 else f j))) _ (by omega) (hx_set (hx_rf _ _) _ (by simp)) ⟨fl0, by rw [hq_ne hna]; exact h39⟩ (hq_get hf) (fun y x hy _ => by rw [if_pos hy, bb_0]; rfl)
  exact hp_W_dirty h0
end
section
/-! EdgeSweeps: small methods -/
theorem tw_es0 : tw_ok "EdgeSweeps" 62 66 0 := ⟨by decide +kernel, by decide +kernel, by decide +kernel, by decide +kernel⟩
theorem tw_es1 : tw_ok "EdgeSweeps" 73 77 1 := ⟨by decide +kernel, by decide +kernel, by decide +kernel, by decide +kernel⟩
theorem tw_es2 : tw_ok "EdgeSweeps" 94 98 2 := ⟨by decide +kernel, by decide +kernel, by decide +kernel, by decide +kernel⟩
abbrev ES (B m sn : Nat) : hp_C := .inr (0, [.int (nI B), .ref 2, .ref 40, .int (nI m), .int (nI sn), .ref 65, .ref 72, .ref 73, .ref 74])
abbrev MA : hp_C := .inl (.array .long, 24, .inr (.inr (.inr (.inr (fun p => some (41 + p))))))
set_option maxRecDepth 20000 in
theorem c_es_needIndex (l : Launch) (h : hp_H) (x n : Int32) (h1 : ¬ x < 0) (h2 : ¬ n ≤ x) : hp_M l Y_es_needIndex [.int x, .int n] h true 0 0 (hq_P (.inl none) h) := by
  refine hp_start (T := T_es_needIndex) (by decide) rfl (fun σ => Nat.le_of_ble_eq_true rfl) (fun G C => ?_)
  refine hp_run_sound hp_co V_es_needIndex C (fun _ _ _ _ _ _ _ hq => hq) [9] 10 _ _ _ _ _ _ _ ?_
  refine And.intro (fun q => absurd q h1) (fun q => And.intro (fun q => ?_) (fun q => absurd (Int32.not_le.mp h2) q))
  exact And.intro rfl (And.intro rfl (And.intro rfl rfl))
set_option maxRecDepth 20000 in
theorem c_es_needIndex_no (l : Launch) (h : hp_H) (x n : Int32) (h1 : x < 0 ∨ n ≤ x) : hp_M l Y_es_needIndex [.int x, .int n] h true 1 6 (hq_P (.inr 0) h) := by
  refine hp_start (T := T_es_needIndex) (by decide) rfl (fun σ => Nat.le_of_ble_eq_true rfl) (fun G C => ?_)
  have thr : ∀ lv, hp_W G 9 lv [] h true 0 0 := fun lv => hq_throw (ik := 62) (is := 219) (ic := 66) (ci := 0) (text := "no such thing") V_es_needIndex C tw_es0 (by decide) rfl rfl rfl rfl rfl rfl (by decide) (by decide) (by decide) (by decide) ⟨rfl, rfl⟩
  refine hp_run_sound hp_co V_es_needIndex C (fun _ _ _ _ _ _ _ hq => hq) [9] 10 _ _ _ _ _ _ _ ?_
  refine And.intro (fun q => thr _) (fun q => And.intro (fun q2 => ?_) (fun q2 => thr _))
  rcases h1 with e | e
  · exact absurd e q
  · exact absurd q2 (Int32.not_lt.mpr e)
set_option maxRecDepth 20000 in
theorem c_es_needLayer (l : Launch) (h : hp_H) (B m sn : Nat) (x : Int32) (hp : h[1]? = some (ES B m sn)) (h1 : ¬ x < 0) (h2 : ¬ nI (B + m) ≤ x) : hp_M l Y_es_needLayer [.ref 1, .int x] h true 0 0 (hq_P (.inl none) h) := by
  refine hp_start (T := T_es_needLayer) (by decide) rfl (fun σ => Nat.le_of_ble_eq_true rfl) (fun G C => ?_)
  refine hp_run_sound hp_co V_es_needLayer C (fun _ _ _ _ _ _ _ hq => hq) [] 20 _ _ _ _ _ _ _ ?_
  refine Exists.intro _ (And.intro hp ?_)
  refine Exists.intro _ (And.intro hp ?_)
  refine ic_P (c_es_needIndex l h x (nI B + nI m) h1 (by rw [nI_add]; exact h2)) (Nat.le_refl _) (Nat.le_refl _) ?_
  exact And.intro rfl (And.intro rfl (And.intro rfl rfl))
set_option maxRecDepth 20000 in
theorem c_es_needLayer_no (l : Launch) (h : hp_H) (B m sn : Nat) (x : Int32) (hp : h[1]? = some (ES B m sn)) (h1 : x < 0 ∨ nI (B + m) ≤ x) : hp_M l Y_es_needLayer [.ref 1, .int x] h true 1 6 (hq_P (.inr 0) h) := by
  refine hp_start (T := T_es_needLayer) (by decide) rfl (fun σ => Nat.le_of_ble_eq_true rfl) (fun G C => ?_)
  refine hp_run_sound hp_co V_es_needLayer C (fun _ _ _ _ _ _ _ hq => hq) [] 20 _ _ _ _ _ _ _ ?_
  refine Exists.intro _ (And.intro hp ?_)
  refine Exists.intro _ (And.intro hp ?_)
  refine ic_P (c_es_needIndex_no l h x (nI B + nI m) (by rw [nI_add]; exact h1)) (Nat.le_refl _) (Nat.le_refl _) ?_
  exact And.intro rfl rfl
set_option maxRecDepth 20000 in
theorem c_es_needRoom (l : Launch) (h : hp_H) (B m sn : Nat) (hm : m < 24) (hp : h[1]? = some (ES B m sn)) : hp_M l Y_es_needRoomForLayer [.ref 1] h true 0 0 (hq_P (.inl none) h) := by
  refine hp_start (T := T_es_needRoomForLayer) (by decide) rfl (fun σ => Nat.le_of_ble_eq_true rfl) (fun G C => ?_)
  refine hp_run_sound hp_co V_es_needRoomForLayer C (fun _ _ _ _ _ _ _ hq => hq) [9] 10 _ _ _ _ _ _ _ ?_
  refine Exists.intro _ (And.intro hp ?_)
  refine And.intro (fun q => ?_) (fun q => absurd (nI_lt (b := 24) hm (by decide)) q)
  exact And.intro rfl (And.intro rfl (And.intro rfl rfl))
set_option maxRecDepth 20000 in
theorem c_es_needRoom_no (l : Launch) (h : hp_H) (B m sn : Nat) (hm : m = 24) (hp : h[1]? = some (ES B m sn)) : hp_M l Y_es_needRoomForLayer [.ref 1] h true 1 6 (hq_P (.inr 1) h) := by
  refine hp_start (T := T_es_needRoomForLayer) (by decide) rfl (fun σ => Nat.le_of_ble_eq_true rfl) (fun G C => ?_)
  have thr : ∀ lv, hp_W G 9 lv [] h true 0 0 := fun lv => hq_throw (ik := 73) (is := 221) (ic := 77) (ci := 1) (text := "there are 24 made layers") V_es_needRoomForLayer C tw_es1 (by decide) rfl rfl rfl rfl rfl rfl (by decide) (by decide) (by decide) (by decide) ⟨rfl, rfl⟩
  refine hp_run_sound hp_co V_es_needRoomForLayer C (fun _ _ _ _ _ _ _ hq => hq) [9] 10 _ _ _ _ _ _ _ ?_
  refine Exists.intro _ (And.intro hp ?_)
  exact And.intro (fun q => absurd q (by subst hm; decide)) (fun q => thr _)
set_option maxRecDepth 20000 in
theorem c_es_isBase (l : Launch) (h : hp_H) (B m sn : Nat) (x : Int32) (hp : h[1]? = some (ES B m sn)) : hp_M l Y_es_isBase [.ref 1, .int x] h true 0 0 (hq_P (.inl (some (.int (zI (decide (¬ x < 0 ∧ ¬ nI B ≤ x)))))) h) := by
  refine hp_start (T := T_es_isBase) (by decide) rfl (fun σ => Nat.le_of_ble_eq_true rfl) (fun G C => ?_)
  refine hp_run_sound hp_co V_es_isBase C (fun _ _ _ _ _ _ _ hq => hq) [] 12 _ _ _ _ _ _ _ ?_
  refine And.intro (fun q => ?_) (fun q => Exists.intro _ (And.intro hp (And.intro (fun q2 => ?_) (fun q2 => ?_))))
  · rw [decide_eq_false (fun e => e.1 q)]
    exact And.intro rfl (And.intro rfl (And.intro rfl rfl))
  · rw [decide_eq_false (fun e => e.2 q2)]
    exact And.intro rfl (And.intro rfl (And.intro rfl rfl))
  · rw [decide_eq_true ⟨q, q2⟩]
    exact And.intro rfl (And.intro rfl (And.intro rfl rfl))
set_option maxRecDepth 20000 in
theorem c_es_addMade (l : Launch) (h : hp_H) (B m sn : Nat) (hp : h[1]? = some (ES B m sn)) : hp_M l Y_es_addMade [.ref 1] h false 0 0 (hq_P (.inl (some (.int (nI (B + m))))) (h.set 1 (ES B (m + 1) sn))) := by
  refine hp_start (T := T_es_addMade) (by decide) rfl (fun σ => Nat.le_of_ble_eq_true rfl) (fun G C => ?_)
  refine hp_run_sound hp_co V_es_addMade C (fun _ _ _ _ _ _ _ hq => hq) [] 20 _ _ _ _ _ _ _ ?_
  refine Exists.intro _ (And.intro hp ?_)
  refine Exists.intro _ (And.intro hp ?_)
  refine Exists.intro _ (And.intro hp ?_)
  refine And.intro (Or.inl rfl) (Exists.intro _ (And.intro hp (And.intro (Nat.le_of_ble_eq_true rfl) (And.intro rfl (And.intro rfl ?_)))))
  rw [← nI_add B m]
  unfold ES
  rw [← nI_1 m]
  exact And.intro rfl (And.intro rfl (And.intro rfl rfl))
end
section
/-! THE STATE that class and reference share: base layers, made, strips, polygons; each polygon's layer, corners, their x and y; the rows of made layers -/
abbrev St : Type := Nat × Nat × Nat × Nat × (Nat → Nat) × (Nat → Nat) × (Nat → Nat → Nat) × (Nat → Nat → Nat) × (Nat → Nat → Int64)
abbrev s_B (s : St) : Nat := s.1
abbrev s_m (s : St) : Nat := s.2.1
abbrev s_n (s : St) : Nat := s.2.2.1
abbrev s_c (s : St) : Nat := s.2.2.2.1
abbrev s_lay (s : St) : Nat → Nat := s.2.2.2.2.1
abbrev s_k (s : St) : Nat → Nat := s.2.2.2.2.2.1
abbrev s_X (s : St) : Nat → Nat → Nat := s.2.2.2.2.2.2.1
abbrev s_Y (s : St) : Nat → Nat → Nat := s.2.2.2.2.2.2.2.1
abbrev s_D (s : St) : Nat → Nat → Int64 := s.2.2.2.2.2.2.2.2
def stOK (s : St) : Prop := 1 ≤ s_B s ∧ s_B s ≤ 65536 ∧ s_m s ≤ 24 ∧ 1 ≤ s_n s ∧ s_n s ≤ 64 ∧ s_c s ≤ 16 ∧ (∀ p, p < 16 → s_lay s p ≤ 65536) ∧ (∀ p, p < 16 → s_k s p ≤ 16) ∧ (∀ p j, p < 16 → s_X s p j ≤ 64) ∧ ∀ p j, p < 16 → s_Y s p j ≤ 64
/-- what the class works in -/
def wkS (h : hp_H) : Prop := (∃ f, h[39]? = some (LA 65 f)) ∧ (∃ rc sc, h[65]? = some (PA rc sc)) ∧ (∃ f, h[66]? = some (LA 2048 f)) ∧ (∃ g, h[67]? = some (NA 2048 g)) ∧ (∃ g, h[68]? = some (NA 2048 g)) ∧ (∃ g, h[69]? = some (NA 2048 g)) ∧ (∃ M, h[70]? = some (BA 2048 M)) ∧ (∃ g, h[71]? = some (NA 65 g)) ∧ (∃ f, h[72]? = some (LA 64 f)) ∧ (∃ f, h[73]? = some (LA 64 f)) ∧ ∃ f, h[74]? = some (LA 64 f)
def esS (h : hp_H) (s : St) : Prop := h[1]? = some (ES (s_B s) (s_m s) (s_n s)) ∧ poS h (s_c s) (s_lay s) (s_k s) (s_X s) (s_Y s) ∧ h[40]? = some MA ∧ (∀ i, i < 24 → h[41 + i]? = some (LA 64 (s_D s i))) ∧ wkS h
/-- square (x, y) of layer L -/
def inL (s : St) (L x y : Nat) : Bool := if L < s_B s then lin (s_c s) (s_lay s) (s_k s) (s_X s) (s_Y s) L x y else bb (s_D s (L - s_B s) y) x
/-- the places that calls work in, and those of made layers -/
def wkP : List Nat := [39, 65, 66, 67, 68, 69, 70, 71, 72, 73, 74]
theorem esS_hx {h h' : hp_H} {s : St} (hS : esS h s) (hH : hx wkP h h') (hw : wkS h') : esS h' s := by
  obtain ⟨a1, a2, a3, a4, a5⟩ := hS
  exact ⟨hx_at hH (by decide) a1, poS_hx a2 hH (by decide), hx_at hH (by decide) a3, fun i hi => hx_at hH (by unfold wkP; simp; omega) (a4 i hi), hw⟩
/-- arrays of the work stay arrays where only contents change -/
theorem wkS_hx {h h' : hp_H} {ps : List Nat} (hH : hx ps h h') (hw : wkS h) (h39 : 39 ∉ ps ∨ ∃ f, h'[39]? = some (LA 65 f)) (h65 : 65 ∉ ps ∨ ∃ rc sc, h'[65]? = some (PA rc sc)) (h66 : 66 ∉ ps ∨ ∃ f, h'[66]? = some (LA 2048 f)) (h67 : 67 ∉ ps ∨ ∃ f, h'[67]? = some (NA 2048 f)) (h68 : 68 ∉ ps ∨ ∃ f, h'[68]? = some (NA 2048 f)) (h69 : 69 ∉ ps ∨ ∃ f, h'[69]? = some (NA 2048 f)) (h70 : 70 ∉ ps ∨ ∃ f, h'[70]? = some (BA 2048 f)) (h71 : 71 ∉ ps ∨ ∃ f, h'[71]? = some (NA 65 f)) (h72 : 72 ∉ ps ∨ ∃ f, h'[72]? = some (LA 64 f)) (h73 : 73 ∉ ps ∨ ∃ f, h'[73]? = some (LA 64 f)) (h74 : 74 ∉ ps ∨ ∃ f, h'[74]? = some (LA 64 f)) : wkS h' := by
  obtain ⟨⟨w1, v1⟩, ⟨w2, u2, v2⟩, ⟨w3, v3⟩, ⟨w4, v4⟩, ⟨w5, v5⟩, ⟨w6, v6⟩, ⟨w7, v7⟩, ⟨w8, v8⟩, ⟨w9, v9⟩, ⟨w10, v10⟩, ⟨w11, v11⟩⟩ := hw
  refine ⟨?_, ?_, ?_, ?_, ?_, ?_, ?_, ?_, ?_, ?_, ?_⟩
  · exact h39.elim (fun q => ⟨_, hx_at hH q v1⟩) id
  · exact h65.elim (fun q => ⟨_, _, hx_at hH q v2⟩) id
  · exact h66.elim (fun q => ⟨_, hx_at hH q v3⟩) id
  · exact h67.elim (fun q => ⟨_, hx_at hH q v4⟩) id
  · exact h68.elim (fun q => ⟨_, hx_at hH q v5⟩) id
  · exact h69.elim (fun q => ⟨_, hx_at hH q v6⟩) id
  · exact h70.elim (fun q => ⟨_, hx_at hH q v7⟩) id
  · exact h71.elim (fun q => ⟨_, hx_at hH q v8⟩) id
  · exact h72.elim (fun q => ⟨_, hx_at hH q v9⟩) id
  · exact h73.elim (fun q => ⟨_, hx_at hH q v10⟩) id
  · exact h74.elim (fun q => ⟨_, hx_at hH q v11⟩) id
/-- rows f show layer L -/
def shw (s : St) (L : Nat) (f : Nat → Int64) : Prop := ∀ y x, y < 64 → x < 64 → bb (f y) x = inL s L x y
set_option maxRecDepth 20000 in
theorem c_es_areaOf (l : Launch) (h : hp_H) (s : St) (L a : Nat) (hO : stOK s) (hS : esS h s) (hL : L < s_B s + s_m s) (ha : a = 72 ∨ a = 73) :
    hp_M l Y_es_areaOf [.ref 1, .int (nI L), .ref a] h false 0 0 (fun q h' => ∃ b f, q = .inl (some (.ref b)) ∧ (b = a ∨ (41 ≤ b ∧ b < 41 + s_m s)) ∧ h'[b]? = some (LA 64 f) ∧ shw s L f ∧ hx [39, a] h h' ∧ esS h' s) := by
  obtain ⟨o1, o2, o3, o4, o5, o6, o7, o8, o9, o10⟩ := hO
  obtain ⟨a1, a2, a3, a4, a5⟩ := id hS
  obtain ⟨⟨w1, v1⟩, ⟨w2, u2, v2⟩, ⟨w3, v3⟩, ⟨w4, v4⟩, ⟨w5, v5⟩, ⟨w6, v6⟩, ⟨w7, v7⟩, ⟨w8, v8⟩, ⟨w9, v9⟩, ⟨w10, v10⟩, ⟨w11, v11⟩⟩ := id a5
  refine hp_start (T := T_es_areaOf) (by decide) rfl (fun σ => Nat.le_of_ble_eq_true rfl) (fun G C => ?_)
  have hsub : (nI L - nI (s_B s)).toInt = (L : Int) - s_B s := pk_sub_toInt (by omega) (by omega)
  have tail : L < s_B s → ∀ v, hp_W G 26 [(0, .ref 1), (1, .int (nI L)), (2, .ref a), (3, v)] [] h true 0 0 := by
    intro hlt v
    refine hp_run_sound hp_co V_es_areaOf C (fun _ _ _ _ _ _ _ hq => hq) [] 20 _ _ _ _ _ _ _ ?_
    refine Exists.intro _ (And.intro a1 ?_)
    refine And.intro ⟨1, _, a2.1, rfl⟩ ?_
    have hfa : ∃ f, h[a]? = some (LA 64 f) := by
      rcases ha with e | e
      · subst e; exact ⟨_, v9⟩
      · subst e; exact ⟨_, v10⟩
    obtain ⟨f0, hf0⟩ := hfa
    have hra : isR a := by unfold isR; omega
    refine ic_Q (c_po_paint l h (s_c s) a L o6 (by omega) (s_lay s) (s_k s) (s_X s) (s_Y s) (fun p hp => by have := o7 p hp; omega) o8 o9 o10 f0 w1 hra hf0 v1 a2) (Nat.le_refl _) (Nat.le_refl _) (fun r h2 hq => ?_)
    obtain ⟨rfl, x1, ⟨fl, k1⟩, f', k2, k3⟩ := hq
    refine And.intro rfl (And.intro ⟨_, rfl⟩ ⟨a, f', rfl, Or.inl rfl, k2, fun y x hy hx2 => ?_, x1, ?_⟩)
    · unfold inL
      rw [if_pos hlt]
      exact k3 y x hy hx2
    · refine esS_hx hS (hx_tr x1 (hx_rf [] _) _ (fun q hq => ?_) (fun q hq => by cases hq)) ?_
      · unfold wkP
        simp at hq ⊢
        omega
      · have m : ∀ q, q ≠ 39 → q ≠ a → q ∉ [39, a] := fun q q1 q2 e => by simp at e; omega
        refine wkS_hx x1 a5 (Or.inr ⟨_, k1⟩) (Or.inl (m _ (by omega) (by omega))) (Or.inl (m _ (by omega) (by omega))) (Or.inl (m _ (by omega) (by omega))) (Or.inl (m _ (by omega) (by omega))) (Or.inl (m _ (by omega) (by omega))) (Or.inl (m _ (by omega) (by omega))) (Or.inl (m _ (by omega) (by omega))) ?_ ?_ (Or.inl (m _ (by omega) (by omega)))
        · rcases ha with e | e
          · subst e; exact Or.inr ⟨_, k2⟩
          · exact Or.inl (m _ (by omega) (by omega))
        · rcases ha with e | e
          · exact Or.inl (m _ (by omega) (by omega))
          · subst e; exact Or.inr ⟨_, k2⟩
  refine hp_run_sound hp_co V_es_areaOf C (fun _ _ _ _ _ _ _ hq => hq) [26] 20 _ _ _ _ _ _ _ ?_
  refine Exists.intro _ (And.intro a1 ?_)
  refine And.intro (fun q => ?_) (fun q => ?_)
  · have q1 : nI L - nI (s_B s) < 0 := q
    have q2 := Int32.lt_iff_toInt_lt.mp q1
    rw [hsub] at q2
    exact tail (by have : (0 : Int32).toInt = 0 := rfl; omega) _
  · have q1 : ¬ nI L - nI (s_B s) < 0 := q
    have hge : s_B s ≤ L := by
      rcases Nat.lt_or_ge L (s_B s) with e | e
      · exact absurd (pk_sneg (by omega) e) q1
      · exact e
    have es : nI L - nI (s_B s) = nI (L - s_B s) := pk_sub hge
    refine Exists.intro _ (And.intro a1 ?_)
    refine And.intro (fun q => ?_) (fun q => ?_)
    · have q3 : nI (s_m s) ≤ nI L - nI (s_B s) := q
      rw [es] at q3
      exact absurd q3 (nI_ge (by omega) (by omega))
    · refine Exists.intro _ (And.intro a1 ?_)
      refine Exists.intro _ (Exists.intro 24 (Exists.intro _ (And.intro a3 (And.intro (show vp_in (nI L - nI (s_B s)) 24 from by rw [es]; exact in_nI (by omega) (by decide)) ?_))))
      refine And.intro rfl (And.intro ⟨_, rfl⟩ ⟨41 + (L - s_B s), s_D s (L - s_B s), ?_, Or.inr ⟨Nat.le_add_right _ _, Nat.add_lt_add_left (show L - s_B s < s_m s by omega) 41⟩, a4 _ (by omega), fun y x hy hx2 => ?_, hx_rf _ _, hS⟩)
      · show (Sum.inl (some (Value.ref (41 + (nI L - nI (s_B s)).toNatClampNeg))) : hp_R) = _
        rw [es, nI_clamp (by omega)]
      · unfold inL
        rw [if_neg (by omega)]
set_option maxRecDepth 20000 in
theorem c_es_markTouching (l : Launch) (h : hp_H) (s : St) (a b : Nat) (f e : Nat → Int64) (ha : isR a) (ha2 : a ≠ 74) (hb : isR b) (hf : h[a]? = some (LA 64 f)) (he : h[b]? = some (LA 64 e)) (hS : esS h s) :
    hp_M l Y_es_markTouching [.ref 1, .ref a, .ref b] h false 0 0 (fun q h' => q = .inl none ∧ hx [65, 66, 67, 69, 70, 71, 74] h h' ∧ esS h' s ∧ ∃ g o M t, fS f h' g o ∧ h'[70]? = some (BA 2048 M) ∧ (∀ y, y < 64 → t y = xtu (fun x => xrs true (xtu (fun v => xrs true (e v) 1) x) 1) y) ∧ ∀ i, i < cn (hdb g) (rs f 64) → (M i = true ↔ mtQ f t o 64 0 i)) := by
  obtain ⟨a1, a2, a3, a4, a5⟩ := id hS
  obtain ⟨⟨w1, v1⟩, ⟨w2, u2, v2⟩, ⟨w3, v3⟩, ⟨w4, v4⟩, ⟨w5, v5⟩, ⟨w6, v6⟩, ⟨w7, v7⟩, ⟨w8, v8⟩, ⟨w9, v9⟩, ⟨w10, v10⟩, ⟨w11, v11⟩⟩ := id a5
  refine hp_start (T := T_es_markTouching) (by decide) rfl (fun σ => Nat.le_of_ble_eq_true rfl) (fun G C => ?_)
  refine hp_run_sound hp_co V_es_markTouching C (fun _ _ _ _ _ _ _ hq => hq) [] 30 _ _ _ _ _ _ _ ?_
  refine Exists.intro _ (And.intro a1 ?_)
  refine ic_Q (c_ro_resize l h b 74 1 1 true (by decide) (by decide) e w11 he v11) (Nat.le_refl _) (Nat.le_refl _) (fun r h1 hq => ?_)
  obtain ⟨rfl, t, rfl, ht⟩ := hq
  have n74 : ∀ q, q ≠ 74 → 74 ≠ q := fun q e => e.symm
  refine Exists.intro _ (And.intro (by rw [hq_ne (by decide)]; exact a1) ?_)
  refine And.intro ⟨2, _, (by rw [hq_ne (by decide)]; exact v2), rfl⟩ ?_
  refine ic_Q (c_pa_findShapes l (h.set 74 (LA 64 t)) a w2 u2 f w3 w4 w6 w8 ha (by rw [hq_ne (n74 _ ha2)]; exact hf) (by rw [hq_ne (by decide)]; exact v2) (by rw [hq_ne (by decide)]; exact v3) (by rw [hq_ne (by decide)]; exact v4) (by rw [hq_ne (by decide)]; exact v6) (by rw [hq_ne (by decide)]; exact v8)) (Nat.le_refl _) (Nat.le_refl _) (fun r h2 hq => ?_)
  obtain ⟨rfl, x2, g, o, hfs⟩ := hq
  have x1 : hx [65, 66, 67, 69, 70, 71, 74] h (h.set 74 (LA 64 t)) := hx_set (hx_rf _ _) _ (by decide)
  have x12 : hx [65, 66, 67, 69, 70, 71, 74] h h2 := hx_tr x1 x2 _ (fun q hq => hq) (by decide)
  have k74 : h2[74]? = some (LA 64 t) := hx_at x2 (by decide) (hq_get v11)
  have k70 : h2[70]? = some (BA 2048 w7) := hx_at x2 (by decide) (by rw [hq_ne (by decide)]; exact v7)
  have k1 : h2[1]? = some (ES (s_B s) (s_m s) (s_n s)) := hx_at x12 (by decide) a1
  obtain ⟨p65, r65, hp65⟩ : ∃ rc sc, h2[65]? = some (PA rc sc) := by
    obtain ⟨q1, q2, q3, -⟩ := hfs
    exact ⟨_, _, q3⟩
  refine Exists.intro _ (And.intro k1 ?_)
  refine Exists.intro _ (And.intro k1 ?_)
  refine And.intro ⟨2, _, hp65, rfl⟩ ?_
  refine ic_Q (c_pa_markMeeting l h2 74 f t g o w7 (Or.inr ⟨by omega, by omega⟩) k74 hfs k70) (Nat.le_refl _) (Nat.le_refl _) (fun r h3 hq => ?_)
  obtain ⟨rfl, M, rfl, hM⟩ := hq
  have x3 : hx [65, 66, 67, 69, 70, 71, 74] h (h2.set 70 (BA 2048 M)) := hx_set x12 _ (by decide)
  have x23 : hx [70] h2 (h2.set 70 (BA 2048 M)) := hx_set (hx_rf _ _) _ (by decide)
  have hfs3 : fS f (h2.set 70 (BA 2048 M)) g o := fS_hx hfs x23 (by decide) (by decide) (by decide) (by decide) (by decide)
  have k70' : (h2.set 70 (BA 2048 M))[70]? = some (BA 2048 M) := hq_get k70
  refine And.intro rfl (And.intro rfl (And.intro rfl ⟨x3, ?_, g, o, M, t, hfs3, k70', ht, hM⟩))
  refine esS_hx hS (hx_tr x3 (hx_rf [] _) _ (by decide) (by decide)) ?_
  obtain ⟨q1, q2, z65, z66, z67, z69, z71, -⟩ := id hfs3
  exact wkS_hx x3 a5 (Or.inl (by decide)) (Or.inr ⟨_, _, z65⟩) (Or.inr ⟨_, z66⟩) (Or.inr ⟨_, z67⟩) (Or.inl (by decide)) (Or.inr ⟨_, z69⟩) (Or.inr ⟨_, k70'⟩) (Or.inr ⟨_, z71⟩) (Or.inl (by decide)) (Or.inl (by decide)) (Or.inr ⟨_, hx_at x23 (by decide) k74⟩)
end
section
/-! EdgeSweeps' public methods: code 0 is an answer, code c + 1 a throw of exception c -/
def ans (c : Nat) (v : Value) (r : hp_R) : Prop := match c with
  | 0 => r = .inl (some v)
  | c + 1 => r = .inr c
def hxC (h h' : hp_H) : Prop := h'.length = h.length ∧ ∀ q, (q = 0 ∨ 75 ≤ q) → h'[q]? = h[q]?
theorem hxC_rf (h : hp_H) : hxC h h := ⟨rfl, fun _ _ => rfl⟩
theorem hxC_tr {h h' h'' : hp_H} (a : hxC h h') (b : hxC h' h'') : hxC h h'' := ⟨b.1.trans a.1, fun q hq => (b.2 q hq).trans (a.2 q hq)⟩
theorem hxC_of {ps : List Nat} {h h' : hp_H} (a : hx ps h h') (hp : ∀ q ∈ ps, 1 ≤ q ∧ q < 75) : hxC h h' := ⟨a.1, fun q hq => a.2 q (fun e => by have := hp q e; omega)⟩
def clsM (l : Launch) (Y : hp_Y) (av : List Value) (s : St) (c : Nat) (v : Value) (s' : St) : Prop := ∀ h, esS h s → hp_M l Y (.ref 1 :: av) h false 1 6 (fun r h' => ans c v r ∧ hxC h h' ∧ esS h' s')
abbrev St' (B m n c : Nat) (lay k : Nat → Nat) (X Y : Nat → Nat → Nat) (D : Nat → Nat → Int64) : St := (B, m, n, c, lay, k, X, Y, D)
theorem wkS_lo {h h' : hp_H} {ps : List Nat} (hH : hx ps h h') (hw : wkS h) (hp : ∀ q ∈ ps, q < 39 ∨ (40 ≤ q ∧ q < 65)) : wkS h' := by
  have m : ∀ q, q = 39 ∨ 65 ≤ q → q ∉ ps := fun q hq e => by have := hp q e; omega
  exact wkS_hx hH hw (Or.inl (m _ (by omega))) (Or.inl (m _ (by omega))) (Or.inl (m _ (by omega))) (Or.inl (m _ (by omega))) (Or.inl (m _ (by omega))) (Or.inl (m _ (by omega))) (Or.inl (m _ (by omega))) (Or.inl (m _ (by omega))) (Or.inl (m _ (by omega))) (Or.inl (m _ (by omega))) (Or.inl (m _ (by omega)))
theorem poS_1 {h : hp_H} {c : Nat} {lay k : Nat → Nat} {X Y : Nat → Nat → Nat} (hS : poS h c lay k X Y) (d : hp_C) : poS (h.set 1 d) c lay k X Y := by
  obtain ⟨a1, a2, a3, a4, a5, a6, a7⟩ := hS
  exact ⟨by rw [hq_ne (by decide)]; exact a1, by rw [hq_ne (by decide)]; exact a2, by rw [hq_ne (by decide)]; exact a3, by rw [hq_ne (by decide)]; exact a4, fun p hp => by rw [hq_ne (by omega)]; exact a5 p hp, by rw [hq_ne (by decide)]; exact a6, fun p hp => by rw [hq_ne (by omega)]; exact a7 p hp⟩
theorem esS_1 {h : hp_H} {s : St} (hS : esS h s) (m n : Nat) : esS (h.set 1 (ES (s_B s) m n)) (St' (s_B s) m n (s_c s) (s_lay s) (s_k s) (s_X s) (s_Y s) (s_D s)) := by
  obtain ⟨a1, a2, a3, a4, a5⟩ := hS
  exact ⟨hq_get a1, poS_1 a2 _, by rw [hq_ne (by decide)]; exact a3, fun i hi => by rw [hq_ne (by omega)]; exact a4 i hi, wkS_lo (hx_set (hx_rf [1] h) _ (by decide)) a5 (by decide)⟩
/-- where the polygons' cells changed -/
theorem esS_po {h h' : hp_H} {s : St} (hS : esS h s) {ps : List Nat} (hH : hx ps h h') (hp : ∀ q ∈ ps, 2 ≤ q ∧ q < 39) {c : Nat} {lay k : Nat → Nat} {X Y : Nat → Nat → Nat} (hP : poS h' c lay k X Y) : esS h' (St' (s_B s) (s_m s) (s_n s) c lay k X Y (s_D s)) := by
  obtain ⟨a1, a2, a3, a4, a5⟩ := hS
  have m : ∀ q, q < 2 ∨ 39 ≤ q → q ∉ ps := fun q hq e => by have := hp q e; omega
  exact ⟨hx_at hH (m _ (by omega)) a1, hP, hx_at hH (m _ (by omega)) a3, fun i hi => hx_at hH (m _ (by omega)) (a4 i hi), wkS_lo hH a5 (fun q hq => by have := hp q hq; omega)⟩
set_option maxRecDepth 20000 in
theorem k_polygon_1 (l : Launch) (s : St) (x : Int32) (v : Value) (hx0 : x < 0 ∨ nI (s_B s) ≤ x) : clsM l Y_es_polygon [.int x] s 1 v s := by
  intro h hS
  refine hp_start (T := T_es_polygon) (by decide) rfl (fun σ => Nat.le_of_ble_eq_true rfl) (fun G C => ?_)
  have thr : ∀ lv, hp_W G 8 lv [] h true 0 0 := fun lv => hq_throw (ik := 62) (is := 64) (ic := 66) (ci := 0) (text := "no such base layer") V_es_polygon C tw_es0 (by decide) rfl rfl rfl rfl rfl rfl (by decide) (by decide) (by decide) (by decide) ⟨rfl, hxC_rf h, hS⟩
  refine hp_run_sound hp_co V_es_polygon C (fun _ _ _ _ _ _ _ hq => hq) [8] 12 _ _ _ _ _ _ _ ?_
  refine And.intro ⟨0, _, hS.1, rfl⟩ ?_
  refine ic_P (c_es_isBase l h _ _ _ x hS.1) (Nat.le_add_left _ _) (Nat.le_add_left _ _) ?_
  rw [decide_eq_false (fun e => by rcases hx0 with q | q; exact e.1 q; exact e.2 q)]
  exact And.intro (fun q => absurd rfl q) (fun q => thr _)
set_option maxRecDepth 20000 in
theorem k_polygon_2 (l : Launch) (s : St) (x : Int32) (v : Value) (h1 : ¬ x < 0) (h2 : ¬ nI (s_B s) ≤ x) (hc : s_c s = 16) : clsM l Y_es_polygon [.int x] s 2 v s := by
  intro h hS
  refine hp_start (T := T_es_polygon) (by decide) rfl (fun σ => Nat.le_of_ble_eq_true rfl) (fun G C => ?_)
  have thr : ∀ lv, hp_W G 28 lv [] h true 0 0 := fun lv => hq_throw (ik := 73) (is := 75) (ic := 77) (ci := 1) (text := "there are 16 polygons") V_es_polygon C tw_es1 (by decide) rfl rfl rfl rfl rfl rfl (by decide) (by decide) (by decide) (by decide) ⟨rfl, hxC_rf h, hS⟩
  refine hp_run_sound hp_co V_es_polygon C (fun _ _ _ _ _ _ _ hq => hq) [28] 20 _ _ _ _ _ _ _ ?_
  refine And.intro ⟨0, _, hS.1, rfl⟩ ?_
  refine ic_P (c_es_isBase l h _ _ _ x hS.1) (Nat.le_add_left _ _) (Nat.le_add_left _ _) ?_
  rw [decide_eq_true ⟨h1, h2⟩]
  refine And.intro (fun q => ?_) (fun q => absurd q (by decide))
  refine Exists.intro _ (And.intro hS.1 ?_)
  refine And.intro ⟨1, _, hS.2.1.1, rfl⟩ ?_
  refine ic_P (c_po_isFull l h _ (by omega) hS.2.1.1) (Nat.le_add_left _ _) (Nat.le_add_left _ _) ?_
  rw [decide_eq_true (by omega : 16 ≤ s_c s)]
  exact And.intro (fun q => absurd q (by decide)) (fun q => thr _)
set_option maxRecDepth 20000 in
theorem k_polygon_0 (l : Launch) (s : St) (L : Nat) (hB : s_B s ≤ 65536) (hL : L < s_B s) (hc : s_c s < 16) : clsM l Y_es_polygon [.int (nI L)] s 0 (.int (nI (s_c s))) (St' (s_B s) (s_m s) (s_n s) (s_c s + 1) (updN (s_lay s) (s_c s) L) (updN (s_k s) (s_c s) 0) (s_X s) (s_Y s) (s_D s)) := by
  intro h hS
  refine hp_start (T := T_es_polygon) (by decide) rfl (fun σ => Nat.le_of_ble_eq_true rfl) (fun G C => ?_)
  refine hp_run_sound hp_co V_es_polygon C (fun _ _ _ _ _ _ _ hq => hq) [] 30 _ _ _ _ _ _ _ ?_
  refine And.intro ⟨0, _, hS.1, rfl⟩ ?_
  refine ic_P (c_es_isBase l h _ _ _ (nI L) hS.1) (Nat.le_add_left _ _) (Nat.le_add_left _ _) ?_
  rw [decide_eq_true ⟨nI_pos (by omega), nI_ge hL (by omega)⟩]
  refine And.intro (fun q => ?_) (fun q => absurd q (by decide))
  refine Exists.intro _ (And.intro hS.1 ?_)
  refine And.intro ⟨1, _, hS.2.1.1, rfl⟩ ?_
  refine ic_P (c_po_isFull l h _ (by omega) hS.2.1.1) (Nat.le_add_left _ _) (Nat.le_add_left _ _) ?_
  rw [decide_eq_false (by omega : ¬ 16 ≤ s_c s)]
  refine And.intro (fun q => ?_) (fun q => absurd rfl q)
  refine Exists.intro _ (And.intro hS.1 ?_)
  refine And.intro ⟨1, _, hS.2.1.1, rfl⟩ ?_
  refine ic_Q (c_po_start l h _ L hc _ _ _ _ hS.2.1) (Nat.le_add_left _ _) (Nat.le_add_left _ _) (fun r h2 hq => ?_)
  obtain ⟨rfl, x2, hP⟩ := hq
  exact And.intro rfl (And.intro rfl (And.intro rfl ⟨hxC_of x2 (by decide), esS_po hS x2 (by decide) hP⟩))
end
section
/-! corner, clear, strips -/
theorem lN_j {n : Nat} (h : n < 2 ^ 64) : (lN n).toInt32 = nI n := by rw [nn_i, nn_lN h]
theorem stP {s : St} {h : hp_H} (hS : esS h s) : h[2]? = some (PO (s_c s)) := hS.2.1.1
set_option maxRecDepth 20000 in
theorem k_corner_1 (l : Launch) (s : St) (x : Int32) (a b : Int64) (v : Value) (hx0 : x < 0 ∨ nI (s_c s) ≤ x) : clsM l Y_es_corner [.int x, .long a, .long b] s 1 v s := by
  intro h hS
  refine hp_start (T := T_es_corner) (by decide) rfl (fun σ => Nat.le_of_ble_eq_true rfl) (fun G C => ?_)
  have thr : ∀ lv, hp_W G 11 lv [] h true 0 0 := fun lv => hq_throw (ik := 62) (is := 85) (ic := 66) (ci := 0) (text := "no such polygon") V_es_corner C tw_es0 (by decide) rfl rfl rfl rfl rfl rfl (by decide) (by decide) (by decide) (by decide) ⟨rfl, hxC_rf h, hS⟩
  refine hp_run_sound hp_co V_es_corner C (fun _ _ _ _ _ _ _ hq => hq) [11] 12 _ _ _ _ _ _ _ ?_
  refine Exists.intro _ (And.intro hS.1 ?_)
  refine And.intro ⟨1, _, stP hS, rfl⟩ ?_
  refine ic_P (c_po_has l h _ x (stP hS)) (Nat.le_add_left _ _) (Nat.le_add_left _ _) ?_
  rw [decide_eq_false (fun e => by rcases hx0 with q | q; exact e.1 q; exact e.2 q)]
  exact And.intro (fun q => absurd rfl q) (fun q => thr _)
set_option maxRecDepth 20000 in
theorem k_corner_2 (l : Launch) (s : St) (p : Nat) (a b : Int64) (v : Value) (hO : stOK s) (hp : p < s_c s) (hk : s_k s p = 16) : clsM l Y_es_corner [.int (nI p), .long a, .long b] s 2 v s := by
  intro h hS
  obtain ⟨o1, o2, o3, o4, o5, o6, o7, o8, o9, o10⟩ := hO
  refine hp_start (T := T_es_corner) (by decide) rfl (fun σ => Nat.le_of_ble_eq_true rfl) (fun G C => ?_)
  have thr : ∀ lv, hp_W G 32 lv [] h true 0 0 := fun lv => hq_throw (ik := 73) (is := 90) (ic := 77) (ci := 1) (text := "the polygon has 16 corners") V_es_corner C tw_es1 (by decide) rfl rfl rfl rfl rfl rfl (by decide) (by decide) (by decide) (by decide) ⟨rfl, hxC_rf h, hS⟩
  refine hp_run_sound hp_co V_es_corner C (fun _ _ _ _ _ _ _ hq => hq) [32] 20 _ _ _ _ _ _ _ ?_
  refine Exists.intro _ (And.intro hS.1 ?_)
  refine And.intro ⟨1, _, stP hS, rfl⟩ ?_
  refine ic_P (c_po_has l h _ (nI p) (stP hS)) (Nat.le_add_left _ _) (Nat.le_add_left _ _) ?_
  rw [decide_eq_true ⟨nI_pos (by omega), nI_ge hp (by omega)⟩]
  refine And.intro (fun q => ?_) (fun q => absurd q (by decide))
  refine Exists.intro _ (And.intro hS.1 ?_)
  refine And.intro ⟨1, _, stP hS, rfl⟩ ?_
  refine ic_P (c_po_hasAllCorners l h _ p (by omega) _ (o8 p (by omega)) (stP hS) hS.2.1.2.2.1) (Nat.le_add_left _ _) (Nat.le_add_left _ _) ?_
  rw [decide_eq_true (by omega : 16 ≤ s_k s p)]
  exact And.intro (fun q => absurd q (by decide)) (fun q => thr _)
set_option maxRecDepth 20000 in
theorem k_corner_3 (l : Launch) (s : St) (p : Nat) (a b : Int64) (v : Value) (hO : stOK s) (hp : p < s_c s) (hk : s_k s p < 16) (hab : a < 0 ∨ 64 < a ∨ b < 0 ∨ 64 < b) : clsM l Y_es_corner [.int (nI p), .long a, .long b] s 3 v s := by
  intro h hS
  obtain ⟨o1, o2, o3, o4, o5, o6, o7, o8, o9, o10⟩ := hO
  refine hp_start (T := T_es_corner) (by decide) rfl (fun σ => Nat.le_of_ble_eq_true rfl) (fun G C => ?_)
  have thr : ∀ lv, hp_W G 72 lv [] h true 0 0 := fun lv => hq_throw (ik := 94) (is := 96) (ic := 98) (ci := 2) (text := "x or y is not 0 .. 64") V_es_corner C tw_es2 (by decide) rfl rfl rfl rfl rfl rfl (by decide) (by decide) (by decide) (by decide) ⟨rfl, hxC_rf h, hS⟩
  refine hp_run_sound hp_co V_es_corner C (fun _ _ _ _ _ _ _ hq => hq) [72] 40 _ _ _ _ _ _ _ ?_
  refine Exists.intro _ (And.intro hS.1 ?_)
  refine And.intro ⟨1, _, stP hS, rfl⟩ ?_
  refine ic_P (c_po_has l h _ (nI p) (stP hS)) (Nat.le_add_left _ _) (Nat.le_add_left _ _) ?_
  rw [decide_eq_true ⟨nI_pos (by omega), nI_ge hp (by omega)⟩]
  refine And.intro (fun q => ?_) (fun q => absurd q (by decide))
  refine Exists.intro _ (And.intro hS.1 ?_)
  refine And.intro ⟨1, _, stP hS, rfl⟩ ?_
  refine ic_P (c_po_hasAllCorners l h _ p (by omega) _ (o8 p (by omega)) (stP hS) hS.2.1.2.2.1) (Nat.le_add_left _ _) (Nat.le_add_left _ _) ?_
  rw [decide_eq_false (by omega : ¬ 16 ≤ s_k s p)]
  refine And.intro (fun q => ?_) (fun q => absurd rfl q)
  refine And.intro (fun q1 => thr _) (fun q1 => And.intro (fun q2 => thr _) (fun q2 => And.intro (fun q3 => thr _) (fun q3 => And.intro (fun q4 => ?_) (fun q4 => thr _))))
  exfalso
  rcases hab with e | e | e | e
  · exact q1 ((lg_cmp_lt _ _).mpr e)
  · exact q2 ((lg_cmp_gt _ _).mpr e)
  · exact q3 ((lg_cmp_lt _ _).mpr e)
  · exact absurd ((lg_cmp_le _ _).mp q4) (Int64.not_le.mpr e)
theorem lN_nneg {n : Nat} (h : n < 2 ^ 63) : ¬ lN n < 0 := fun q => by
  have := Int64.lt_iff_toInt_lt.mp q
  rw [pk_lT h] at this
  have h0 : (0 : Int64).toInt = 0 := rfl
  omega
theorem lN_n64 {n : Nat} (h : n ≤ 64) : ¬ 64 < lN n := fun q => by
  have := Int64.lt_iff_toInt_lt.mp q
  rw [pk_lT (by omega)] at this
  have h0 : (64 : Int64).toInt = 64 := rfl
  omega
set_option maxRecDepth 20000 in
theorem k_corner_f (l : Launch) (s : St) (p x y : Nat) (hO : stOK s) (hp : p < s_c s) (hk : s_k s p < 16) (hx2 : x ≤ 64) (hy2 : y ≤ 64) (hk0 : 0 < s_k s p) (hd : dif (s_X s) (s_Y s) p (s_k s p - 1) x y = false) : clsM l Y_es_corner [.int (nI p), .long (lN x), .long (lN y)] s 0 (.int 0) s := by
  intro h hS
  obtain ⟨o1, o2, o3, o4, o5, o6, o7, o8, o9, o10⟩ := hO
  refine hp_start (T := T_es_corner) (by decide) rfl (fun σ => Nat.le_of_ble_eq_true rfl) (fun G C => ?_)
  refine hp_run_sound hp_co V_es_corner C (fun _ _ _ _ _ _ _ hq => hq) [72] 50 _ _ _ _ _ _ _ ?_
  refine Exists.intro _ (And.intro hS.1 ?_)
  refine And.intro ⟨1, _, stP hS, rfl⟩ ?_
  refine ic_P (c_po_has l h _ (nI p) (stP hS)) (Nat.le_add_left _ _) (Nat.le_add_left _ _) ?_
  rw [decide_eq_true ⟨nI_pos (by omega), nI_ge hp (by omega)⟩]
  refine And.intro (fun q => ?_) (fun q => absurd q (by decide))
  refine Exists.intro _ (And.intro hS.1 ?_)
  refine And.intro ⟨1, _, stP hS, rfl⟩ ?_
  refine ic_P (c_po_hasAllCorners l h _ p (by omega) _ (o8 p (by omega)) (stP hS) hS.2.1.2.2.1) (Nat.le_add_left _ _) (Nat.le_add_left _ _) ?_
  rw [decide_eq_false (by omega : ¬ 16 ≤ s_k s p)]
  refine And.intro (fun q => ?_) (fun q => absurd rfl q)
  refine And.intro (fun q => absurd ((lg_cmp_lt _ _).mp q) (lN_nneg (by omega))) (fun q => ?_)
  refine And.intro (fun q => absurd ((lg_cmp_gt _ _).mp q) (lN_n64 hx2)) (fun q => ?_)
  refine And.intro (fun q => absurd ((lg_cmp_lt _ _).mp q) (lN_nneg (by omega))) (fun q => ?_)
  refine And.intro (fun q => ?_) (fun q => absurd ((lg_cmp_le _ _).mpr (Int64.not_lt.mp (lN_n64 hy2))) q)
  refine Exists.intro _ (And.intro hS.1 ?_)
  refine And.intro ⟨1, _, stP hS, rfl⟩ ?_
  have b1 := o9 p (s_k s p - 1) (by omega)
  have b2 := o10 p (s_k s p - 1) (by omega)
  have hM := c_po_extend_no l h _ p x y (by omega) (by omega) (by omega) _ _ _ _ hk hk0 (by omega) (by omega) hd hS.2.1
  rw [← lN_j (show x < 2 ^ 64 by omega), ← lN_j (show y < 2 ^ 64 by omega)] at hM
  refine ic_P hM (Nat.le_add_left _ _) (Nat.le_add_left _ _) ?_
  exact And.intro rfl (And.intro rfl (And.intro rfl ⟨hxC_rf h, hS⟩))
set_option maxRecDepth 20000 in
theorem k_corner_t (l : Launch) (s : St) (p x y : Nat) (hO : stOK s) (hp : p < s_c s) (hk : s_k s p < 16) (hx2 : x ≤ 64) (hy2 : y ≤ 64) (hd : s_k s p = 0 ∨ dif (s_X s) (s_Y s) p (s_k s p - 1) x y = true) : clsM l Y_es_corner [.int (nI p), .long (lN x), .long (lN y)] s 0 (.int 1) (St' (s_B s) (s_m s) (s_n s) (s_c s) (s_lay s) (updN (s_k s) p (s_k s p + 1)) (updF (s_X s) p (updN (s_X s p) (s_k s p) x)) (updF (s_Y s) p (updN (s_Y s p) (s_k s p) y)) (s_D s)) := by
  intro h hS
  obtain ⟨o1, o2, o3, o4, o5, o6, o7, o8, o9, o10⟩ := hO
  refine hp_start (T := T_es_corner) (by decide) rfl (fun σ => Nat.le_of_ble_eq_true rfl) (fun G C => ?_)
  refine hp_run_sound hp_co V_es_corner C (fun _ _ _ _ _ _ _ hq => hq) [72] 50 _ _ _ _ _ _ _ ?_
  refine Exists.intro _ (And.intro hS.1 ?_)
  refine And.intro ⟨1, _, stP hS, rfl⟩ ?_
  refine ic_P (c_po_has l h _ (nI p) (stP hS)) (Nat.le_add_left _ _) (Nat.le_add_left _ _) ?_
  rw [decide_eq_true ⟨nI_pos (by omega), nI_ge hp (by omega)⟩]
  refine And.intro (fun q => ?_) (fun q => absurd q (by decide))
  refine Exists.intro _ (And.intro hS.1 ?_)
  refine And.intro ⟨1, _, stP hS, rfl⟩ ?_
  refine ic_P (c_po_hasAllCorners l h _ p (by omega) _ (o8 p (by omega)) (stP hS) hS.2.1.2.2.1) (Nat.le_add_left _ _) (Nat.le_add_left _ _) ?_
  rw [decide_eq_false (by omega : ¬ 16 ≤ s_k s p)]
  refine And.intro (fun q => ?_) (fun q => absurd rfl q)
  refine And.intro (fun q => absurd ((lg_cmp_lt _ _).mp q) (lN_nneg (by omega))) (fun q => ?_)
  refine And.intro (fun q => absurd ((lg_cmp_gt _ _).mp q) (lN_n64 hx2)) (fun q => ?_)
  refine And.intro (fun q => absurd ((lg_cmp_lt _ _).mp q) (lN_nneg (by omega))) (fun q => ?_)
  refine And.intro (fun q => ?_) (fun q => absurd ((lg_cmp_le _ _).mpr (Int64.not_lt.mp (lN_n64 hy2))) q)
  refine Exists.intro _ (And.intro hS.1 ?_)
  refine And.intro ⟨1, _, stP hS, rfl⟩ ?_
  have b1 := o9 p (s_k s p - 1) (by omega)
  have b2 := o10 p (s_k s p - 1) (by omega)
  have hM := c_po_extend l h _ p x y (by omega) (by omega) (by omega) _ _ _ _ hk (by omega) (by omega) hd hS.2.1
  rw [← lN_j (show x < 2 ^ 64 by omega), ← lN_j (show y < 2 ^ 64 by omega)] at hM
  refine ic_Q hM (Nat.le_add_left _ _) (Nat.le_add_left _ _) (fun r h2 hq => ?_)
  obtain ⟨rfl, x2, hP⟩ := hq
  refine And.intro rfl (And.intro rfl (And.intro rfl ⟨hxC_of x2 (fun q hq => ?_), esS_po hS x2 (fun q hq => ?_) hP⟩))
  · simp at hq; omega
  · simp at hq; omega
set_option maxRecDepth 20000 in
theorem k_clear (l : Launch) (h : hp_H) (s : St) (hS : esS h s) : hp_M l Y_es_clear [.ref 1] h false 0 0 (fun r h' => r = .inl none ∧ hxC h h' ∧ esS h' (St' (s_B s) 0 (s_n s) 0 (s_lay s) (s_k s) (s_X s) (s_Y s) (s_D s))) := by
  refine hp_start (T := T_es_clear) (by decide) rfl (fun σ => Nat.le_of_ble_eq_true rfl) (fun G C => ?_)
  refine hp_run_sound hp_co V_es_clear C (fun _ _ _ _ _ _ _ hq => hq) [] 20 _ _ _ _ _ _ _ ?_
  refine Exists.intro _ (And.intro hS.1 ?_)
  refine And.intro ⟨1, _, stP hS, rfl⟩ ?_
  refine ic_P (c_po_forget l h _ (stP hS)) (Nat.le_refl _) (Nat.le_refl _) ?_
  have x2 : hx [2] h (h.set 2 (PO 0)) := hx_set (hx_rf _ _) _ (by decide)
  have hP : poS (h.set 2 (PO 0)) 0 (s_lay s) (s_k s) (s_X s) (s_Y s) := by
    obtain ⟨a1, a2, a3, a4, a5, a6, a7⟩ := hS.2.1
    exact ⟨hq_get a1, by rw [hq_ne (by decide)]; exact a2, by rw [hq_ne (by decide)]; exact a3, by rw [hq_ne (by decide)]; exact a4, fun p hp => by rw [hq_ne (by omega)]; exact a5 p hp, by rw [hq_ne (by decide)]; exact a6, fun p hp => by rw [hq_ne (by omega)]; exact a7 p hp⟩
  have hS2 := esS_po hS x2 (by decide) hP
  refine And.intro (Or.inl rfl) (Exists.intro _ (And.intro hS2.1 (And.intro (Nat.le_of_ble_eq_true rfl) (And.intro rfl (And.intro rfl ?_)))))
  exact And.intro rfl (And.intro rfl (And.intro rfl ⟨hxC_of (ps := [1, 2]) (hx_set (hx_tr x2 (hx_rf [] _) _ (by decide) (by decide)) _ (by decide)) (by decide), esS_1 hS2 0 (s_n s)⟩))
set_option maxRecDepth 20000 in
theorem k_strips_1 (l : Launch) (s : St) (x : Int32) (v : Value) (hx0 : x < 1 ∨ 64 < x) : clsM l Y_es_strips [.int x] s 1 v s := by
  intro h hS
  refine hp_start (T := T_es_strips) (by decide) rfl (fun σ => Nat.le_of_ble_eq_true rfl) (fun G C => ?_)
  have thr : ∀ lv, hp_W G 11 lv [] h true 0 0 := fun lv => hq_throw (ik := 62) (is := 196) (ic := 66) (ci := 0) (text := "n is not 1 .. 64") V_es_strips C tw_es0 (by decide) rfl rfl rfl rfl rfl rfl (by decide) (by decide) (by decide) (by decide) ⟨rfl, hxC_rf h, hS⟩
  refine hp_run_sound hp_co V_es_strips C (fun _ _ _ _ _ _ _ hq => hq) [11] 12 _ _ _ _ _ _ _ ?_
  refine And.intro (fun q => thr _) (fun q => And.intro (fun q2 => ?_) (fun q2 => thr _))
  rcases hx0 with e | e
  · exact absurd e q
  · exact absurd q2 (Int32.not_le.mpr e)
set_option maxRecDepth 20000 in
theorem k_strips_0 (l : Launch) (s : St) (n : Nat) (h1 : 1 ≤ n) (h2 : n ≤ 64) : clsM l Y_es_strips [.int (nI n)] s 0 (.int (nI (s_n s))) (St' (s_B s) (s_m s) n (s_c s) (s_lay s) (s_k s) (s_X s) (s_Y s) (s_D s)) := by
  intro h hS
  refine hp_start (T := T_es_strips) (by decide) rfl (fun σ => Nat.le_of_ble_eq_true rfl) (fun G C => ?_)
  refine hp_run_sound hp_co V_es_strips C (fun _ _ _ _ _ _ _ hq => hq) [11] 20 _ _ _ _ _ _ _ ?_
  refine And.intro (fun q => absurd q (nI_nlt (b := 1) h1 (by omega))) (fun q => And.intro (fun q2 => ?_) (fun q2 => absurd (nI_le (b := 64) h2 (by decide)) q2))
  refine Exists.intro _ (And.intro hS.1 ?_)
  refine And.intro (Or.inl rfl) (Exists.intro _ (And.intro hS.1 (And.intro (Nat.le_of_ble_eq_true rfl) (And.intro rfl (And.intro rfl ?_)))))
  exact And.intro rfl (And.intro rfl (And.intro rfl ⟨hxC_of (ps := [1]) (hx_set (hx_rf _ _) _ (by decide)) (by decide), esS_1 hS (s_m s) n⟩))
end
section
/-! in, area2 -/
theorem lay_ok {s : St} {L : Nat} (hO : stOK s) (hL : L < s_B s + s_m s) : ¬ nI L < 0 ∧ ¬ nI (s_B s + s_m s) ≤ nI L := by
  obtain ⟨o1, o2, o3, -⟩ := hO
  exact ⟨nI_pos (by omega), nI_ge hL (by omega)⟩
theorem isR_b {a b m : Nat} (ha : a = 72 ∨ a = 73) (hm : m ≤ 24) (hb : b = a ∨ (41 ≤ b ∧ b < 41 + m)) : isR b := by unfold isR; omega
theorem hxC_area {a : Nat} (ha : a = 72 ∨ a = 73) {h h' : hp_H} (hx1 : hx [39, a] h h') : hxC h h' := hxC_of hx1 (fun q hq => by simp at hq; omega)
set_option maxRecDepth 20000 in
theorem k_in_1 (l : Launch) (s : St) (x : Int32) (a b : Int64) (v : Value) (hx0 : x < 0 ∨ nI (s_B s + s_m s) ≤ x) : clsM l Y_es_in [.int x, .long a, .long b] s 1 v s := by
  intro h hS
  refine hp_start (T := T_es_in) (by decide) rfl (fun σ => Nat.le_of_ble_eq_true rfl) (fun G C => ?_)
  refine hp_run_sound hp_co V_es_in C (fun _ _ _ _ _ _ _ hq => hq) [] 12 _ _ _ _ _ _ _ ?_
  refine And.intro ⟨0, _, hS.1, rfl⟩ ?_
  refine ic_P (c_es_needLayer_no l h _ _ _ x hS.1 hx0) (Nat.le_refl _) (Nat.le_refl _) ?_
  exact ⟨rfl, hxC_rf h, hS⟩
set_option maxRecDepth 20000 in
theorem k_in_o (l : Launch) (s : St) (L : Nat) (a b : Int64) (hO : stOK s) (hL : L < s_B s + s_m s) (hab : a < 0 ∨ 64 ≤ a ∨ b < 0 ∨ 64 ≤ b) : clsM l Y_es_in [.int (nI L), .long a, .long b] s 0 (.int 0) s := by
  intro h hS
  refine hp_start (T := T_es_in) (by decide) rfl (fun σ => Nat.le_of_ble_eq_true rfl) (fun G C => ?_)
  have fin : ∀ lv, hp_W G 35 lv [] h true 0 0 := fun lv => by
    refine hp_run_sound hp_co V_es_in C (fun _ _ _ _ _ _ _ hq => hq) [] 4 _ _ _ _ _ _ _ ?_
    exact And.intro rfl (And.intro rfl (And.intro rfl ⟨hxC_rf h, hS⟩))
  refine hp_run_sound hp_co V_es_in C (fun _ _ _ _ _ _ _ hq => hq) [35] 30 _ _ _ _ _ _ _ ?_
  refine And.intro ⟨0, _, hS.1, rfl⟩ ?_
  refine ic_P (c_es_needLayer l h _ _ _ (nI L) hS.1 (lay_ok hO hL).1 (lay_ok hO hL).2) (Nat.le_add_left _ _) (Nat.le_add_left _ _) ?_
  refine And.intro (fun q1 => fin _) (fun q1 => And.intro (fun q2 => fin _) (fun q2 => And.intro (fun q3 => fin _) (fun q3 => And.intro (fun q4 => ?_) (fun q4 => fin _))))
  exfalso
  rcases hab with e | e | e | e
  · exact q1 ((lg_cmp_lt _ _).mpr e)
  · exact q2 ((lg_cmp_ge _ _).mpr e)
  · exact q3 ((lg_cmp_lt _ _).mpr e)
  · exact absurd ((lg_cmp_lt _ _).mp q4) (Int64.not_lt.mpr e)
theorem lN_64 {n : Nat} (h : n < 64) : lN n < 64 := Int64.lt_iff_toInt_lt.mpr (by
  rw [pk_lT (by omega)]
  have h0 : (64 : Int64).toInt = 64 := rfl
  omega)
set_option maxRecDepth 20000 in
theorem k_in_0 (l : Launch) (s : St) (L x y : Nat) (hO : stOK s) (hL : L < s_B s + s_m s) (hx2 : x < 64) (hy2 : y < 64) : clsM l Y_es_in [.int (nI L), .long (lN x), .long (lN y)] s 0 (.int (zI (inL s L x y))) s := by
  intro h hS
  refine hp_start (T := T_es_in) (by decide) rfl (fun σ => Nat.le_of_ble_eq_true rfl) (fun G C => ?_)
  refine hp_run_sound hp_co V_es_in C (fun _ _ _ _ _ _ _ hq => hq) [35] 50 _ _ _ _ _ _ _ ?_
  refine And.intro ⟨0, _, hS.1, rfl⟩ ?_
  refine ic_P (c_es_needLayer l h _ _ _ (nI L) hS.1 (lay_ok hO hL).1 (lay_ok hO hL).2) (Nat.le_add_left _ _) (Nat.le_add_left _ _) ?_
  refine And.intro (fun q => absurd ((lg_cmp_lt _ _).mp q) (lN_nneg (by omega))) (fun q => ?_)
  refine And.intro (fun q => absurd ((lg_cmp_ge _ _).mp q) (Int64.not_le.mpr (lN_64 hx2))) (fun q => ?_)
  refine And.intro (fun q => absurd ((lg_cmp_lt _ _).mp q) (lN_nneg (by omega))) (fun q => ?_)
  refine And.intro (fun q => ?_) (fun q => absurd ((lg_cmp_lt _ _).mpr (lN_64 hy2)) q)
  refine Exists.intro _ (And.intro hS.1 ?_)
  refine And.intro ⟨0, _, hS.1, rfl⟩ ?_
  refine ic_Q (c_es_areaOf l h s L 72 hO hS hL (Or.inl rfl)) (Nat.le_add_left _ _) (Nat.le_add_left _ _) (fun r h2 hq => ?_)
  obtain ⟨b, f, rfl, hb, hf, hsh, hx1, hS2⟩ := hq
  have hM := c_rowN l h2 b y (by omega) f hf
  rw [← lN_j (show y < 2 ^ 64 by omega)] at hM
  refine ic_P hM (Nat.le_add_left _ _) (Nat.le_add_left _ _) ?_
  have ef : rwN f y = f y := if_pos hy2
  have e0 : ((f y).toUInt64 >>> ((lN x).toInt32.toInt64.toUInt64 &&& Int64.toUInt64 63)).toInt64 &&& 1 = 0 ↔ bb (f y) x = false := by
    rw [lN_j (show x < 2 ^ 64 by omega)]
    exact bit_0 hx2 (f y)
  have hbit := hsh y x hy2 hx2
  rw [ef]
  refine And.intro (fun q => ?_) (fun q => ?_)
  · have hz := e0.mp ((lg_cmp_eq _ _).mp q)
    rw [← hbit, hz]
    exact And.intro rfl (And.intro rfl (And.intro rfl ⟨hxC_area (Or.inl rfl) hx1, hS2⟩))
  · have hz : bb (f y) x = true := by
      cases hq : bb (f y) x with
      | true => rfl
      | false => exact absurd ((lg_cmp_eq _ _).mpr (e0.mpr hq)) q
    rw [← hbit, hz]
    exact And.intro rfl (And.intro rfl (And.intro rfl ⟨hxC_area (Or.inl rfl) hx1, hS2⟩))
set_option maxRecDepth 20000 in
theorem k_area2_1 (l : Launch) (s : St) (x y : Int32) (v : Value) (hO : stOK s) (hx0 : (x < 0 ∨ nI (s_B s + s_m s) ≤ x) ∨ (y < 0 ∨ 2 ≤ y)) : clsM l Y_es_area2 [.int x, .int y] s 1 v s := by
  intro h hS
  refine hp_start (T := T_es_area2) (by decide) rfl (fun σ => Nat.le_of_ble_eq_true rfl) (fun G C => ?_)
  refine hp_run_sound hp_co V_es_area2 C (fun _ _ _ _ _ _ _ hq => hq) [] 12 _ _ _ _ _ _ _ ?_
  refine And.intro ⟨0, _, hS.1, rfl⟩ ?_
  by_cases c : x < 0 ∨ nI (s_B s + s_m s) ≤ x
  · refine ic_P (c_es_needLayer_no l h _ _ _ x hS.1 c) (Nat.le_refl _) (Nat.le_refl _) ?_
    exact ⟨rfl, hxC_rf h, hS⟩
  · refine ic_P (c_es_needLayer l h _ _ _ x hS.1 (fun q => c (Or.inl q)) (fun q => c (Or.inr q))) (Nat.le_add_left _ _) (Nat.le_add_left _ _) ?_
    refine ic_P (c_es_needIndex_no l h y 2 (by rcases hx0 with e | e; exact absurd e c; exact e)) (Nat.le_refl _) (Nat.le_refl _) ?_
    exact ⟨rfl, hxC_rf h, hS⟩
/-! the number of squares of rows f; the length of their edges -/
set_option maxRecDepth 20000 in
theorem k_area2_0 (l : Launch) (s : St) (L i : Nat) (hO : stOK s) (hL : L < s_B s + s_m s) (hi : i < 2) (F : Nat → Int64) (hF : shw s L F) : clsM l Y_es_area2 [.int (nI L), .int (nI i)] s 0 (.long (if i = 0 then 2 * (nI (sm (fun y => cn (bb (F y)) 64) 64)).toInt64 else (nI (xtl F 65)).toInt64)) s := by
  intro h hS
  refine hp_start (T := T_es_area2) (by decide) rfl (fun σ => Nat.le_of_ble_eq_true rfl) (fun G C => ?_)
  refine hp_run_sound hp_co V_es_area2 C (fun _ _ _ _ _ _ _ hq => hq) [] 40 _ _ _ _ _ _ _ ?_
  refine And.intro ⟨0, _, hS.1, rfl⟩ ?_
  refine ic_P (c_es_needLayer l h _ _ _ (nI L) hS.1 (lay_ok hO hL).1 (lay_ok hO hL).2) (Nat.le_add_left _ _) (Nat.le_add_left _ _) ?_
  refine ic_P (c_es_needIndex l h (nI i) 2 (nI_pos (by omega)) (nI_ge (b := 2) hi (by decide))) (Nat.le_add_left _ _) (Nat.le_add_left _ _) ?_
  refine Exists.intro _ (And.intro hS.1 ?_)
  refine And.intro ⟨0, _, hS.1, rfl⟩ ?_
  refine ic_Q (c_es_areaOf l h s L 72 hO hS hL (Or.inl rfl)) (Nat.le_add_left _ _) (Nat.le_add_left _ _) (fun r h2 hq => ?_)
  obtain ⟨b, f, rfl, hb, hf, hsh, hx1, hS2⟩ := hq
  have hfF : ∀ y, y < 64 → f y = F y := fun y hy => bb_ext (fun x hx2 => (hsh y x hy hx2).trans (hF y x hy hx2).symm)
  have hrw : ∀ y, rwN f y = rwN F y := fun y => by
    unfold rwN
    by_cases q : y < 64
    · rw [if_pos q, if_pos q, hfF y q]
    · rw [if_neg q, if_neg q]
  have hsm : ∀ (p q : Nat → Nat) n, (∀ y, y < n → p y = q y) → sm p n = sm q n := by
    intro p q n
    induction n with
    | zero => intro _; rfl
    | succ n ih => intro e; rw [sm_s, sm_s, ih (fun y hy => e y (by omega)), e n (by omega)]
  refine And.intro (fun q => ?_) (fun q => ?_)
  · have hi1 : ¬ i = 0 := fun e => q (by rw [e]; rfl)
    refine ic_P (c_li_totalLength l h2 b f hf) (Nat.le_add_left _ _) (Nat.le_add_left _ _) ?_
    have e : xtl f 65 = xtl F 65 := hsm _ _ 65 (fun y hy => by
      have e2 : rwB f y = rwB F y := by unfold rwB; rw [hrw]
      rw [hrw, e2])
    rw [if_neg hi1, ← e]
    exact And.intro rfl (And.intro rfl ⟨rfl, hxC_area (Or.inl rfl) hx1, hS2⟩)
  · have hi1 : i = 0 := (nI_eq (b := 0) (by omega) (by decide)).mp q
    refine ic_P (c_ro_countSquares l h2 b f hf) (Nat.le_add_left _ _) (Nat.le_add_left _ _) ?_
    have e : sm (fun y => cn (bb (f y)) 64) 64 = sm (fun y => cn (bb (F y)) 64) 64 := hsm _ _ 64 (fun y hy => by rw [hfF y hy])
    rw [if_pos hi1, ← e]
    exact And.intro rfl (And.intro rfl ⟨rfl, hxC_area (Or.inl rfl) hx1, hS2⟩)
end
section
/-! edge, trapezoid -/
theorem rw_of {s : St} {L : Nat} {f F : Nat → Int64} (h1 : shw s L f) (h2 : shw s L F) : rwN f = rwN F := funext fun y => by
  unfold rwN
  by_cases q : y < 64
  · rw [if_pos q, if_pos q]
    exact bb_ext (fun x hx2 => (h1 y x q hx2).trans (h2 y x q hx2).symm)
  · rw [if_neg q, if_neg q]
theorem rwB_eq {f F : Nat → Int64} (h : rwN f = rwN F) : rwB f = rwB F := funext fun y => by unfold rwB; rw [h]
theorem xab_eq {f F : Nat → Int64} (h : rwN f = rwN F) : xab f = xab F := funext fun y => by unfold xab; rw [h, rwB_eq h]
theorem xbe_eq {f F : Nat → Int64} (h : rwN f = rwN F) : xbe f = xbe F := funext fun y => by unfold xbe; rw [h, rwB_eq h]
theorem xls_eq {f F : Nat → Int64} (h : rwN f = rwN F) : xls f = xls F := funext fun y => by unfold xls; rw [xab_eq h, xbe_eq h]
theorem lyn_eq {f F : Nat → Int64} (h : rwN f = rwN F) : lyn f = lyn F := by unfold lyn; rw [xls_eq h]
theorem xlf_eq {f F : Nat → Int64} (h : rwN f = rwN F) (y x w : Nat) : xlf f y x w = xlf F y x w := by unfold xlf; rw [xab_eq h, xbe_eq h]
theorem xtu_eq {f F : Nat → Int64} (h : rwN f = rwN F) : rwN (xtu f) = rwN (xtu F) := funext fun y => by
  unfold rwN
  by_cases q : y < 64
  · rw [if_pos q, if_pos q]
    refine bb_ext (fun x hx2 => ?_)
    have e := congrFun h x
    unfold rwN at e
    rw [if_pos hx2, if_pos hx2] at e
    rw [bb_xtu _ q hx2, bb_xtu _ q hx2, e]
  · rw [if_neg q, if_neg q]
def tuf (w : Nat) : Nat := match w with
  | 0 => 1
  | 1 => 0
  | 2 => 3
  | 3 => 2
  | w => w
theorem tuf_lt : ∀ w, w < 5 → tuf w < 5 := by decide
set_option maxRecDepth 20000 in
theorem k_edge_1a (l : Launch) (s : St) (x k w : Int32) (v : Value) (hx0 : (x < 0 ∨ nI (s_B s + s_m s) ≤ x) ∨ (w < 0 ∨ 5 ≤ w)) : clsM l Y_es_edge [.int x, .int k, .int w] s 1 v s := by
  intro h hS
  refine hp_start (T := T_es_edge) (by decide) rfl (fun σ => Nat.le_of_ble_eq_true rfl) (fun G C => ?_)
  refine hp_run_sound hp_co V_es_edge C (fun _ _ _ _ _ _ _ hq => hq) [] 12 _ _ _ _ _ _ _ ?_
  refine And.intro ⟨0, _, hS.1, rfl⟩ ?_
  by_cases c : x < 0 ∨ nI (s_B s + s_m s) ≤ x
  · refine ic_P (c_es_needLayer_no l h _ _ _ x hS.1 c) (Nat.le_refl _) (Nat.le_refl _) ?_
    exact ⟨rfl, hxC_rf h, hS⟩
  · refine ic_P (c_es_needLayer l h _ _ _ x hS.1 (fun q => c (Or.inl q)) (fun q => c (Or.inr q))) (Nat.le_add_left _ _) (Nat.le_add_left _ _) ?_
    refine ic_P (c_es_needIndex_no l h w 5 (by rcases hx0 with e | e; exact absurd e c; exact e)) (Nat.le_refl _) (Nat.le_refl _) ?_
    exact ⟨rfl, hxC_rf h, hS⟩
set_option maxRecDepth 20000 in
theorem k_edge_l (l : Launch) (s : St) (L w y x : Nat) (hO : stOK s) (hL : L < s_B s + s_m s) (hw : w < 5) (F : Nat → Int64) (hF : shw s L F) (hy : y ≤ 64) (hx2 : x < 64) (hb : bb (xls F y) x = true) : clsM l Y_es_edge [.int (nI L), .int (nI (lyn F y + cn (bb (xls F y)) x)), .int (nI w)] s 0 (.int (xlf F y x w)) s := by
  intro h hS
  refine hp_start (T := T_es_edge) (by decide) rfl (fun σ => Nat.le_of_ble_eq_true rfl) (fun G C => ?_)
  refine hp_run_sound hp_co V_es_edge C (fun _ _ _ _ _ _ _ hq => hq) [] 30 _ _ _ _ _ _ _ ?_
  refine And.intro ⟨0, _, hS.1, rfl⟩ ?_
  refine ic_P (c_es_needLayer l h _ _ _ (nI L) hS.1 (lay_ok hO hL).1 (lay_ok hO hL).2) (Nat.le_add_left _ _) (Nat.le_add_left _ _) ?_
  refine ic_P (c_es_needIndex l h (nI w) 5 (nI_pos (by omega)) (nI_ge (b := 5) hw (by decide))) (Nat.le_add_left _ _) (Nat.le_add_left _ _) ?_
  refine Exists.intro _ (And.intro hS.1 ?_)
  refine And.intro ⟨0, _, hS.1, rfl⟩ ?_
  refine ic_Q (c_es_areaOf l h s L 72 hO hS hL (Or.inl rfl)) (Nat.le_add_left _ _) (Nat.le_add_left _ _) (fun r h2 hq => ?_)
  obtain ⟨b, f, rfl, hb2, hf, hsh, hx1, hS2⟩ := hq
  have hr := rw_of hsh hF
  rw [← lyn_eq hr, ← xls_eq hr, ← xlf_eq hr] at *
  refine ic_P (c_li_countLying l h2 b f hf) (Nat.le_add_left _ _) (Nat.le_add_left _ _) ?_
  have h1 : lyn f (y + 1) ≤ lyn f 65 := sm_mono _ (by omega)
  have h3 := lyn_s f y
  have h4 := cn_in hx2 hb
  have h5 := lyn_le f (y := 65) (by omega)
  refine And.intro (fun q => absurd q (nI_ge (by omega) (by omega))) (fun q => ?_)
  refine ic_P (c_li_lyingFact l h2 b y x w hy hx2 hw f hf hb) (Nat.le_add_left _ _) (Nat.le_add_left _ _) ?_
  exact And.intro rfl (And.intro rfl ⟨rfl, hxC_area (Or.inl rfl) hx1, hS2⟩)
theorem c_tuf (l : Launch) (h : hp_H) : ∀ (w : Nat) (_ : w < 5), hp_M l Y_li_turnedFact [.int (nI w)] h true 0 0 (hq_P (.inl (some (.int (nI (tuf w))))) h)
  | 0, hw => c_li_turnedFact l h 0 hw
  | 1, hw => c_li_turnedFact l h 1 hw
  | 2, hw => c_li_turnedFact l h 2 hw
  | 3, hw => c_li_turnedFact l h 3 hw
  | 4, hw => c_li_turnedFact l h 4 hw
  | n + 5, hw => absurd hw (by omega)
/-- what copy and turn leave in place 74 -/
theorem turn_rw {f e : Nat → Int64} : rwN (xtu (fun j => if j < 64 then f j else e j)) = rwN (xtu f) := funext fun y => by
  unfold rwN
  by_cases q : y < 64
  · rw [if_pos q, if_pos q]
    refine bb_ext (fun x hx2 => ?_)
    rw [bb_xtu _ q hx2, bb_xtu _ q hx2]
    show bb (if x < 64 then f x else e x) y = _
    rw [if_pos hx2]
  · rw [if_neg q, if_neg q]
theorem esS_74 {h : hp_H} {s : St} (hS : esS h s) (f : Nat → Int64) : esS (h.set 74 (LA 64 f)) s := by
  have x1 : hx [74] h (h.set 74 (LA 64 f)) := hx_set (hx_rf _ _) _ (by decide)
  obtain ⟨w1, w2, w3, w4, w5, w6, w7, w8, w9, w10, ⟨w11, v11⟩⟩ := id hS.2.2.2.2
  exact esS_hx hS (hx_tr x1 (hx_rf [] _) _ (by decide) (by decide)) (wkS_hx x1 hS.2.2.2.2 (Or.inl (by decide)) (Or.inl (by decide)) (Or.inl (by decide)) (Or.inl (by decide)) (Or.inl (by decide)) (Or.inl (by decide)) (Or.inl (by decide)) (Or.inl (by decide)) (Or.inl (by decide)) (Or.inl (by decide)) (Or.inr ⟨_, hq_get v11⟩))
set_option maxRecDepth 20000 in
theorem k_edge_s (l : Launch) (s : St) (L w y x : Nat) (hO : stOK s) (hL : L < s_B s + s_m s) (hw : w < 5) (F : Nat → Int64) (hF : shw s L F) (hy : y ≤ 64) (hx2 : x < 64) (hb : bb (xls (xtu F) y) x = true) : clsM l Y_es_edge [.int (nI L), .int (nI (lyn F 65 + (lyn (xtu F) y + cn (bb (xls (xtu F) y)) x))), .int (nI w)] s 0 (.int (xlf (xtu F) y x (tuf w))) s := by
  intro h hS
  refine hp_start (T := T_es_edge) (by decide) rfl (fun σ => Nat.le_of_ble_eq_true rfl) (fun G C => ?_)
  refine hp_run_sound hp_co V_es_edge C (fun _ _ _ _ _ _ _ hq => hq) [] 50 _ _ _ _ _ _ _ ?_
  refine And.intro ⟨0, _, hS.1, rfl⟩ ?_
  refine ic_P (c_es_needLayer l h _ _ _ (nI L) hS.1 (lay_ok hO hL).1 (lay_ok hO hL).2) (Nat.le_add_left _ _) (Nat.le_add_left _ _) ?_
  refine ic_P (c_es_needIndex l h (nI w) 5 (nI_pos (by omega)) (nI_ge (b := 5) hw (by decide))) (Nat.le_add_left _ _) (Nat.le_add_left _ _) ?_
  refine Exists.intro _ (And.intro hS.1 ?_)
  refine And.intro ⟨0, _, hS.1, rfl⟩ ?_
  refine ic_Q (c_es_areaOf l h s L 72 hO hS hL (Or.inl rfl)) (Nat.le_add_left _ _) (Nat.le_add_left _ _) (fun r h2 hq => ?_)
  obtain ⟨b, f, rfl, hb2, hf, hsh, hx1, hS2⟩ := hq
  have hr := rw_of hsh hF
  refine ic_P (c_li_countLying l h2 b f hf) (Nat.le_add_left _ _) (Nat.le_add_left _ _) ?_
  rw [lyn_eq hr]
  have h5 := lyn_le F (y := 65) (by omega)
  have h6 := lyn_le (xtu F) (y := y) (by omega)
  have h7 := cn_le (bb (xls (xtu F) y)) x
  refine And.intro (fun q => ?_) (fun q => absurd (nI_le (by omega) (by omega)) q)
  refine Exists.intro _ (And.intro hS2.1 ?_)
  obtain ⟨w1, w2, w3, w4, w5, w6, w7, w8, w9, w10, ⟨e, v11⟩⟩ := id hS2.2.2.2.2
  refine ic_P (c_ro_copy l h2 b 74 f e hf v11) (Nat.le_add_left _ _) (Nat.le_add_left _ _) ?_
  have hS3 := esS_74 hS2 (fun j => if j < 64 then f j else e j)
  refine Exists.intro _ (And.intro hS3.1 ?_)
  refine ic_P (c_ro_turn l _ 74 _ (hq_get v11)) (Nat.le_add_left _ _) (Nat.le_add_left _ _) ?_
  have hS4 := esS_74 hS3 (xtu (fun j => if j < 64 then f j else e j))
  refine Exists.intro _ (And.intro hS4.1 ?_)
  refine ic_P (c_tuf l _ w hw) (Nat.le_add_left _ _) (Nat.le_add_left _ _) ?_
  have hr2 : rwN (xtu (fun j => if j < 64 then f j else e j)) = rwN (xtu F) := turn_rw.trans (xtu_eq hr)
  have hM := c_li_lyingFact l ((h2.set 74 (LA 64 (fun j => if j < 64 then f j else e j))).set 74 (LA 64 (xtu (fun j => if j < 64 then f j else e j)))) 74 y x (tuf w) hy hx2 (tuf_lt w hw) _ (hq_get (hq_get v11)) (by rw [xls_eq hr2]; exact hb)
  rw [lyn_eq hr2, xls_eq hr2, xlf_eq hr2, show nI (lyn (xtu F) y + cn (bb (xls (xtu F) y)) x) = nI (lyn F 65 + (lyn (xtu F) y + cn (bb (xls (xtu F) y)) x)) - nI (lyn F 65) by rw [pk_sub (by omega), Nat.add_sub_cancel_left]] at hM
  refine ic_P hM (Nat.le_add_left _ _) (Nat.le_add_left _ _) ?_
  refine And.intro rfl (And.intro rfl ⟨rfl, hxC_tr (hxC_area (Or.inl rfl) hx1) (hxC_of (ps := [74]) (hx_set (hx_set (hx_rf _ _) _ (by decide)) _ (by decide)) (by decide)), hS4⟩)
end
section
/-! edge: no such; trapezoid -/
set_option maxRecDepth 20000 in
theorem k_edge_1k (l : Launch) (s : St) (L w : Nat) (k : Int32) (v : Value) (hO : stOK s) (hL : L < s_B s + s_m s) (hw : w < 5) (F : Nat → Int64) (hF : shw s L F) (hk : k < 0 ∨ nI (lyn F 65 + lyn (xtu F) 65) ≤ k) : clsM l Y_es_edge [.int (nI L), .int k, .int (nI w)] s 1 v s := by
  intro h hS
  refine hp_start (T := T_es_edge) (by decide) rfl (fun σ => Nat.le_of_ble_eq_true rfl) (fun G C => ?_)
  refine hp_run_sound hp_co V_es_edge C (fun _ _ _ _ _ _ _ hq => hq) [] 50 _ _ _ _ _ _ _ ?_
  refine And.intro ⟨0, _, hS.1, rfl⟩ ?_
  refine ic_P (c_es_needLayer l h _ _ _ (nI L) hS.1 (lay_ok hO hL).1 (lay_ok hO hL).2) (Nat.le_add_left _ _) (Nat.le_add_left _ _) ?_
  refine ic_P (c_es_needIndex l h (nI w) 5 (nI_pos (by omega)) (nI_ge (b := 5) hw (by decide))) (Nat.le_add_left _ _) (Nat.le_add_left _ _) ?_
  refine Exists.intro _ (And.intro hS.1 ?_)
  refine And.intro ⟨0, _, hS.1, rfl⟩ ?_
  refine ic_Q (c_es_areaOf l h s L 72 hO hS hL (Or.inl rfl)) (Nat.le_add_left _ _) (Nat.le_add_left _ _) (fun r h2 hq => ?_)
  obtain ⟨b, f, rfl, hb2, hf, hsh, hx1, hS2⟩ := hq
  have hr := rw_of hsh hF
  refine ic_P (c_li_countLying l h2 b f hf) (Nat.le_add_left _ _) (Nat.le_add_left _ _) ?_
  rw [lyn_eq hr]
  have h5 := lyn_le F (y := 65) (by omega)
  have h6 := lyn_le (xtu F) (y := 65) (by omega)
  by_cases hk0 : k < 0
  · refine And.intro (fun q => ?_) (fun q => ?_)
    · exact absurd (Int32.lt_of_lt_of_le hk0 (nI_pos' (by omega : lyn F 65 < 2 ^ 31))) (Int32.not_lt.mpr q)
    · refine ic_P (c_li_lyingFact_no l h2 b w k f hf (Or.inl hk0)) (Nat.le_refl _) (Nat.le_refl _) ?_
      exact ⟨rfl, hxC_area (Or.inl rfl) hx1, hS2⟩
  · obtain ⟨K, hK1, rfl⟩ := nI_of hk0
    have hK : lyn F 65 + lyn (xtu F) 65 ≤ K := by
      rcases hk with e | e
      · exact absurd e hk0
      · exact (nI_leI (by omega) hK1).mp e
    refine And.intro (fun q => ?_) (fun q => absurd (nI_le (by omega) (by omega)) q)
    refine Exists.intro _ (And.intro hS2.1 ?_)
    obtain ⟨w1, w2, w3, w4, w5, w6, w7, w8, w9, w10, ⟨e, v11⟩⟩ := id hS2.2.2.2.2
    refine ic_P (c_ro_copy l h2 b 74 f e hf v11) (Nat.le_add_left _ _) (Nat.le_add_left _ _) ?_
    have hS3 := esS_74 hS2 (fun j => if j < 64 then f j else e j)
    refine Exists.intro _ (And.intro hS3.1 ?_)
    refine ic_P (c_ro_turn l _ 74 _ (hq_get v11)) (Nat.le_add_left _ _) (Nat.le_add_left _ _) ?_
    have hS4 := esS_74 hS3 (xtu (fun j => if j < 64 then f j else e j))
    refine Exists.intro _ (And.intro hS4.1 ?_)
    refine ic_P (c_tuf l _ w hw) (Nat.le_add_left _ _) (Nat.le_add_left _ _) ?_
    have hr2 : rwN (xtu (fun j => if j < 64 then f j else e j)) = rwN (xtu F) := turn_rw.trans (xtu_eq hr)
    refine ic_P (c_li_lyingFact_no l _ 74 (tuf w) (nI K - nI (lyn F 65)) _ (hq_get (hq_get v11)) (Or.inr (by rw [lyn_eq hr2, pk_sub (by omega)]; exact nI_le (by omega) (by omega)))) (Nat.le_refl _) (Nat.le_refl _) ?_
    exact ⟨rfl, hxC_tr (hxC_area (Or.inl rfl) hx1) (hxC_of (ps := [74]) (hx_set (hx_set (hx_rf _ _) _ (by decide)) _ (by decide)) (by decide)), hS4⟩
theorem row_eq {f F : Nat → Int64} (h : rwN f = rwN F) {y : Nat} (hy : y < 64) : f y = F y := by
  have e := congrFun h y
  unfold rwN at e
  rw [if_pos hy, if_pos hy] at e
  exact e
theorem bxs_eq {f F : Nat → Int64} (h : rwN f = rwN F) {y : Nat} (hy : y < 64) : bxs f y = bxs F y := by
  unfold bxs
  rw [row_eq h hy, rwB_eq h]
theorem sm_congr {p q : Nat → Nat} : ∀ n, (∀ y, y < n → p y = q y) → sm p n = sm q n
  | 0, _ => rfl
  | n + 1, e => by rw [sm_s, sm_s, sm_congr n (fun y hy => e y (by omega)), e n (by omega)]
theorem byn_eq {f F : Nat → Int64} (h : rwN f = rwN F) {y : Nat} (hy : y ≤ 64) : byn f y = byn F y := sm_congr y (fun v hv => by rw [bxs_eq h (by omega)])
theorem xse_eq {f F : Nat → Int64} (h : rwN f = rwN F) {y : Nat} (hy : y < 64) : ∀ m, m ≤ 64 → xse f y m = xse F y m
  | 0, _ => rfl
  | m + 1, hm => by
    show (if f (63 - m) = f y then xse f y m else 63 - m) = (if F (63 - m) = F y then xse F y m else 63 - m)
    rw [row_eq h (show 63 - m < 64 by omega), row_eq h hy, xse_eq h hy m (by omega)]
theorem xbf_eq {f F : Nat → Int64} (h : rwN f = rwN F) {y : Nat} (hy : y < 64) (x w : Nat) : xbf f y x w = xbf F y x w := by
  unfold xbf
  rw [row_eq h hy, xse_eq h hy _ (by omega)]
set_option maxRecDepth 20000 in
theorem k_trap_1a (l : Launch) (s : St) (x k w : Int32) (v : Value) (hx0 : (x < 0 ∨ nI (s_B s + s_m s) ≤ x) ∨ (w < 0 ∨ 4 ≤ w)) : clsM l Y_es_trapezoid [.int x, .int k, .int w] s 1 v s := by
  intro h hS
  refine hp_start (T := T_es_trapezoid) (by decide) rfl (fun σ => Nat.le_of_ble_eq_true rfl) (fun G C => ?_)
  refine hp_run_sound hp_co V_es_trapezoid C (fun _ _ _ _ _ _ _ hq => hq) [] 12 _ _ _ _ _ _ _ ?_
  refine And.intro ⟨0, _, hS.1, rfl⟩ ?_
  by_cases c : x < 0 ∨ nI (s_B s + s_m s) ≤ x
  · refine ic_P (c_es_needLayer_no l h _ _ _ x hS.1 c) (Nat.le_refl _) (Nat.le_refl _) ?_
    exact ⟨rfl, hxC_rf h, hS⟩
  · refine ic_P (c_es_needLayer l h _ _ _ x hS.1 (fun q => c (Or.inl q)) (fun q => c (Or.inr q))) (Nat.le_add_left _ _) (Nat.le_add_left _ _) ?_
    refine ic_P (c_es_needIndex_no l h w 4 (by rcases hx0 with e | e; exact absurd e c; exact e)) (Nat.le_refl _) (Nat.le_refl _) ?_
    exact ⟨rfl, hxC_rf h, hS⟩
set_option maxRecDepth 20000 in
theorem k_trap_0 (l : Launch) (s : St) (L w y x : Nat) (hO : stOK s) (hL : L < s_B s + s_m s) (hw : w < 4) (F : Nat → Int64) (hF : shw s L F) (hy : y < 64) (hx2 : x < 64) (hb : bb (bxs F y) x = true) : clsM l Y_es_trapezoid [.int (nI L), .int (nI (byn F y + cn (bb (bxs F y)) x)), .int (nI w)] s 0 (.int (xbf F y x w)) s := by
  intro h hS
  refine hp_start (T := T_es_trapezoid) (by decide) rfl (fun σ => Nat.le_of_ble_eq_true rfl) (fun G C => ?_)
  refine hp_run_sound hp_co V_es_trapezoid C (fun _ _ _ _ _ _ _ hq => hq) [] 30 _ _ _ _ _ _ _ ?_
  refine And.intro ⟨0, _, hS.1, rfl⟩ ?_
  refine ic_P (c_es_needLayer l h _ _ _ (nI L) hS.1 (lay_ok hO hL).1 (lay_ok hO hL).2) (Nat.le_add_left _ _) (Nat.le_add_left _ _) ?_
  refine ic_P (c_es_needIndex l h (nI w) 4 (nI_pos (by omega)) (nI_ge (b := 4) hw (by decide))) (Nat.le_add_left _ _) (Nat.le_add_left _ _) ?_
  refine Exists.intro _ (And.intro hS.1 ?_)
  refine And.intro ⟨0, _, hS.1, rfl⟩ ?_
  refine ic_Q (c_es_areaOf l h s L 72 hO hS hL (Or.inl rfl)) (Nat.le_add_left _ _) (Nat.le_add_left _ _) (fun r h2 hq => ?_)
  obtain ⟨b, f, rfl, hb2, hf, hsh, hx1, hS2⟩ := hq
  have hr := rw_of hsh hF
  have hM := c_li_boxFact l h2 b y x w hy hx2 hw f hf (by rw [bxs_eq hr hy]; exact hb)
  rw [byn_eq hr (by omega), bxs_eq hr hy, xbf_eq hr hy] at hM
  refine ic_P hM (Nat.le_add_left _ _) (Nat.le_add_left _ _) ?_
  exact And.intro rfl (And.intro rfl ⟨rfl, hxC_area (Or.inl rfl) hx1, hS2⟩)
set_option maxRecDepth 20000 in
theorem k_trap_1k (l : Launch) (s : St) (L w : Nat) (k : Int32) (v : Value) (hO : stOK s) (hL : L < s_B s + s_m s) (hw : w < 4) (F : Nat → Int64) (hF : shw s L F) (hk : k < 0 ∨ nI (byn F 64) ≤ k) : clsM l Y_es_trapezoid [.int (nI L), .int k, .int (nI w)] s 1 v s := by
  intro h hS
  refine hp_start (T := T_es_trapezoid) (by decide) rfl (fun σ => Nat.le_of_ble_eq_true rfl) (fun G C => ?_)
  refine hp_run_sound hp_co V_es_trapezoid C (fun _ _ _ _ _ _ _ hq => hq) [] 30 _ _ _ _ _ _ _ ?_
  refine And.intro ⟨0, _, hS.1, rfl⟩ ?_
  refine ic_P (c_es_needLayer l h _ _ _ (nI L) hS.1 (lay_ok hO hL).1 (lay_ok hO hL).2) (Nat.le_add_left _ _) (Nat.le_add_left _ _) ?_
  refine ic_P (c_es_needIndex l h (nI w) 4 (nI_pos (by omega)) (nI_ge (b := 4) hw (by decide))) (Nat.le_add_left _ _) (Nat.le_add_left _ _) ?_
  refine Exists.intro _ (And.intro hS.1 ?_)
  refine And.intro ⟨0, _, hS.1, rfl⟩ ?_
  refine ic_Q (c_es_areaOf l h s L 72 hO hS hL (Or.inl rfl)) (Nat.le_add_left _ _) (Nat.le_add_left _ _) (fun r h2 hq => ?_)
  obtain ⟨b, f, rfl, hb2, hf, hsh, hx1, hS2⟩ := hq
  have hr := rw_of hsh hF
  refine ic_P (c_li_boxFact_no l h2 b w k f hf (by rw [byn_eq hr (by omega)]; exact hk)) (Nat.le_refl _) (Nat.le_refl _) ?_
  exact ⟨rfl, hxC_area (Or.inl rfl) hx1, hS2⟩
end
section
/-! size; op 0 to 3 -/
def updR (D : Nat → Nat → Int64) (m : Nat) (R : Nat → Int64) : Nat → Nat → Int64 := fun i => if i = m then R else D i
theorem updR_s (D : Nat → Nat → Int64) (m : Nat) (R : Nat → Int64) : updR D m R m = R := if_pos rfl
theorem updR_n (D : Nat → Nat → Int64) {m i : Nat} (R : Nat → Int64) (h : i ≠ m) : updR D m R i = D i := if_neg h
/-- a call that makes a layer whose squares are those of sp -/
def clsD (l : Launch) (Y : hp_Y) (av : List Value) (s : St) (sp : Nat → Nat → Bool) : Prop := ∀ h, esS h s → hp_M l Y (.ref 1 :: av) h false 1 6 (fun r h' => r = .inl (some (.int (nI (s_B s + s_m s)))) ∧ hxC h h' ∧ ∃ R, (∀ y x, y < 64 → x < 64 → bb (R y) x = sp x y) ∧ esS h' (St' (s_B s) (s_m s + 1) (s_n s) (s_c s) (s_lay s) (s_k s) (s_X s) (s_Y s) (updR (s_D s) (s_m s) R)))
/-- a made layer's rows are put -/
theorem esS_m {h : hp_H} {s : St} (hS : esS h s) {m : Nat} (hm : m < 24) (R : Nat → Int64) : esS (h.set (41 + m) (LA 64 R)) (St' (s_B s) (s_m s) (s_n s) (s_c s) (s_lay s) (s_k s) (s_X s) (s_Y s) (updR (s_D s) m R)) := by
  obtain ⟨a1, a2, a3, a4, a5⟩ := hS
  have x1 : hx [41 + m] h (h.set (41 + m) (LA 64 R)) := hx_set (hx_rf _ _) _ (by simp)
  refine ⟨hx_at x1 (by simp; omega) a1, poS_hx a2 x1 (fun q hq => by simp at hq; omega), hx_at x1 (by simp; omega) a3, fun i hi => ?_, wkS_lo x1 a5 (fun q hq => by simp at hq; omega)⟩
  show (h.set (41 + m) (LA 64 R))[41 + i]? = some (LA 64 (updR (s_D s) m R i))
  by_cases e : i = m
  · subst e
    rw [updR_s]
    exact hq_get (a4 i hi)
  · rw [updR_n _ _ e, hq_ne (by omega)]
    exact a4 i hi
theorem rzb_eq {f F : Nat → Int64} (h : rwN f = rwN F) (g : Bool) (dx dy : Nat) {y : Nat} (hy : y < 64) : xtu (fun x => xrs g (xtu (fun v => xrs g (f v) dx) x) dy) y = xtu (fun x => xrs g (xtu (fun v => xrs g (F v) dx) x) dy) y := by
  refine bb_ext (fun x hx2 => ?_)
  rw [bb_xtu _ hy hx2, bb_xtu _ hy hx2]
  have e : xtu (fun v => xrs g (f v) dx) x = xtu (fun v => xrs g (F v) dx) x := bb_ext (fun z hz => by
    rw [bb_xtu _ hx2 hz, bb_xtu _ hx2 hz, row_eq h hz])
  rw [e]
/-- square (x, y) of rows f grown or shrunk -/
def rzb (g : Bool) (f : Nat → Int64) (dx dy x y : Nat) : Bool := bb (xtu (fun x => xrs g (xtu (fun v => xrs g (f v) dx) x) dy) y) x
set_option maxRecDepth 20000 in
theorem k_size_1 (l : Launch) (s : St) (x o : Int32) (a : Int64) (v : Value) (hx0 : x < 0 ∨ nI (s_B s + s_m s) ≤ x) : clsM l Y_es_size [.int x, .long a, .int o] s 1 v s := by
  intro h hS
  refine hp_start (T := T_es_size) (by decide) rfl (fun σ => Nat.le_of_ble_eq_true rfl) (fun G C => ?_)
  refine hp_run_sound hp_co V_es_size C (fun _ _ _ _ _ _ _ hq => hq) [] 12 _ _ _ _ _ _ _ ?_
  refine And.intro ⟨0, _, hS.1, rfl⟩ ?_
  refine ic_P (c_es_needLayer_no l h _ _ _ x hS.1 hx0) (Nat.le_refl _) (Nat.le_refl _) ?_
  exact ⟨rfl, hxC_rf h, hS⟩
set_option maxRecDepth 20000 in
theorem k_size_2 (l : Launch) (s : St) (x o : Int32) (a : Int64) (v : Value) (hx1 : ¬ x < 0) (hx2 : ¬ nI (s_B s + s_m s) ≤ x) (hm : s_m s = 24) : clsM l Y_es_size [.int x, .long a, .int o] s 2 v s := by
  intro h hS
  refine hp_start (T := T_es_size) (by decide) rfl (fun σ => Nat.le_of_ble_eq_true rfl) (fun G C => ?_)
  refine hp_run_sound hp_co V_es_size C (fun _ _ _ _ _ _ _ hq => hq) [] 12 _ _ _ _ _ _ _ ?_
  refine And.intro ⟨0, _, hS.1, rfl⟩ ?_
  refine ic_P (c_es_needLayer l h _ _ _ x hS.1 hx1 hx2) (Nat.le_add_left _ _) (Nat.le_add_left _ _) ?_
  refine And.intro ⟨0, _, hS.1, rfl⟩ ?_
  refine ic_P (c_es_needRoom_no l h _ _ _ hm hS.1) (Nat.le_refl _) (Nat.le_refl _) ?_
  exact ⟨rfl, hxC_rf h, hS⟩
set_option maxRecDepth 20000 in
theorem k_size_3 (l : Launch) (s : St) (x o : Int32) (a : Int64) (v : Value) (hx1 : ¬ x < 0) (hx2 : ¬ nI (s_B s + s_m s) ≤ x) (hm : s_m s < 24) (ha : a = 0 ∨ a < -64 ∨ 64 < a) : clsM l Y_es_size [.int x, .long a, .int o] s 3 v s := by
  intro h hS
  refine hp_start (T := T_es_size) (by decide) rfl (fun σ => Nat.le_of_ble_eq_true rfl) (fun G C => ?_)
  have thr : ∀ lv, hp_W G 31 lv [] h true 0 0 := fun lv => hq_throw (ik := 94) (is := 146) (ic := 98) (ci := 2) (text := "by is 0 or beyond 64") V_es_size C tw_es2 (by decide) rfl rfl rfl rfl rfl rfl (by decide) (by decide) (by decide) (by decide) ⟨rfl, hxC_rf h, hS⟩
  refine hp_run_sound hp_co V_es_size C (fun _ _ _ _ _ _ _ hq => hq) [31, 41] 30 _ _ _ _ _ _ _ ?_
  refine And.intro ⟨0, _, hS.1, rfl⟩ ?_
  refine ic_P (c_es_needLayer l h _ _ _ x hS.1 hx1 hx2) (Nat.le_add_left _ _) (Nat.le_add_left _ _) ?_
  refine And.intro ⟨0, _, hS.1, rfl⟩ ?_
  refine ic_P (c_es_needRoom l h _ _ _ hm hS.1) (Nat.le_add_left _ _) (Nat.le_add_left _ _) ?_
  refine And.intro (fun q1 => thr _) (fun q1 => And.intro (fun q2 => thr _) (fun q2 => And.intro (fun q3 => ?_) (fun q3 => thr _)))
  exfalso
  rcases ha with e | e | e
  · exact q1 ((lg_cmp_eq _ _).mpr e)
  · exact q2 ((lg_cmp_lt _ _).mpr e)
  · exact absurd ((lg_cmp_le _ _).mp q3) (Int64.not_le.mpr e)
/-- what a size is asked by: d to grow, or -d to shrink -/
def szv (g : Bool) (d : Nat) : Int64 := if g then lN d else - lN d
theorem szv_f : ∀ g d, d ≤ 64 → 0 < d → ¬ szv g d = 0 ∧ ¬ szv g d < -64 ∧ szv g d ≤ 64 ∧ (szv g d ≤ 0 ↔ g = false) ∧ (if g then szv g d else - szv g d).toInt32 = nI d := by
  have h : ∀ g : Bool, ∀ d, d < 65 → 0 < d → ¬ szv g d = 0 ∧ ¬ szv g d < -64 ∧ szv g d ≤ 64 ∧ (szv g d ≤ 0 ↔ g = false) ∧ (if g then szv g d else - szv g d).toInt32 = nI d := by decide +kernel
  exact fun g d hd => h g d (by omega)
set_option maxRecDepth 20000 in
theorem k_size_0 (l : Launch) (s : St) (L d : Nat) (g oct : Bool) (hO : stOK s) (hL : L < s_B s + s_m s) (hm : s_m s < 24) (hd : d ≤ 64) (hd0 : 0 < d) (F : Nat → Int64) (hF : shw s L F) :
    clsD l Y_es_size [.int (nI L), .long (szv g d), .int (zI oct)] s (fun x y => if oct then (if g then rzb g F d (d / 2) x y || rzb g F (d / 2) d x y else rzb g F d (d / 2) x y && rzb g F (d / 2) d x y) else rzb g F d d x y) := by
  intro h hS
  obtain ⟨z1, z2, z3, z4, z5⟩ := szv_f g d hd hd0
  refine hp_start (T := T_es_size) (by decide) rfl (fun σ => Nat.le_of_ble_eq_true rfl) (fun G C => ?_)
  generalize szv g d = av at z1 z2 z3 z4 z5
  -- from 84 on
  have t84 : hp_W G 84 [(0, .ref 1), (1, .int (nI L)), (2, .long av), (4, .int (zI oct)), (5, .int (zI g)), (6, .int (nI d)), (7, .int (nI (if oct then d / 2 else d)))] [] h true 0 0 := by
    have hn : (if oct then d / 2 else d) ≤ 64 := by split <;> omega
    generalize hne : (if oct then d / 2 else d) = nd at hn
    refine hp_run_sound hp_co V_es_size C (fun _ _ _ _ _ _ _ hq => hq) [149] 60 _ _ _ _ _ _ _ ?_
    refine Exists.intro _ (And.intro hS.1 ?_)
    refine And.intro ⟨0, _, hS.1, rfl⟩ ?_
    refine ic_Q (c_es_areaOf l h s L 72 hO hS hL (Or.inl rfl)) (Nat.le_add_left _ _) (Nat.le_add_left _ _) (fun r h2 hq => ?_)
    obtain ⟨b, f, rfl, hb2, hf, hsh, hx1, hS2⟩ := hq
    have hr := rw_of hsh hF
    refine Exists.intro _ (And.intro hS2.1 ?_)
    refine Exists.intro _ (And.intro hS2.1 ?_)
    refine Exists.intro _ (Exists.intro 24 (Exists.intro _ (And.intro hS2.2.2.1 (And.intro (in_nI hm (by decide)) ?_))))
    rw [nI_clamp (show s_m s < 2 ^ 31 by omega)]
    refine ic_Q (c_ro_resize l h2 b (41 + s_m s) d nd g hd hn f _ hf (hS2.2.2.2.1 _ hm)) (Nat.le_add_left _ _) (Nat.le_add_left _ _) (fun r h3 hq => ?_)
    obtain ⟨rfl, f3, rfl, hf3⟩ := hq
    have hS3 := esS_m hS2 hm f3
    have hx3 : hxC h (h2.set (41 + s_m s) (LA 64 f3)) := hxC_tr (hxC_area (Or.inl rfl) hx1) (hxC_of (ps := [41 + s_m s]) (hx_set (hx_rf _ _) _ (by simp)) (fun q hq => by simp at hq; omega))
    refine And.intro (fun q => ?_) (fun q => ?_)
    · have ho : oct = false := (zI_eq oct).mp q
      subst ho
      refine And.intro ⟨0, _, hS3.1, rfl⟩ ?_
      refine ic_P (c_es_addMade l _ _ _ _ hS3.1) (Nat.le_add_left _ _) (Nat.le_add_left _ _) ?_
      refine And.intro rfl (And.intro rfl ⟨rfl, hxC_tr hx3 (hxC_of (ps := [1]) (hx_set (hx_rf _ _) _ (by simp)) (by simp)), f3, fun y x hy hx2 => ?_, esS_1 hS3 (s_m s + 1) (s_n s)⟩)
      rw [hf3 y hy, rzb_eq hr g d nd hy, ← hne]
      rfl
    · have ho : oct = true := by
        cases oct with
        | true => rfl
        | false => exact absurd rfl q
      subst ho
      have hnd : nd = d / 2 := hne.symm
      refine Exists.intro _ (And.intro hS3.1 ?_)
      obtain ⟨w1, w2, w3, w4, w5, w6, w7, w8, w9, w10, ⟨e, v11⟩⟩ := id hS3.2.2.2.2
      have hbm : 41 + s_m s ≠ b := by
        rcases hb2 with e' | ⟨_, e'⟩
        · rw [e']
          exact Nat.ne_of_lt (Nat.lt_of_lt_of_le (Nat.add_lt_add_left hm 41) (by decide))
        · exact Nat.ne_of_gt e'
      refine ic_Q (c_ro_resize l _ b 74 nd d g hn hd f e (by rw [hq_ne hbm]; exact hf) v11) (Nat.le_add_left _ _) (Nat.le_add_left _ _) (fun r h4 hq => ?_)
      obtain ⟨rfl, f4, rfl, hf4⟩ := hq
      have hS4 := esS_74 hS3 f4
      have hx4 : hxC h ((h2.set (41 + s_m s) (LA 64 f3)).set 74 (LA 64 f4)) := hxC_tr hx3 (hxC_of (ps := [74]) (hx_set (hx_rf _ _) _ (by simp)) (by simp))
      have k1 : ((h2.set (41 + s_m s) (LA 64 f3)).set 74 (LA 64 f4))[41 + s_m s]? = some (LA 64 f3) := by rw [hq_ne (by omega)]; exact hq_get (hS2.2.2.2.1 _ hm)
      have k2 : ((h2.set (41 + s_m s) (LA 64 f3)).set 74 (LA 64 f4))[74]? = some (LA 64 f4) := hq_get v11
      generalize (h2.set (41 + s_m s) (LA 64 f3)).set 74 (LA 64 f4) = h4 at hS4 hx4 k1 k2 ⊢
      have fin : ∀ u, u < 2 → (∀ x y, (xcb u x y) = if g then x ||| y else x &&& y) → ∀ R, R = pt 64 (fun y => xcb u (f3 y) (f4 y)) f3 → esS (h4.set (41 + s_m s) (LA 64 R)) (St' (s_B s) (s_m s) (s_n s) (s_c s) (s_lay s) (s_k s) (s_X s) (s_Y s) (updR (s_D s) (s_m s) R)) ∧ ∀ y x, y < 64 → x < 64 → bb (R y) x = (if g then rzb g F d nd x y || rzb g F nd d x y else rzb g F d nd x y && rzb g F nd d x y) := by
        intro u hu hxc R hR
        refine ⟨?_, fun y x hy hx2 => ?_⟩
        · have := esS_m hS4 hm R
          have e2 : updR (updR (s_D s) (s_m s) f3) (s_m s) R = updR (s_D s) (s_m s) R := by
            funext i
            unfold updR
            by_cases c : i = s_m s
            · rw [if_pos c, if_pos c]
            · rw [if_neg c, if_neg c, if_neg c]
          rw [show updR (s_D (St' (s_B s) (s_m s) (s_n s) (s_c s) (s_lay s) (s_k s) (s_X s) (s_Y s) (updR (s_D s) (s_m s) f3))) (s_m s) R = updR (s_D s) (s_m s) R from e2] at this
          exact this
        · rw [hR, pt_lt _ _ hy, hxc, hf3 y hy, hf4 y hy, rzb_eq hr g d nd hy, rzb_eq hr g nd d hy]
          cases g with
          | true => rw [if_pos rfl, if_pos rfl, bb_or]; rfl
          | false => rw [if_neg (by decide), if_neg (by decide), bb_and]; rfl
      have last : ∀ u, u < 2 → (∀ x y, (xcb u x y) = if g then x ||| y else x &&& y) → hp_W G 149 [(0, .ref 1), (1, .int (nI L)), (2, .long av), (4, .int (zI true)), (5, .int (zI g)), (6, .int (nI d)), (7, .int (nI nd)), (8, .ref b), (9, .ref (41 + s_m s))] [.int (nI u)] h4 false 0 0 := by
        intro u hu hxc
        obtain ⟨q1, q2⟩ := fin u hu hxc _ rfl
        refine hp_run_sound hp_co V_es_size C (fun _ _ _ _ _ _ _ hq => hq) [] 20 _ _ _ _ _ _ _ ?_
        refine Exists.intro _ (And.intro hS4.1 ?_)
        refine ic_P (c_es_combine l h4 u (41 + s_m s) 74 (41 + s_m s) (by omega) f3 f4 f3 k1 k2 k1) (Nat.le_add_left _ _) (Nat.le_add_left _ _) ?_
        refine And.intro ⟨0, _, q1.1, rfl⟩ ?_
        refine ic_P (c_es_addMade l _ _ _ _ q1.1) (Nat.le_add_left _ _) (Nat.le_add_left _ _) ?_
        refine And.intro rfl (And.intro rfl ⟨rfl, hxC_tr hx4 (hxC_of (ps := [1, 41 + s_m s]) (hx_set (hx_set (hx_rf _ _) _ (by simp)) _ (by simp)) (fun q hq => by simp at hq; omega)), _, fun y x hy hx2 => ?_, esS_1 q1 (s_m s + 1) (s_n s)⟩)
        rw [q2 y x hy hx2, hnd]
        rfl
      refine And.intro (fun q => ?_) (fun q => ?_)
      · have hg : g = false := (zI_eq g).mp q
        exact last 1 (by decide) (fun x y => by rw [hg]; rfl)
      · have hg : g = true := by
          cases hgg : g with
          | true => rfl
          | false => exact absurd (by rw [hgg]; rfl) q
        exact last 0 (by decide) (fun x y => by rw [hg]; rfl)
  sorry
end
