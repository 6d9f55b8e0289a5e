section
-- ===== PART A: goes FIRST, ahead of the names: the tables' words, and 'selects' of the private methods out of them =====
/-- a private method of a class that the tables say can be made, by its rows of tables_1 -/
def lw_okq (q : MethodName × Nat) : Prop := (q.1.cls ≠ "java/lang/invoke/MethodHandle" ∧ q.1.cls ≠ "java/lang/invoke/VarHandle") ∧ Cond.instantiable q.1.cls q.2 ∈ tables_1 ∧ Cond.privateMethod q.1 ∈ tables_1 ∧ Cond.instanceMethod q.1 ∈ tables_1
theorem lw_p0 : lw_okq (⟨"EdgeSweeps", "isBase", "(I)Z"⟩, 9) := ⟨⟨by decide +kernel, by decide +kernel⟩, List.mem_of_getElem? (i := 18) (by decide +kernel), List.mem_of_getElem? (i := 144) (by decide +kernel), List.mem_of_getElem? (i := 145) (by decide +kernel)⟩
theorem lw_p1 : lw_okq (⟨"java/lang/Throwable", "fillInStackTrace", "(I)Ljava/lang/Throwable;"⟩, 6) := ⟨⟨by decide +kernel, by decide +kernel⟩, List.mem_of_getElem? (i := 186) (by decide +kernel), List.mem_of_getElem? (i := 184) (by decide +kernel), List.mem_of_getElem? (i := 185) (by decide +kernel)⟩
theorem lw_p2 : lw_okq (⟨"EdgeSweeps$Polygons", "differInOne", "(IIII)Z"⟩, 6) := ⟨⟨by decide +kernel, by decide +kernel⟩, List.mem_of_getElem? (i := 26) (by decide +kernel), List.mem_of_getElem? (i := 279) (by decide +kernel), List.mem_of_getElem? (i := 280) (by decide +kernel)⟩
theorem lw_p3 : lw_okq (⟨"EdgeSweeps", "needLayer", "(I)V"⟩, 9) := ⟨⟨by decide +kernel, by decide +kernel⟩, List.mem_of_getElem? (i := 18) (by decide +kernel), List.mem_of_getElem? (i := 290) (by decide +kernel), List.mem_of_getElem? (i := 291) (by decide +kernel)⟩
theorem lw_p4 : lw_okq (⟨"EdgeSweeps", "needRoomForLayer", "()V"⟩, 9) := ⟨⟨by decide +kernel, by decide +kernel⟩, List.mem_of_getElem? (i := 18) (by decide +kernel), List.mem_of_getElem? (i := 298) (by decide +kernel), List.mem_of_getElem? (i := 299) (by decide +kernel)⟩
theorem lw_p5 : lw_okq (⟨"EdgeSweeps", "areaOf", "(I[J)[J"⟩, 9) := ⟨⟨by decide +kernel, by decide +kernel⟩, List.mem_of_getElem? (i := 18) (by decide +kernel), List.mem_of_getElem? (i := 304) (by decide +kernel), List.mem_of_getElem? (i := 305) (by decide +kernel)⟩
theorem lw_p6 : lw_okq (⟨"EdgeSweeps$Polygons", "isOpen", "(I)Z"⟩, 6) := ⟨⟨by decide +kernel, by decide +kernel⟩, List.mem_of_getElem? (i := 26) (by decide +kernel), List.mem_of_getElem? (i := 315) (by decide +kernel), List.mem_of_getElem? (i := 316) (by decide +kernel)⟩
theorem lw_p7 : lw_okq (⟨"EdgeSweeps$Polygons", "paintOne", "(I[J)V"⟩, 6) := ⟨⟨by decide +kernel, by decide +kernel⟩, List.mem_of_getElem? (i := 26) (by decide +kernel), List.mem_of_getElem? (i := 319) (by decide +kernel), List.mem_of_getElem? (i := 320) (by decide +kernel)⟩
theorem lw_p8 : lw_okq (⟨"EdgeSweeps$Parts", "cutRuns", "([J)V"⟩, 8) := ⟨⟨by decide +kernel, by decide +kernel⟩, List.mem_of_getElem? (i := 57) (by decide +kernel), List.mem_of_getElem? (i := 334) (by decide +kernel), List.mem_of_getElem? (i := 335) (by decide +kernel)⟩
theorem lw_p9 : lw_okq (⟨"EdgeSweeps$Parts", "joinRuns", "([J[II)V"⟩, 8) := ⟨⟨by decide +kernel, by decide +kernel⟩, List.mem_of_getElem? (i := 57) (by decide +kernel), List.mem_of_getElem? (i := 354) (by decide +kernel), List.mem_of_getElem? (i := 355) (by decide +kernel)⟩
theorem lw_p10 : lw_okq (⟨"EdgeSweeps", "markTouching", "([J[J)V"⟩, 9) := ⟨⟨by decide +kernel, by decide +kernel⟩, List.mem_of_getElem? (i := 18) (by decide +kernel), List.mem_of_getElem? (i := 382) (by decide +kernel), List.mem_of_getElem? (i := 383) (by decide +kernel)⟩
theorem lw_p11 : lw_okq (⟨"EdgeSweeps", "addMade", "()I"⟩, 9) := ⟨⟨by decide +kernel, by decide +kernel⟩, List.mem_of_getElem? (i := 18) (by decide +kernel), List.mem_of_getElem? (i := 413) (by decide +kernel), List.mem_of_getElem? (i := 414) (by decide +kernel)⟩
theorem lw_p12 : lw_okq (⟨"EdgeSweepsModel", "isLayer", "(I)Z"⟩, 23) := ⟨⟨by decide +kernel, by decide +kernel⟩, List.mem_of_getElem? (i := 589) (by decide +kernel), List.mem_of_getElem? (i := 691) (by decide +kernel), List.mem_of_getElem? (i := 692) (by decide +kernel)⟩
theorem lw_p13 : lw_okq (⟨"EdgeSweepsModel", "load", "(IZ)V"⟩, 23) := ⟨⟨by decide +kernel, by decide +kernel⟩, List.mem_of_getElem? (i := 589) (by decide +kernel), List.mem_of_getElem? (i := 695) (by decide +kernel), List.mem_of_getElem? (i := 696) (by decide +kernel)⟩
theorem lw_p14 : lw_okq (⟨"EdgeSweepsModel", "isClosed", "(I)Z"⟩, 23) := ⟨⟨by decide +kernel, by decide +kernel⟩, List.mem_of_getElem? (i := 589) (by decide +kernel), List.mem_of_getElem? (i := 699) (by decide +kernel), List.mem_of_getElem? (i := 700) (by decide +kernel)⟩
theorem lw_p15 : lw_okq (⟨"EdgeSweepsModel", "isIn", "(III)Z"⟩, 23) := ⟨⟨by decide +kernel, by decide +kernel⟩, List.mem_of_getElem? (i := 589) (by decide +kernel), List.mem_of_getElem? (i := 703) (by decide +kernel), List.mem_of_getElem? (i := 704) (by decide +kernel)⟩
def lw_privs_1 : List (MethodName × Nat) := [(⟨"EdgeSweeps", "isBase", "(I)Z"⟩, 9), (⟨"java/lang/Throwable", "fillInStackTrace", "(I)Ljava/lang/Throwable;"⟩, 6), (⟨"EdgeSweeps$Polygons", "differInOne", "(IIII)Z"⟩, 6), (⟨"EdgeSweeps", "needLayer", "(I)V"⟩, 9), (⟨"EdgeSweeps", "needRoomForLayer", "()V"⟩, 9), (⟨"EdgeSweeps", "areaOf", "(I[J)[J"⟩, 9), (⟨"EdgeSweeps$Polygons", "isOpen", "(I)Z"⟩, 6), (⟨"EdgeSweeps$Polygons", "paintOne", "(I[J)V"⟩, 6), (⟨"EdgeSweeps$Parts", "cutRuns", "([J)V"⟩, 8), (⟨"EdgeSweeps$Parts", "joinRuns", "([J[II)V"⟩, 8), (⟨"EdgeSweeps", "markTouching", "([J[J)V"⟩, 9), (⟨"EdgeSweeps", "addMade", "()I"⟩, 9), (⟨"EdgeSweepsModel", "isLayer", "(I)Z"⟩, 23), (⟨"EdgeSweepsModel", "load", "(IZ)V"⟩, 23), (⟨"EdgeSweepsModel", "isClosed", "(I)Z"⟩, 23), (⟨"EdgeSweepsModel", "isIn", "(III)Z"⟩, 23)]
theorem lw_r1 : ∀ q ∈ lw_privs_1, lw_okq q := List.forall_mem_cons.mpr ⟨lw_p0, List.forall_mem_cons.mpr ⟨lw_p1, List.forall_mem_cons.mpr ⟨lw_p2, List.forall_mem_cons.mpr ⟨lw_p3, List.forall_mem_cons.mpr ⟨lw_p4, List.forall_mem_cons.mpr ⟨lw_p5, List.forall_mem_cons.mpr ⟨lw_p6, List.forall_mem_cons.mpr ⟨lw_p7, List.forall_mem_cons.mpr ⟨lw_p8, List.forall_mem_cons.mpr ⟨lw_p9, List.forall_mem_cons.mpr ⟨lw_p10, List.forall_mem_cons.mpr ⟨lw_p11, List.forall_mem_cons.mpr ⟨lw_p12, List.forall_mem_cons.mpr ⟨lw_p13, List.forall_mem_cons.mpr ⟨lw_p14, List.forall_mem_cons.mpr ⟨lw_p15, fun _ h => absurd h List.not_mem_nil⟩⟩⟩⟩⟩⟩⟩⟩⟩⟩⟩⟩⟩⟩⟩⟩
theorem lw_p16 : lw_okq (⟨"EdgeSweepsModel", "relate", "()V"⟩, 23) := ⟨⟨by decide +kernel, by decide +kernel⟩, List.mem_of_getElem? (i := 589) (by decide +kernel), List.mem_of_getElem? (i := 707) (by decide +kernel), List.mem_of_getElem? (i := 708) (by decide +kernel)⟩
theorem lw_p17 : lw_okq (⟨"EdgeSweepsModel", "label", "()V"⟩, 23) := ⟨⟨by decide +kernel, by decide +kernel⟩, List.mem_of_getElem? (i := 589) (by decide +kernel), List.mem_of_getElem? (i := 711) (by decide +kernel), List.mem_of_getElem? (i := 712) (by decide +kernel)⟩
theorem lw_p18 : lw_okq (⟨"EdgeSweepsModel", "isOne", "(II)Z"⟩, 23) := ⟨⟨by decide +kernel, by decide +kernel⟩, List.mem_of_getElem? (i := 589) (by decide +kernel), List.mem_of_getElem? (i := 715) (by decide +kernel), List.mem_of_getElem? (i := 716) (by decide +kernel)⟩
theorem lw_p19 : lw_okq (⟨"EdgeSweepsModel", "isTwo", "(II)Z"⟩, 23) := ⟨⟨by decide +kernel, by decide +kernel⟩, List.mem_of_getElem? (i := 589) (by decide +kernel), List.mem_of_getElem? (i := 722) (by decide +kernel), List.mem_of_getElem? (i := 723) (by decide +kernel)⟩
theorem lw_p20 : lw_okq (⟨"EdgeSweepsModel", "isTouched", "(II)Z"⟩, 23) := ⟨⟨by decide +kernel, by decide +kernel⟩, List.mem_of_getElem? (i := 589) (by decide +kernel), List.mem_of_getElem? (i := 726) (by decide +kernel), List.mem_of_getElem? (i := 727) (by decide +kernel)⟩
theorem lw_p21 : lw_okq (⟨"EdgeSweepsModel", "keep", "()I"⟩, 23) := ⟨⟨by decide +kernel, by decide +kernel⟩, List.mem_of_getElem? (i := 589) (by decide +kernel), List.mem_of_getElem? (i := 731) (by decide +kernel), List.mem_of_getElem? (i := 732) (by decide +kernel)⟩
theorem lw_p22 : lw_okq (⟨"EdgeSweepsModel", "isRound", "(IIIIZ)Z"⟩, 23) := ⟨⟨by decide +kernel, by decide +kernel⟩, List.mem_of_getElem? (i := 589) (by decide +kernel), List.mem_of_getElem? (i := 740) (by decide +kernel), List.mem_of_getElem? (i := 741) (by decide +kernel)⟩
theorem lw_p23 : lw_okq (⟨"EdgeSweepsModel", "isReady", "(I)Z"⟩, 23) := ⟨⟨by decide +kernel, by decide +kernel⟩, List.mem_of_getElem? (i := 589) (by decide +kernel), List.mem_of_getElem? (i := 748) (by decide +kernel), List.mem_of_getElem? (i := 749) (by decide +kernel)⟩
theorem lw_p24 : lw_okq (⟨"EdgeSweepsModel", "isCorner", "(III)Z"⟩, 23) := ⟨⟨by decide +kernel, by decide +kernel⟩, List.mem_of_getElem? (i := 589) (by decide +kernel), List.mem_of_getElem? (i := 756) (by decide +kernel), List.mem_of_getElem? (i := 757) (by decide +kernel)⟩
theorem lw_p25 : lw_okq (⟨"EdgeSweepsModel", "isOf", "(III)Z"⟩, 23) := ⟨⟨by decide +kernel, by decide +kernel⟩, List.mem_of_getElem? (i := 589) (by decide +kernel), List.mem_of_getElem? (i := 760) (by decide +kernel), List.mem_of_getElem? (i := 761) (by decide +kernel)⟩
theorem lw_p26 : lw_okq (⟨"EdgeSweepsModel", "join", "()V"⟩, 23) := ⟨⟨by decide +kernel, by decide +kernel⟩, List.mem_of_getElem? (i := 589) (by decide +kernel), List.mem_of_getElem? (i := 776) (by decide +kernel), List.mem_of_getElem? (i := 777) (by decide +kernel)⟩
theorem lw_p27 : lw_okq (⟨"EdgeSweepsModel", "findEdge", "(IZ)I"⟩, 23) := ⟨⟨by decide +kernel, by decide +kernel⟩, List.mem_of_getElem? (i := 589) (by decide +kernel), List.mem_of_getElem? (i := 788) (by decide +kernel), List.mem_of_getElem? (i := 789) (by decide +kernel)⟩
theorem lw_p28 : lw_okq (⟨"EdgeSweepsModel", "lying", "(II)I"⟩, 23) := ⟨⟨by decide +kernel, by decide +kernel⟩, List.mem_of_getElem? (i := 589) (by decide +kernel), List.mem_of_getElem? (i := 792) (by decide +kernel), List.mem_of_getElem? (i := 793) (by decide +kernel)⟩
theorem lw_p29 : lw_okq (⟨"EdgeSweepsModel", "standing", "(II)I"⟩, 23) := ⟨⟨by decide +kernel, by decide +kernel⟩, List.mem_of_getElem? (i := 589) (by decide +kernel), List.mem_of_getElem? (i := 796) (by decide +kernel), List.mem_of_getElem? (i := 797) (by decide +kernel)⟩
theorem lw_p30 : lw_okq (⟨"EdgeSweepsModel", "isLine", "(I)Z"⟩, 23) := ⟨⟨by decide +kernel, by decide +kernel⟩, List.mem_of_getElem? (i := 589) (by decide +kernel), List.mem_of_getElem? (i := 809) (by decide +kernel), List.mem_of_getElem? (i := 810) (by decide +kernel)⟩
def lw_privs_2 : List (MethodName × Nat) := [(⟨"EdgeSweepsModel", "relate", "()V"⟩, 23), (⟨"EdgeSweepsModel", "label", "()V"⟩, 23), (⟨"EdgeSweepsModel", "isOne", "(II)Z"⟩, 23), (⟨"EdgeSweepsModel", "isTwo", "(II)Z"⟩, 23), (⟨"EdgeSweepsModel", "isTouched", "(II)Z"⟩, 23), (⟨"EdgeSweepsModel", "keep", "()I"⟩, 23), (⟨"EdgeSweepsModel", "isRound", "(IIIIZ)Z"⟩, 23), (⟨"EdgeSweepsModel", "isReady", "(I)Z"⟩, 23), (⟨"EdgeSweepsModel", "isCorner", "(III)Z"⟩, 23), (⟨"EdgeSweepsModel", "isOf", "(III)Z"⟩, 23), (⟨"EdgeSweepsModel", "join", "()V"⟩, 23), (⟨"EdgeSweepsModel", "findEdge", "(IZ)I"⟩, 23), (⟨"EdgeSweepsModel", "lying", "(II)I"⟩, 23), (⟨"EdgeSweepsModel", "standing", "(II)I"⟩, 23), (⟨"EdgeSweepsModel", "isLine", "(I)Z"⟩, 23)]
theorem lw_r2 : ∀ q ∈ lw_privs_2, lw_okq q := List.forall_mem_cons.mpr ⟨lw_p16, List.forall_mem_cons.mpr ⟨lw_p17, List.forall_mem_cons.mpr ⟨lw_p18, List.forall_mem_cons.mpr ⟨lw_p19, List.forall_mem_cons.mpr ⟨lw_p20, List.forall_mem_cons.mpr ⟨lw_p21, List.forall_mem_cons.mpr ⟨lw_p22, List.forall_mem_cons.mpr ⟨lw_p23, List.forall_mem_cons.mpr ⟨lw_p24, List.forall_mem_cons.mpr ⟨lw_p25, List.forall_mem_cons.mpr ⟨lw_p26, List.forall_mem_cons.mpr ⟨lw_p27, List.forall_mem_cons.mpr ⟨lw_p28, List.forall_mem_cons.mpr ⟨lw_p29, List.forall_mem_cons.mpr ⟨lw_p30, fun _ h => absurd h List.not_mem_nil⟩⟩⟩⟩⟩⟩⟩⟩⟩⟩⟩⟩⟩⟩⟩
def lw_privs : List (MethodName × Nat) := lw_privs_1 ++ (lw_privs_2)
def lw_tbl : List Cond := k2_sels lw_privs ++ tables_1
theorem lw_privs_ok : ∀ q ∈ lw_privs, lw_okq q := by
  show ∀ q ∈ lw_privs_1 ++ (lw_privs_2), lw_okq q
  exact List.forall_mem_append.mpr ⟨lw_r1, lw_r2⟩
end
section
/-! NAMES, printed by wip/whole/gen/gen.py: classes that are made, their fields; exceptions; the words -/
def hp_xs : List Jvm.Cond := [.isRef (.static "java/lang/Throwable" "UNASSIGNED_STACK" "[Ljava/lang/StackTraceElement;"), .isRef (.static "java/lang/Throwable" "SUPPRESSED_SENTINEL" "Ljava/util/List;")]
def hp_Ts : List Jvm.Cond := lw_tbl ++ hp_xs
theorem tm_in {w : Jvm.Cond} (h : w ∈ tables_1) : w ∈ hp_Ts := List.mem_append_left _ (List.mem_append_right _ h)
theorem ts_in {w : Jvm.Cond} (h : w ∈ k2_sels lw_privs) : w ∈ hp_Ts := List.mem_append_left _ (List.mem_append_left _ h)
def hp_strs : List (String × Nat × String) := [("EdgeSweeps", 64, "no such base layer"), ("EdgeSweeps", 75, "there are 16 polygons"), ("EdgeSweeps", 85, "no such polygon"), ("EdgeSweeps", 90, "the polygon has 16 corners"), ("EdgeSweeps", 96, "x or y is not 0 .. 64"), ("EdgeSweeps", 219, "no such thing"), ("EdgeSweeps", 221, "there are 24 made layers"), ("EdgeSweeps", 110, "no such operation"), ("EdgeSweeps", 146, "by is 0 or beyond 64"), ("EdgeSweeps$Lines", 72, "no such corner"), ("EdgeSweeps", 182, "k is below 0"), ("EdgeSweeps", 196, "n is not 1 .. 64"), ("EdgeSweeps$Lines", 51, "no such edge"), ("EdgeSweeps$Lines", 62, "no such box")]
def hp_ncs : List (String × String) := [("java/lang/IndexOutOfBoundsException", "java/lang/IllegalStateException"), ("java/lang/IndexOutOfBoundsException", "java/lang/IllegalArgumentException"), ("java/lang/IllegalStateException", "java/lang/IndexOutOfBoundsException"), ("java/lang/IllegalStateException", "java/lang/IllegalArgumentException"), ("java/lang/IllegalArgumentException", "java/lang/IndexOutOfBoundsException"), ("java/lang/IllegalArgumentException", "java/lang/IllegalStateException")]
def hp_exn (ci : Nat) : String := match ci with
  | 0 => "java/lang/IndexOutOfBoundsException"
  | 1 => "java/lang/IllegalStateException"
  | _ => "java/lang/IllegalArgumentException"
def R_es : String := "EdgeSweeps"
def F_es : u_T := fun k => match k with
  | 0 => ("EdgeSweeps", "baseLayers", "I", true)
  | 1 => ("EdgeSweeps", "polygons", "LEdgeSweeps$Polygons;", true)
  | 2 => ("EdgeSweeps", "made", "[[J", true)
  | 3 => ("EdgeSweeps", "madeCount", "I", false)
  | 4 => ("EdgeSweeps", "stripCount", "I", false)
  | 5 => ("EdgeSweeps", "parts", "LEdgeSweeps$Parts;", true)
  | 6 => ("EdgeSweeps", "first", "[J", true)
  | 7 => ("EdgeSweeps", "second", "[J", true)
  | _ => ("EdgeSweeps", "spare", "[J", true)
def t_es : Nat → FieldType := fun k => match k with
  | 0 => .int
  | 1 => .object "EdgeSweeps$Polygons"
  | 2 => .array (.array .long)
  | 3 => .int
  | 4 => .int
  | 5 => .object "EdgeSweeps$Parts"
  | 6 => .array .long
  | 7 => .array .long
  | _ => .array .long
def R_po : String := "EdgeSweeps$Polygons"
def F_po : u_T := fun k => match k with
  | 0 => ("EdgeSweeps$Polygons", "count", "I", false)
  | 1 => ("EdgeSweeps$Polygons", "layerOf", "[I", true)
  | 2 => ("EdgeSweeps$Polygons", "corners", "[I", true)
  | 3 => ("EdgeSweeps$Polygons", "xs", "[[I", true)
  | 4 => ("EdgeSweeps$Polygons", "ys", "[[I", true)
  | _ => ("EdgeSweeps$Polygons", "flips", "[J", true)
def t_po : Nat → FieldType := fun k => match k with
  | 0 => .int
  | 1 => .array .int
  | 2 => .array .int
  | 3 => .array (.array .int)
  | 4 => .array (.array .int)
  | _ => .array .long
def R_pa : String := "EdgeSweeps$Parts"
def F_pa : u_T := fun k => match k with
  | 0 => ("EdgeSweeps$Parts", "squares", "[J", true)
  | 1 => ("EdgeSweeps$Parts", "shapeHead", "[I", true)
  | 2 => ("EdgeSweeps$Parts", "netHead", "[I", true)
  | 3 => ("EdgeSweeps$Parts", "shapeOf", "[I", true)
  | 4 => ("EdgeSweeps$Parts", "marked", "[Z", true)
  | 5 => ("EdgeSweeps$Parts", "rowStart", "[I", true)
  | 6 => ("EdgeSweeps$Parts", "runCount", "I", false)
  | _ => ("EdgeSweeps$Parts", "shapeCount", "I", false)
def t_pa : Nat → FieldType := fun k => match k with
  | 0 => .array .long
  | 1 => .array .int
  | 2 => .array .int
  | 3 => .array .int
  | 4 => .array .boolean
  | 5 => .array .int
  | 6 => .int
  | _ => .int
def R_mo : String := "EdgeSweepsModel"
def F_mo : u_T := fun k => match k with
  | 0 => ("EdgeSweepsModel", "code", "I", false)
  | 1 => ("EdgeSweepsModel", "layers", "I", true)
  | 2 => ("EdgeSweepsModel", "polygonLayers", "[I", true)
  | 3 => ("EdgeSweepsModel", "counts", "[I", true)
  | 4 => ("EdgeSweepsModel", "cornerX", "[I", true)
  | 5 => ("EdgeSweepsModel", "cornerY", "[I", true)
  | 6 => ("EdgeSweepsModel", "polygons", "I", false)
  | 7 => ("EdgeSweepsModel", "mades", "[J", true)
  | 8 => ("EdgeSweepsModel", "made", "I", false)
  | 9 => ("EdgeSweepsModel", "strips", "I", false)
  | 10 => ("EdgeSweepsModel", "one", "[J", true)
  | 11 => ("EdgeSweepsModel", "two", "[J", true)
  | 12 => ("EdgeSweepsModel", "out", "[J", true)
  | 13 => ("EdgeSweepsModel", "labels", "[I", true)
  | 14 => ("EdgeSweepsModel", "stack", "[I", true)
  | 15 => ("EdgeSweepsModel", "shapeCount", "I", false)
  | 16 => ("EdgeSweepsModel", "netIds", "[I", true)
  | 17 => ("EdgeSweepsModel", "inside", "[Z", true)
  | 18 => ("EdgeSweepsModel", "touches", "[Z", true)
  | 19 => ("EdgeSweepsModel", "line", "I", false)
  | 20 => ("EdgeSweepsModel", "from", "I", false)
  | 21 => ("EdgeSweepsModel", "to", "I", false)
  | _ => ("EdgeSweepsModel", "side", "I", false)
def t_mo : Nat → FieldType := fun k => match k with
  | 0 => .int
  | 1 => .int
  | 2 => .array .int
  | 3 => .array .int
  | 4 => .array .int
  | 5 => .array .int
  | 6 => .int
  | 7 => .array .long
  | 8 => .int
  | 9 => .int
  | 10 => .array .long
  | 11 => .array .long
  | 12 => .array .long
  | 13 => .array .int
  | 14 => .array .int
  | 15 => .int
  | 16 => .array .int
  | 17 => .array .boolean
  | 18 => .array .boolean
  | 19 => .int
  | 20 => .int
  | 21 => .int
  | _ => .int
abbrev classes : List vw_C := [(R_es, F_es, 9), (R_po, F_po, 6), (R_pa, F_pa, 8), (R_mo, F_mo, 23)]
def hp_fty (ci : Nat) : Nat → FieldType := match ci with
  | 0 => t_es
  | 1 => t_po
  | 2 => t_pa
  | _ => t_mo
def hp_new (ci : Nat) : List Value := match ci with
  | 0 => [.int 0, .null, .null, .int 0, .int 0, .null, .null, .null, .null]
  | 1 => [.int 0, .null, .null, .null, .null, .null]
  | 2 => [.null, .null, .null, .null, .null, .null, .int 0, .int 0]
  | _ => [.int 0, .int 0, .null, .null, .null, .null, .int 0, .null, .int 0, .int 0, .null, .null, .null, .null, .null, .int 0, .null, .null, .null, .int 0, .int 0, .int 0, .int 0]
theorem nm_es : ∀ a, a < 9 → ∀ b, b < 9 → a ≠ b → (F_es a).2.1 ≠ (F_es b).2.1 := by decide +kernel
theorem ty_es : ∀ k, k < 9 → parseFieldDescriptor (F_es k).2.2.1 = some (t_es k) := by decide +kernel
theorem df_es : ∀ k, k < 9 → defaultValue (t_es k) = vp_V (hp_new 0) k := by decide +kernel
theorem la_es : ∀ w ∈ u_ws R_es F_es 9, w ∈ hp_Ts := fun w hw => tm_in (by
  have e : u_ws R_es F_es 9 = ([104, 106, 108, 110, 112, 114, 116, 118, 120] : List Nat).filterMap (fun i => tables_1[i]?) := by decide +kernel
  rw [e] at hw
  obtain ⟨i, -, hi⟩ := List.mem_filterMap.mp hw
  exact List.mem_of_getElem? hi)
theorem nm_po : ∀ a, a < 6 → ∀ b, b < 6 → a ≠ b → (F_po a).2.1 ≠ (F_po b).2.1 := by decide +kernel
theorem ty_po : ∀ k, k < 6 → parseFieldDescriptor (F_po k).2.2.1 = some (t_po k) := by decide +kernel
theorem df_po : ∀ k, k < 6 → defaultValue (t_po k) = vp_V (hp_new 1) k := by decide +kernel
theorem la_po : ∀ w ∈ u_ws R_po F_po 6, w ∈ hp_Ts := fun w hw => tm_in (by
  have e : u_ws R_po F_po 6 = ([39, 41, 43, 45, 47, 49] : List Nat).filterMap (fun i => tables_1[i]?) := by decide +kernel
  rw [e] at hw
  obtain ⟨i, -, hi⟩ := List.mem_filterMap.mp hw
  exact List.mem_of_getElem? hi)
theorem nm_pa : ∀ a, a < 8 → ∀ b, b < 8 → a ≠ b → (F_pa a).2.1 ≠ (F_pa b).2.1 := by decide +kernel
theorem ty_pa : ∀ k, k < 8 → parseFieldDescriptor (F_pa k).2.2.1 = some (t_pa k) := by decide +kernel
theorem df_pa : ∀ k, k < 8 → defaultValue (t_pa k) = vp_V (hp_new 2) k := by decide +kernel
theorem la_pa : ∀ w ∈ u_ws R_pa F_pa 8, w ∈ hp_Ts := fun w hw => tm_in (by
  have e : u_ws R_pa F_pa 8 = ([70, 72, 74, 76, 78, 80, 82, 84] : List Nat).filterMap (fun i => tables_1[i]?) := by decide +kernel
  rw [e] at hw
  obtain ⟨i, -, hi⟩ := List.mem_filterMap.mp hw
  exact List.mem_of_getElem? hi)
theorem nm_mo : ∀ a, a < 23 → ∀ b, b < 23 → a ≠ b → (F_mo a).2.1 ≠ (F_mo b).2.1 := by decide +kernel
theorem ty_mo : ∀ k, k < 23 → parseFieldDescriptor (F_mo k).2.2.1 = some (t_mo k) := by decide +kernel
theorem df_mo : ∀ k, k < 23 → defaultValue (t_mo k) = vp_V (hp_new 3) k := by decide +kernel
theorem la_mo : ∀ w ∈ u_ws R_mo F_mo 23, w ∈ hp_Ts := fun w hw => tm_in (by
  have e : u_ws R_mo F_mo 23 = ([618, 620, 622, 624, 626, 628, 630, 632, 634, 636, 638, 640, 642, 644, 646, 648, 650, 652, 654, 656, 658, 660, 662] : List Nat).filterMap (fun i => tables_1[i]?) := by decide +kernel
  rw [e] at hw
  obtain ⟨i, -, hi⟩ := List.mem_filterMap.mp hw
  exact List.mem_of_getElem? hi)
end
section
/-! HEAPS BY PLACE. A pure heap is a list of cells; a reference is a place in it. σ says at which address each place lies. -/
abbrev hp_X : Type := (Nat → Int32) ⊕ (Nat → Int64) ⊕ (Nat → UInt32) ⊕ (Nat → UInt64) ⊕ (Nat → Option Nat)
abbrev hp_C : Type := (FieldType × Nat × hp_X) ⊕ (Nat × List Value)
abbrev hp_H : Type := List hp_C
/-- how a method ends: it returns, or throws an exception of the class with this number -/
abbrev hp_R : Type := Option Value ⊕ Nat
abbrev hp_L : Type := List (Nat × Value)
def hp_cv (σ : List Nat) (v : Value) : Value := match v with
  | .ref k => .ref (σ.getD k 0)
  | .int x => .int x
  | .long x => .long x
  | .float x => .float x
  | .double x => .double x
  | .null => .null
  | .retAddr x => .retAddr x
def hp_ok (σ : List Nat) (v : Value) : Prop := match v with
  | .ref k => k < σ.length
  | _ => True
def hp_le (σ τ : List Nat) : Prop := σ.length ≤ τ.length ∧ ∀ k, k < σ.length → τ.getD k 0 = σ.getD k 0
theorem hp_le_rf {σ : List Nat} : hp_le σ σ := ⟨Nat.le_refl _, fun _ _ => rfl⟩
theorem hp_le_tr {σ τ υ : List Nat} (h1 : hp_le σ τ) (h2 : hp_le τ υ) : hp_le σ υ :=
  ⟨Nat.le_trans h1.1 h2.1, fun k hk => (h2.2 k (Nat.lt_of_lt_of_le hk h1.1)).trans (h1.2 k hk)⟩
theorem hp_le_push {σ : List Nat} (q : Nat) : hp_le σ (σ ++ [q]) :=
  ⟨by simp, fun k hk => by rw [List.getD_eq_getElem?_getD, List.getD_eq_getElem?_getD, List.getElem?_append_left hk]⟩
theorem hp_cv_mono {σ τ : List Nat} (h : hp_le σ τ) {v : Value} (hv : hp_ok σ v) : hp_cv τ v = hp_cv σ v := by
  cases v <;> try rfl
  exact congrArg Value.ref (h.2 _ hv)
theorem hp_ok_mono {σ τ : List Nat} (h : hp_le σ τ) {v : Value} (hv : hp_ok σ v) : hp_ok τ v := by
  cases v <;> try trivial
  exact Nat.lt_of_lt_of_le hv h.1
theorem hp_cv_cat (σ : List Nat) (v : Value) : (hp_cv σ v).category = v.category := by cases v <;> rfl
/-- an element of an array, as a value -/
def hp_el (x : hp_X) (j : Nat) : Value := match x with
  | .inl f => .int (f j)
  | .inr (.inl f) => .long (f j)
  | .inr (.inr (.inl f)) => .float (f j)
  | .inr (.inr (.inr (.inl f))) => .double (f j)
  | .inr (.inr (.inr (.inr f))) => va_rf (f j)
/-- the mark of an array that is only read (the script): its type is int -/
def hp_ty (t : FieldType) : FieldType := match t with
  | .float => .int
  | t => t
def hp_wr (c : hp_C) : Bool := match c with
  | .inl (.float, _) => false
  | _ => true
def hp_at (D : va_G) (U : State) (σ : List Nat) (c : hp_C) (a : Nat) (H : Heap) : Prop := match c with
  | .inl (ty, n, x) => ∃ cell : Cell, H[a]? = some cell ∧ U.isArrayOf cell (hp_ty ty) ∧ cell.vm ≠ .unknown ∧ cell.slots.size = n ∧ ∀ j, j < n → cell.slots[j]? = some (hp_cv σ (hp_el x j)) ∧ hp_ok σ (hp_el x j)
  | .inr (ci, fs) => ∃ (r : vw_C) (cell : Cell), classes[ci]? = some r ∧ H[a]? = some cell ∧ cell.cls = D.1 ci ∧ cell.vm = .none ∧ ∀ k, k < r.2.2 → cell.slots[D.2 ci k]? = some (hp_cv σ (vp_V fs k)) ∧ hp_ok σ (vp_V fs k)
def hp_rep (D : va_G) (z : Nat) (U : State) (σ : List Nat) (h : hp_H) (H : Heap) : Prop :=
  σ.length = h.length ∧ (∀ (k : Nat) (c : hp_C), h[k]? = some c → hp_at D U σ c (σ.getD k 0) H) ∧ (∀ i j : Nat, i < σ.length → j < σ.length → σ.getD i 0 = σ.getD j 0 → i = j) ∧
    (∀ (k : Nat) (c : hp_C), h[k]? = some c → hp_wr c = true → z ≤ σ.getD k 0) ∧ ∀ (a : Nat) (cell : Cell), z ≤ a → H[a]? = some cell → cell.vm.isStatics = false
def hp_fr (z : Nat) (H0 H : Heap) : Prop := H0.size ≤ H.size ∧ ∀ q : Nat, q < z → H[q]? = H0[q]?
theorem hp_fr_rf {z : Nat} {H : Heap} : hp_fr z H H := ⟨Nat.le_refl _, fun _ _ => rfl⟩
theorem hp_fr_tr {z : Nat} {H0 H1 H2 : Heap} (h1 : hp_fr z H0 H1) (h2 : hp_fr z H1 H2) : hp_fr z H0 H2 :=
  ⟨Nat.le_trans h1.1 h2.1, fun q hq => (h2.2 q hq).trans (h1.2 q hq)⟩
theorem hp_arr_moved {u U : State} (hvm : u.vm.Alike U.vm) {cell : Cell} {ty : FieldType} (h : u.isArrayOf cell ty) : U.isArrayOf cell ty := by
  obtain ⟨h1, k, h2, comp, h3⟩ := h
  obtain ⟨k', hk', he⟩ := hvm.2.2 _ _ h2
  exact ⟨h1, k', hk', comp, by rw [he]; exact h3⟩
theorem hp_at_moved {D : va_G} {u U : State} (hvm : u.vm.Alike U.vm) {σ : List Nat} {c : hp_C} {a : Nat} {H : Heap} (h : hp_at D u σ c a H) : hp_at D U σ c a H := by
  match c, h with
  | .inl (ty, n, x), h =>
    obtain ⟨cell, h1, h2, h3⟩ := h
    exact ⟨cell, h1, hp_arr_moved hvm h2, h3⟩
  | .inr (ci, fs), h => exact h
theorem hp_rep_moved {D : va_G} {z : Nat} {u U : State} (hvm : u.vm.Alike U.vm) {σ : List Nat} {h : hp_H} {H : Heap} (r : hp_rep D z u σ h H) : hp_rep D z U σ h H :=
  ⟨r.1, fun k c hk => hp_at_moved hvm (r.2.1 k c hk), r.2.2⟩
theorem hp_at_lt {D : va_G} {U : State} {σ : List Nat} {c : hp_C} {a : Nat} {H : Heap} (h : hp_at D U σ c a H) : a < H.size := by
  match c, h with
  | .inl (ty, n, x), h =>
    obtain ⟨cell, h1, -⟩ := h
    exact (Array.getElem?_eq_some_iff.mp h1).1
  | .inr (ci, fs), h =>
    obtain ⟨r, cell, -, h1, -⟩ := h
    exact (Array.getElem?_eq_some_iff.mp h1).1
/-- the same cell, elsewhere the same, more places known -/
theorem hp_at_to {D : va_G} {U : State} {σ τ : List Nat} (hl : hp_le σ τ) {c : hp_C} {a : Nat} {H H1 : Heap} (he : H1[a]? = H[a]?) (h : hp_at D U σ c a H) : hp_at D U τ c a H1 := by
  match c, h with
  | .inl (ty, n, x), h =>
    obtain ⟨cell, h1, h2, h3, h4, h5⟩ := h
    exact ⟨cell, he.trans h1, h2, h3, h4, fun j hj => ⟨by rw [hp_cv_mono hl (h5 j hj).2]; exact (h5 j hj).1, hp_ok_mono hl (h5 j hj).2⟩⟩
  | .inr (ci, fs), h =>
    obtain ⟨r, cell, h0, h1, h2, h3, h4⟩ := h
    exact ⟨r, cell, h0, he.trans h1, h2, h3, fun j hj => ⟨by rw [hp_cv_mono hl (h4 j hj).2]; exact (h4 j hj).1, hp_ok_mono hl (h4 j hj).2⟩⟩
theorem hp_rep_lt {D : va_G} {z : Nat} {U : State} {σ : List Nat} {h : hp_H} {H : Heap} (r : hp_rep D z U σ h H) {k : Nat} (hk : k < σ.length) : σ.getD k 0 < H.size := by
  have hk' : k < h.length := by rw [← r.1]; exact hk
  exact hp_at_lt (r.2.1 k _ (List.getElem?_eq_getElem hk'))
/-- a cell of the heap is written -/
theorem hp_rep_put {D : va_G} {z : Nat} {U : State} {σ : List Nat} {h : hp_H} {H H1 : Heap} (r : hp_rep D z U σ h H) {a : Nat} {c c' : hp_C} (ha : h[a]? = some c) (hw : hp_wr c = true)
    (hn : hp_at D U σ c' (σ.getD a 0) H1) (ho : ∀ q, q ≠ σ.getD a 0 → H1[q]? = H[q]?) (hs : ∀ cell, H1[σ.getD a 0]? = some cell → cell.vm.isStatics = false) : hp_rep D z U σ (h.set a c') H1 := by
  obtain ⟨r1, r2, r3, r4, r5⟩ := r
  have hal : a < h.length := (List.getElem?_eq_some_iff.mp ha).1
  refine ⟨by simpa using r1, fun k c2 hk => ?_, r3, fun k c2 hk hw2 => ?_, fun q cell hq hc => ?_⟩
  · by_cases e : k = a
    · subst e
      rw [List.getElem?_set_self hal] at hk
      cases hk
      exact hn
    · rw [List.getElem?_set_ne (Ne.symm e)] at hk
      have hkl : k < h.length := (List.getElem?_eq_some_iff.mp hk).1
      exact hp_at_to hp_le_rf (ho _ (fun q => e (r3 k a (by omega) (by omega) q))) (r2 k c2 hk)
  · by_cases e : k = a
    · subst e
      exact r4 k c ha hw
    · rw [List.getElem?_set_ne (Ne.symm e)] at hk
      exact r4 k c2 hk hw2
  · by_cases e : q = σ.getD a 0
    · subst e
      exact hs cell hc
    · rw [ho q e] at hc
      exact r5 q cell hq hc
/-- a cell is added -/
theorem hp_rep_push {D : va_G} {z : Nat} {U : State} {σ : List Nat} {h : hp_H} {H H1 : Heap} (r : hp_rep D z U σ h H) {c : hp_C} (hz : z ≤ H.size)
    (hn : hp_at D U (σ ++ [H.size]) c H.size H1) (ho : ∀ q, q < H.size → H1[q]? = H[q]?) (hsz : H1.size = H.size + 1) (hs : ∀ cell, H1[H.size]? = some cell → cell.vm.isStatics = false) : hp_rep D z U (σ ++ [H.size]) (h ++ [c]) H1 := by
  have hlt := fun k hk => hp_rep_lt r (k := k) hk
  obtain ⟨r1, r2, r3, r4, r5⟩ := r
  have hg : ∀ k, k < σ.length → (σ ++ [H.size]).getD k 0 = σ.getD k 0 := fun k hk => (hp_le_push H.size).2 k hk
  have hgl : (σ ++ [H.size]).getD h.length 0 = H.size := by rw [← r1]; simp
  refine ⟨by simp [r1], fun k c2 hk => ?_, fun i j hi hj e => ?_, fun k c2 hk hw2 => ?_, fun q cell hq hc => ?_⟩
  · rcases Nat.lt_or_ge k h.length with hk' | hk'
    · rw [List.getElem?_append_left hk'] at hk
      rw [hg k (by omega)]
      exact hp_at_to (hp_le_push _) (ho _ (hlt k (by omega))) (r2 k c2 hk)
    · rw [List.getElem?_append_right hk'] at hk
      have hkl := (List.getElem?_eq_some_iff.mp hk).1
      have e : k = h.length := by simp at hkl; omega
      subst e
      simp at hk
      rw [hgl, ← hk]
      exact hn
  · simp only [List.length_append, List.length_singleton] at hi hj
    rcases Nat.lt_or_ge i σ.length with hi' | hi' <;> rcases Nat.lt_or_ge j σ.length with hj' | hj'
    · rw [hg i hi', hg j hj'] at e
      exact r3 i j hi' hj' e
    · have ej : j = h.length := by omega
      subst ej
      rw [hg i hi', hgl] at e
      have := hlt i hi'
      omega
    · have ei : i = h.length := by omega
      subst ei
      rw [hg j hj', hgl] at e
      have := hlt j hj'
      omega
    · omega
  · rcases Nat.lt_or_ge k h.length with hk' | hk'
    · rw [List.getElem?_append_left hk'] at hk
      rw [hg k (by omega)]
      exact r4 k c2 hk hw2
    · have hkl := (List.getElem?_eq_some_iff.mp hk).1
      have e : k = h.length := by simp at hkl; omega
      subst e
      rw [hgl]
      exact hz
  · rcases Nat.lt_or_ge q H.size with hq' | hq'
    · rw [ho q hq'] at hc
      exact r5 q cell hq hc
    · have hql := (Array.getElem?_eq_some_iff.mp hc).1
      have e : q = H.size := by omega
      subst e
      exact hs cell hc
/-! locals: which are known -/
def hp_lv (σ : List Nat) (nL : Nat) (lv : hp_L) (ls : Array Slot) : Prop := ls.size = nL ∧ lv_wf ls ∧ ∀ q ∈ lv, hp_ok σ q.2 ∧ ls[q.1]? = some (.val (hp_cv σ q.2))
def hp_get (lv : hp_L) (i : Nat) : Option Value := match lv with
  | [] => none
  | q :: l => cond (Nat.beq q.1 i) (some q.2) (hp_get l i)
theorem hp_get_mem : ∀ (lv : hp_L) (i : Nat) (v : Value), hp_get lv i = some v → (i, v) ∈ lv
  | [], _, _, h => by cases h
  | q :: l, i, v, h => by
    unfold hp_get at h
    cases hb : Nat.beq q.1 i with
    | true =>
      rw [hb] at h
      have e : q.1 = i := Nat.eq_of_beq_eq_true hb
      have e2 : q.2 = v := Option.some.inj h
      subst e; subst e2
      exact List.mem_cons_self
    | false =>
      rw [hb] at h
      exact List.mem_cons_of_mem _ (hp_get_mem l i v h)
def hp_ins (i : Nat) (v : Value) (l : hp_L) : hp_L := match l with
  | [] => [(i, v)]
  | q :: r => cond (Nat.ble i q.1) ((i, v) :: q :: r) (q :: hp_ins i v r)
theorem hp_ins_mem (i : Nat) (v : Value) : ∀ (l : hp_L) (q : Nat × Value), q ∈ hp_ins i v l → q = (i, v) ∨ q ∈ l
  | [], q, h => Or.inl (by simpa [hp_ins] using h)
  | p :: r, q, h => by
    unfold hp_ins at h
    cases hb : Nat.ble i p.1 with
    | true =>
      rw [hb] at h
      rcases List.mem_cons.mp h with h | h
      · exact Or.inl h
      · exact Or.inr h
    | false =>
      rw [hb] at h
      rcases List.mem_cons.mp h with h | h
      · exact Or.inr (by rw [h]; exact List.mem_cons_self)
      · rcases hp_ins_mem i v r q h with h | h
        · exact Or.inl h
        · exact Or.inr (List.mem_cons_of_mem _ h)
/-- which listed locals a store at i leaves: b: the stored value has two slots -/
def hp_cut (i : Nat) (b : Bool) (l : hp_L) : hp_L := match l with
  | [] => []
  | q :: r => cond (Nat.beq q.1 i || (Nat.beq (q.1 + 1) i && Nat.beq q.2.category 2) || (b && Nat.beq q.1 (i + 1))) (hp_cut i b r) (q :: hp_cut i b r)
theorem hp_cut_mem (i : Nat) (b : Bool) : ∀ (l : hp_L) (q : Nat × Value), q ∈ hp_cut i b l → q ∈ l ∧ ¬ q.1 = i ∧ ¬ (q.1 + 1 = i ∧ q.2.category = 2) ∧ ¬ (b = true ∧ q.1 = i + 1)
  | [], q, h => by cases h
  | p :: r, q, h => by
    unfold hp_cut at h
    cases hb : (Nat.beq p.1 i || (Nat.beq (p.1 + 1) i && Nat.beq p.2.category 2) || (b && Nat.beq p.1 (i + 1))) with
    | true =>
      rw [hb] at h
      obtain ⟨h1, h2⟩ := hp_cut_mem i b r q h
      exact ⟨List.mem_cons_of_mem _ h1, h2⟩
    | false =>
      rw [hb] at h
      rcases List.mem_cons.mp h with h | h
      · subst h
        simp only [Bool.or_eq_false_iff, Bool.and_eq_false_iff] at hb
        obtain ⟨⟨h1, h2⟩, h3⟩ := hb
        refine ⟨List.mem_cons_self, fun e => ?_, fun e => ?_, fun e => ?_⟩
        · rw [e] at h1
          simp at h1
        · rw [e.1, e.2] at h2
          simp at h2
        · rw [e.1, e.2] at h3
          simp at h3
      · obtain ⟨h1, h2⟩ := hp_cut_mem i b r q h
        exact ⟨List.mem_cons_of_mem _ h1, h2⟩
def hp_set (lv : hp_L) (i : Nat) (v : Value) : hp_L := hp_ins i v (hp_cut i (Nat.beq v.category 2) lv)
/-- the listed locals of these numbers alone -/
def hp_pick (ks : List Nat) (lv : hp_L) : hp_L := match ks with
  | [] => []
  | k :: r => match hp_get lv k with
    | some v => (k, v) :: hp_pick r lv
    | none => hp_pick r lv
theorem hp_pick_mem (lv : hp_L) : ∀ (ks : List Nat) (q : Nat × Value), q ∈ hp_pick ks lv → q ∈ lv
  | [], q, h => by cases h
  | k :: r, q, h => by
    unfold hp_pick at h
    cases hg : hp_get lv k with
    | some v =>
      rw [hg] at h
      rcases List.mem_cons.mp h with h | h
      · rw [h]; exact hp_get_mem lv k v hg
      · exact hp_pick_mem lv r q h
    | none =>
      rw [hg] at h
      exact hp_pick_mem lv r q h
theorem hp_lv_real {σ : List Nat} {nL : Nat} {lv : hp_L} {ls : Array Slot} (h : hp_lv σ nL lv ls) : lv_has ls nL (lv.map fun q => (q.1, hp_cv σ q.2)) :=
  ⟨h.1, h.2.1, fun q hq => by
    obtain ⟨p, hp, rfl⟩ := List.mem_map.mp hq
    exact (h.2.2 p hp).2⟩
theorem hp_lv_get {σ : List Nat} {nL : Nat} {lv : hp_L} {ls : Array Slot} (h : hp_lv σ nL lv ls) {i : Nat} {v : Value} (hg : hp_get lv i = some v) : hp_ok σ v ∧ ls[i]? = some (.val (hp_cv σ v)) :=
  h.2.2 (i, v) (hp_get_mem lv i v hg)
theorem hp_lv_mono {σ τ : List Nat} (hl : hp_le σ τ) {nL : Nat} {lv : hp_L} {ls : Array Slot} (h : hp_lv σ nL lv ls) : hp_lv τ nL lv ls :=
  ⟨h.1, h.2.1, fun q hq => ⟨hp_ok_mono hl (h.2.2 q hq).1, by rw [hp_cv_mono hl (h.2.2 q hq).1]; exact (h.2.2 q hq).2⟩⟩
theorem hp_lv_sub {σ : List Nat} {nL : Nat} {lv lv' : hp_L} {ls : Array Slot} (h : hp_lv σ nL lv ls) (hs : ∀ q ∈ lv', q ∈ lv) : hp_lv σ nL lv' ls := ⟨h.1, h.2.1, fun q hq => h.2.2 q (hs q hq)⟩
theorem hp_lv_set {σ : List Nat} {nL : Nat} {lv : hp_L} {ls ls' : Array Slot} {i : Nat} {v : Value} (h : hp_lv σ nL lv ls) (hv : hp_ok σ v)
    (h' : lv_has ls' nL ((i, hp_cv σ v) :: (lv.map fun q => (q.1, hp_cv σ q.2)).filter (fun q => !(q.1 == i) && ((v.category == 1 || !(q.1 == i + 1)) && !(q.1 + 1 == i && q.2.category == 2))))) : hp_lv σ nL (hp_set lv i v) ls' := by
  refine ⟨h'.1, h'.2.1, fun q hq => ?_⟩
  rcases hp_ins_mem _ _ _ _ hq with e | hq
  · subst e
    exact ⟨hv, h'.2.2 _ List.mem_cons_self⟩
  · obtain ⟨h1, h2, h3, h4⟩ := hp_cut_mem _ _ _ _ hq
    refine ⟨(h.2.2 q h1).1, h'.2.2 (q.1, hp_cv σ q.2) (List.mem_cons_of_mem _ (List.mem_filter.mpr ⟨List.mem_map.mpr ⟨q, h1, rfl⟩, ?_⟩))⟩
    simp only [hp_cv_cat, Bool.and_eq_true, Bool.or_eq_true, Bool.not_eq_true', beq_iff_eq, beq_eq_false_iff_ne, Bool.and_eq_false_iff, ne_eq]
    refine ⟨h2, ?_, ?_⟩
    · rcases lv_cat v with hc | hc
      · exact Or.inl hc
      · exact Or.inr fun e => h4 ⟨by rw [hc]; rfl, e⟩
    · by_cases e : q.1 + 1 = i
      · exact Or.inr fun e2 => h3 ⟨e, e2⟩
      · exact Or.inl e
end
section
/-! THE JUDGEMENT. G: all that stays the same while one method's body runs. -/
abbrev hp_G : Type := Program × Launch × Env × Room × State × MethodId × Array Value × List Frame × Method × Code × va_G × Nat × List Nat × Nat × Bool × (hp_R → hp_H → Prop)
abbrev g_p (G : hp_G) : Program := G.1
abbrev g_l (G : hp_G) : Launch := G.2.1
abbrev g_e (G : hp_G) : Env := G.2.2.1
abbrev g_R (G : hp_G) : Room := G.2.2.2.1
abbrev g_s (G : hp_G) : State := G.2.2.2.2.1
abbrev g_m (G : hp_G) : MethodId := G.2.2.2.2.2.1
abbrev g_a (G : hp_G) : Array Value := G.2.2.2.2.2.2.1
abbrev g_b (G : hp_G) : List Frame := G.2.2.2.2.2.2.2.1
abbrev g_me (G : hp_G) : Method := G.2.2.2.2.2.2.2.2.1
abbrev g_c (G : hp_G) : Code := G.2.2.2.2.2.2.2.2.2.1
abbrev g_D (G : hp_G) : va_G := G.2.2.2.2.2.2.2.2.2.2.1
abbrev g_z (G : hp_G) : Nat := G.2.2.2.2.2.2.2.2.2.2.2.1
abbrev g_σ (G : hp_G) : List Nat := G.2.2.2.2.2.2.2.2.2.2.2.2.1
abbrev g_n (G : hp_G) : Nat := G.2.2.2.2.2.2.2.2.2.2.2.2.2.1
abbrev g_w (G : hp_G) : Bool := G.2.2.2.2.2.2.2.2.2.2.2.2.2.2.1
abbrev g_Q (G : hp_G) : hp_R → hp_H → Prop := G.2.2.2.2.2.2.2.2.2.2.2.2.2.2.2
/-- how the outcome of the machine shows the pure one -/
def hp_out (σ : List Nat) (r : hp_R) (o : Outcome) (t : State) : Prop := match r with
  | .inl none => o = .returned none
  | .inl (some v) => hp_ok σ v ∧ o = .returned (some (hp_cv σ v))
  | .inr ci => ∃ (a : Addr) (cell : Cell), o = .threw a ∧ t.heap[a]? = some cell ∧ cell.vm = .none ∧ t.vm.findClass (hp_exn ci) = some cell.cls
/-- the end of a method, in the state t: seen from its first state s -/
def hp_E (D : va_G) (z : Nat) (σ : List Nat) (w : Bool) (Q : hp_R → hp_H → Prop) (dk dn : Nat) (s : State) (o : Outcome) (t : State) : Prop :=
  ∃ (r : hp_R) (h' : hp_H) (σ' : List Nat), hp_le σ σ' ∧ hp_out σ' r o t ∧ hp_rep D z t σ' h' t.heap ∧ hp_fr z s.heap t.heap ∧ Q r h' ∧ s.WarmedH t.vm ∧
    ∃ L : List Loc, s.sameButNew ({ t with vm := s.vm } : State) L dk dn ∧ (∀ q ∈ L, z ≤ q.base) ∧ (w = true → L = [])
def hp_Z (G : hp_G) : State → Prop := fun t => ∃ o : Outcome, t.status = .running ∧ Ended t (g_b G) o ∧ hp_E (g_D G) (g_z G) (g_σ G) (g_w G) (g_Q G) (g_R G).cells (g_R G).slots (g_s G) o t
/-- from here the method comes to its end -/
def hp_W (G : hp_G) (pc : Nat) (lv : hp_L) (st : List Value) (h : hp_H) (w : Bool) (k n : Nat) : Prop :=
  ∀ (σ : List Nat) (H : Heap) (locs : List Loc) (ls : Array Slot), hp_rep (g_D G) (g_z G) (g_s G) σ h H → hp_le (g_σ G) σ → hp_fr (g_z G) (g_s G).heap H → (∀ q ∈ locs, g_z G ≤ q.base) → (w = true → locs = []) →
    hp_lv σ (g_n G) lv ls → (∀ v ∈ st, hp_ok σ v) → k ≤ (g_R G).cells → n ≤ (g_R G).slots →
    W (g_p G) (g_l G) (g_e G) (g_R G) (g_s G) (g_m G) (g_a G) (g_b G) (g_me G) (g_c G) H locs k n (hp_Z G) (F0 (g_m G) pc ls (st.map (hp_cv σ)))
abbrev hp_K : Type := Nat → hp_L → List Value → hp_H → Bool → Nat → Nat → Prop
/-- fewer locals are known -/
theorem hp_W_pick {G : hp_G} {pc : Nat} {lv : hp_L} {st : List Value} {h : hp_H} {w : Bool} {k n : Nat} (ks : List Nat) (hW : hp_W G pc (hp_pick ks lv) st h w k n) : hp_W G pc lv st h w k n :=
  fun σ H locs ls h1 h2 h3 h4 h5 h6 h7 h8 h9 => hW σ H locs ls h1 h2 h3 h4 h5 (hp_lv_sub h6 (hp_pick_mem lv ks)) h7 h8 h9
theorem hp_W_dirty {G : hp_G} {pc : Nat} {lv : hp_L} {st : List Value} {h : hp_H} {w : Bool} {k n : Nat} (hW : hp_W G pc lv st h false k n) : hp_W G pc lv st h w k n :=
  fun σ H locs ls h1 h2 h3 h4 h5 h6 h7 h8 h9 => hW σ H locs ls h1 h2 h3 h4 (fun q => by cases q) h6 h7 h8 h9
theorem hp_W_widen {G : hp_G} {pc : Nat} {lv : hp_L} {st : List Value} {h : hp_H} {w : Bool} {k n : Nat} (k' n' : Nat) (hk : k ≤ k') (hn : n ≤ n') (hk2 : k' ≤ (g_R G).cells) (hn2 : n' ≤ (g_R G).slots) (hW : hp_W G pc lv st h w k' n') : hp_W G pc lv st h w k n :=
  fun σ H locs ls h1 h2 h3 h4 h5 h6 h7 _ _ => W.widen hk hn (hW σ H locs ls h1 h2 h3 h4 h5 h6 h7 hk2 hn2)
/-- the machine's part of what stays the same: code and tables -/
def hp_B (cc : ByteArray) (G : hp_G) : Prop := (g_p G).tables.exec = Jvm.exec ∧ (g_c G).code = cc ∧ (g_c G).maxLocals = g_n G
/-! patterns of the operand stack -/
def st_i (st : List Value) (f : Int32 → List Value → Prop) : Prop := match st with
  | .int x :: r => f x r
  | _ => False
def st_l (st : List Value) (f : Int64 → List Value → Prop) : Prop := match st with
  | .long x :: r => f x r
  | _ => False
def st_a (st : List Value) (f : Nat → List Value → Prop) : Prop := match st with
  | .ref x :: r => f x r
  | _ => False
def st_v (st : List Value) (f : Value → List Value → Prop) : Prop := match st with
  | v :: r => f v r
  | _ => False
theorem st_i_of {st : List Value} {f : Int32 → List Value → Prop} (h : st_i st f) : ∃ x r, st = .int x :: r ∧ f x r := by
  match st, h with
  | .int x :: r, h => exact ⟨x, r, rfl, h⟩
theorem st_l_of {st : List Value} {f : Int64 → List Value → Prop} (h : st_l st f) : ∃ x r, st = .long x :: r ∧ f x r := by
  match st, h with
  | .long x :: r, h => exact ⟨x, r, rfl, h⟩
theorem st_a_of {st : List Value} {f : Nat → List Value → Prop} (h : st_a st f) : ∃ x r, st = .ref x :: r ∧ f x r := by
  match st, h with
  | .ref x :: r, h => exact ⟨x, r, rfl, h⟩
theorem st_v_of {st : List Value} {f : Value → List Value → Prop} (h : st_v st f) : ∃ x r, st = x :: r ∧ f x r := by
  match st, h with
  | x :: r, h => exact ⟨x, r, rfl, h⟩
/-- a small constant, as Lean writes it -/
def hp_c (i : Int) : Int32 := match i with
  | .ofNat n => Int32.ofNat n
  | .negSucc n => -(Int32.ofNat (n + 1))
def hp_off (pc : Nat) (off : Int) : Nat := ((pc : Int) + off).toNat
/-- a jump: the place that it goes to -/
def hp_go (pc : Nat) (off : Int) (f : Nat → Prop) : Prop := cond (decide (0 ≤ (pc : Int) + off)) (f (hp_off pc off)) False
theorem hp_go_of {pc : Nat} {off : Int} {f : Nat → Prop} (h : hp_go pc off f) : (pc : Int) + off = ((hp_off pc off : Nat) : Int) ∧ f (hp_off pc off) := by
  unfold hp_go at h
  cases hd : decide (0 ≤ (pc : Int) + off) with
  | true =>
    rw [hd] at h
    exact ⟨(Int.toNat_of_nonneg (of_decide_eq_true hd)).symm, h⟩
  | false =>
    rw [hd] at h
    exact h.elim
def hp_if {a b : Int32} (_ : a = b → Prop) : Prop := True
section HpI
variable {G : hp_G} {cc : ByteArray} {pc : Nat} {lv : hp_L} {st : List Value} {h : hp_H} {w : Bool} {k n : Nat} {K : hp_K}

theorem hs_iconst (C : hp_B cc G) (hK : ∀ pc lv st h w k n, K pc lv st h w k n → hp_W G pc lv st h w k n) {i : Int} (hd : decode cc pc = .ok (.iconst i, 1)) (hi : cond (decide (Int32.ofInt i = hp_c i)) (K (pc + 1) lv (.int (hp_c i) :: st) h w k n) False) : hp_W G pc lv st h w k n := by
  cases he : decide (Int32.ofInt i = hp_c i) with
  | false => rw [he] at hi; exact hi.elim
  | true =>
    rw [he] at hi
    intro σ H locs ls a1 a2 a3 a4 a5 a6 a7 a8 a9
    exact lv_iconst C.1 C.2.1 hd (of_decide_eq_true he) (hK _ _ _ _ _ _ _ hi σ H locs ls a1 a2 a3 a4 a5 a6 (fun v hv => by rcases List.mem_cons.mp hv with e | e; (rw [e]; trivial); exact a7 v e) a8 a9)
theorem hs_bipush (C : hp_B cc G) (hK : ∀ pc lv st h w k n, K pc lv st h w k n → hp_W G pc lv st h w k n) {i : Int} (hd : decode cc pc = .ok (.bipush i, 2)) (hi : cond (decide ((Int8.ofInt i).toInt32 = hp_c i)) (K (pc + 2) lv (.int (hp_c i) :: st) h w k n) False) : hp_W G pc lv st h w k n := by
  cases he : decide ((Int8.ofInt i).toInt32 = hp_c i) with
  | false => rw [he] at hi; exact hi.elim
  | true =>
    rw [he] at hi
    intro σ H locs ls a1 a2 a3 a4 a5 a6 a7 a8 a9
    exact lv_bipush C.1 C.2.1 hd (of_decide_eq_true he) (hK _ _ _ _ _ _ _ hi σ H locs ls a1 a2 a3 a4 a5 a6 (fun v hv => by rcases List.mem_cons.mp hv with e | e; (rw [e]; trivial); exact a7 v e) a8 a9)
theorem hs_sipush (C : hp_B cc G) (hK : ∀ pc lv st h w k n, K pc lv st h w k n → hp_W G pc lv st h w k n) {i : Int} (hd : decode cc pc = .ok (.sipush i, 3)) (hi : cond (decide ((Int16.ofInt i).toInt32 = hp_c i)) (K (pc + 3) lv (.int (hp_c i) :: st) h w k n) False) : hp_W G pc lv st h w k n := by
  cases he : decide ((Int16.ofInt i).toInt32 = hp_c i) with
  | false => rw [he] at hi; exact hi.elim
  | true =>
    rw [he] at hi
    intro σ H locs ls a1 a2 a3 a4 a5 a6 a7 a8 a9
    exact lv_sipush C.1 C.2.1 hd (of_decide_eq_true he) (hK _ _ _ _ _ _ _ hi σ H locs ls a1 a2 a3 a4 a5 a6 (fun v hv => by rcases List.mem_cons.mp hv with e | e; (rw [e]; trivial); exact a7 v e) a8 a9)
theorem hs_lconst (C : hp_B cc G) (hK : ∀ pc lv st h w k n, K pc lv st h w k n → hp_W G pc lv st h w k n) {i : Fin 2} (hd : decode cc pc = .ok (.lconst i, 1)) (hi : K (pc + 1) lv (.long (Int64.ofNat i.val) :: st) h w k n) : hp_W G pc lv st h w k n := by
  intro σ H locs ls a1 a2 a3 a4 a5 a6 a7 a8 a9
  exact lv_lconst C.1 C.2.1 hd rfl (hK _ _ _ _ _ _ _ hi σ H locs ls a1 a2 a3 a4 a5 a6 (fun v hv => by rcases List.mem_cons.mp hv with e | e; (rw [e]; trivial); exact a7 v e) a8 a9)
theorem hs_aconst_null (C : hp_B cc G) (hK : ∀ pc lv st h w k n, K pc lv st h w k n → hp_W G pc lv st h w k n)  (hd : decode cc pc = .ok (.aconst_null, 1)) (hi : K (pc + 1) lv (.null :: st) h w k n) : hp_W G pc lv st h w k n := by
  intro σ H locs ls a1 a2 a3 a4 a5 a6 a7 a8 a9
  exact lv_null C.1 C.2.1 hd (hK _ _ _ _ _ _ _ hi σ H locs ls a1 a2 a3 a4 a5 a6 (fun v hv => by rcases List.mem_cons.mp hv with e | e; (rw [e]; trivial); exact a7 v e) a8 a9)
def hl_iload (lv : hp_L) (i : Nat) (f : Value → Prop) : Prop := match hp_get lv i with
  | some (.int x) => f (.int x)
  | _ => False
theorem hs_iload (C : hp_B cc G) (hK : ∀ pc lv st h w k n, K pc lv st h w k n → hp_W G pc lv st h w k n) {i : Nat} (hd : decode cc pc = .ok (.iload i, 2)) (hi : hl_iload lv i fun v => K (pc + 2) lv (v :: st) h w k n) : hp_W G pc lv st h w k n := by
  unfold hl_iload at hi
  split at hi
  next x hg =>
    intro σ H locs ls a1 a2 a3 a4 a5 a6 a7 a8 a9
    exact lv_iload C.1 C.2.1 hd (hp_lv_get a6 hg).2 (hK _ _ _ _ _ _ _ hi σ H locs ls a1 a2 a3 a4 a5 a6 (fun v hv => by rcases List.mem_cons.mp hv with e | e; (rw [e]; exact (hp_lv_get a6 hg).1); exact a7 v e) a8 a9)
  next => exact hi.elim
def hl_iload_n (lv : hp_L) (i : Nat) (f : Value → Prop) : Prop := match hp_get lv i with
  | some (.int x) => f (.int x)
  | _ => False
theorem hs_iload_n (C : hp_B cc G) (hK : ∀ pc lv st h w k n, K pc lv st h w k n → hp_W G pc lv st h w k n) {i : Fin 4} (hd : decode cc pc = .ok (.iload_n i, 1)) (hi : hl_iload_n lv i.val fun v => K (pc + 1) lv (v :: st) h w k n) : hp_W G pc lv st h w k n := by
  unfold hl_iload_n at hi
  split at hi
  next x hg =>
    intro σ H locs ls a1 a2 a3 a4 a5 a6 a7 a8 a9
    exact lv_iload_n C.1 C.2.1 hd rfl (hp_lv_get a6 hg).2 (hK _ _ _ _ _ _ _ hi σ H locs ls a1 a2 a3 a4 a5 a6 (fun v hv => by rcases List.mem_cons.mp hv with e | e; (rw [e]; exact (hp_lv_get a6 hg).1); exact a7 v e) a8 a9)
  next => exact hi.elim
def hl_lload (lv : hp_L) (i : Nat) (f : Value → Prop) : Prop := match hp_get lv i with
  | some (.long x) => f (.long x)
  | _ => False
theorem hs_lload (C : hp_B cc G) (hK : ∀ pc lv st h w k n, K pc lv st h w k n → hp_W G pc lv st h w k n) {i : Nat} (hd : decode cc pc = .ok (.lload i, 2)) (hi : hl_lload lv i fun v => K (pc + 2) lv (v :: st) h w k n) : hp_W G pc lv st h w k n := by
  unfold hl_lload at hi
  split at hi
  next x hg =>
    intro σ H locs ls a1 a2 a3 a4 a5 a6 a7 a8 a9
    exact lv_lload C.1 C.2.1 hd (hp_lv_get a6 hg).2 (hK _ _ _ _ _ _ _ hi σ H locs ls a1 a2 a3 a4 a5 a6 (fun v hv => by rcases List.mem_cons.mp hv with e | e; (rw [e]; exact (hp_lv_get a6 hg).1); exact a7 v e) a8 a9)
  next => exact hi.elim
def hl_lload_n (lv : hp_L) (i : Nat) (f : Value → Prop) : Prop := match hp_get lv i with
  | some (.long x) => f (.long x)
  | _ => False
theorem hs_lload_n (C : hp_B cc G) (hK : ∀ pc lv st h w k n, K pc lv st h w k n → hp_W G pc lv st h w k n) {i : Fin 4} (hd : decode cc pc = .ok (.lload_n i, 1)) (hi : hl_lload_n lv i.val fun v => K (pc + 1) lv (v :: st) h w k n) : hp_W G pc lv st h w k n := by
  unfold hl_lload_n at hi
  split at hi
  next x hg =>
    intro σ H locs ls a1 a2 a3 a4 a5 a6 a7 a8 a9
    exact lv_lload_n C.1 C.2.1 hd rfl (hp_lv_get a6 hg).2 (hK _ _ _ _ _ _ _ hi σ H locs ls a1 a2 a3 a4 a5 a6 (fun v hv => by rcases List.mem_cons.mp hv with e | e; (rw [e]; exact (hp_lv_get a6 hg).1); exact a7 v e) a8 a9)
  next => exact hi.elim
def hl_aload (lv : hp_L) (i : Nat) (f : Value → Prop) : Prop := match hp_get lv i with
  | some (.ref x) => f (.ref x)
  | some .null => f .null
  | _ => False
theorem hs_aload (C : hp_B cc G) (hK : ∀ pc lv st h w k n, K pc lv st h w k n → hp_W G pc lv st h w k n) {i : Nat} (hd : decode cc pc = .ok (.aload i, 2)) (hi : hl_aload lv i fun v => K (pc + 2) lv (v :: st) h w k n) : hp_W G pc lv st h w k n := by
  unfold hl_aload at hi
  split at hi
  next x hg =>
    intro σ H locs ls a1 a2 a3 a4 a5 a6 a7 a8 a9
    exact lv_aload C.1 C.2.1 hd (hp_lv_get a6 hg).2 (hK _ _ _ _ _ _ _ hi σ H locs ls a1 a2 a3 a4 a5 a6 (fun v hv => by rcases List.mem_cons.mp hv with e | e; (rw [e]; exact (hp_lv_get a6 hg).1); exact a7 v e) a8 a9)
  next hg =>
    intro σ H locs ls a1 a2 a3 a4 a5 a6 a7 a8 a9
    exact lv_aloadN C.1 C.2.1 hd (hp_lv_get a6 hg).2 (hK _ _ _ _ _ _ _ hi σ H locs ls a1 a2 a3 a4 a5 a6 (fun v hv => by rcases List.mem_cons.mp hv with e | e; (rw [e]; exact (hp_lv_get a6 hg).1); exact a7 v e) a8 a9)
  next => exact hi.elim
def hl_aload_n (lv : hp_L) (i : Nat) (f : Value → Prop) : Prop := match hp_get lv i with
  | some (.ref x) => f (.ref x)
  | some .null => f .null
  | _ => False
theorem hs_aload_n (C : hp_B cc G) (hK : ∀ pc lv st h w k n, K pc lv st h w k n → hp_W G pc lv st h w k n) {i : Fin 4} (hd : decode cc pc = .ok (.aload_n i, 1)) (hi : hl_aload_n lv i.val fun v => K (pc + 1) lv (v :: st) h w k n) : hp_W G pc lv st h w k n := by
  unfold hl_aload_n at hi
  split at hi
  next x hg =>
    intro σ H locs ls a1 a2 a3 a4 a5 a6 a7 a8 a9
    exact lv_aload_n C.1 C.2.1 hd rfl (hp_lv_get a6 hg).2 (hK _ _ _ _ _ _ _ hi σ H locs ls a1 a2 a3 a4 a5 a6 (fun v hv => by rcases List.mem_cons.mp hv with e | e; (rw [e]; exact (hp_lv_get a6 hg).1); exact a7 v e) a8 a9)
  next hg =>
    intro σ H locs ls a1 a2 a3 a4 a5 a6 a7 a8 a9
    exact lv_aload_nN C.1 C.2.1 hd rfl (hp_lv_get a6 hg).2 (hK _ _ _ _ _ _ _ hi σ H locs ls a1 a2 a3 a4 a5 a6 (fun v hv => by rcases List.mem_cons.mp hv with e | e; (rw [e]; exact (hp_lv_get a6 hg).1); exact a7 v e) a8 a9)
  next => exact hi.elim
theorem hs_istore (C : hp_B cc G) (hK : ∀ pc lv st h w k n, K pc lv st h w k n → hp_W G pc lv st h w k n) {i : Nat} (hd : decode cc pc = .ok (.istore i, 2)) (hi : cond (Nat.blt (i) (g_n G)) (st_i st fun x r => K (pc + 2) (hp_set lv i (.int x)) r h w k n) False) : hp_W G pc lv st h w k n := by
  cases hb : Nat.blt (i) (g_n G) with
  | false => rw [hb] at hi; exact hi.elim
  | true =>
    rw [hb] at hi
    obtain ⟨x, r, rfl, hj⟩ := st_i_of hi
    intro σ H locs ls a1 a2 a3 a4 a5 a6 a7 a8 a9
    have hlt : i < g_n G := by simpa [Nat.blt_eq] using hb
    exact lv_istore (x := x) C.1 C.2.1 hd (hp_lv_real a6) hlt rfl (fun ls1 hl1 => hK _ _ _ _ _ _ _ hj σ H locs ls1 a1 a2 a3 a4 a5 (hp_lv_set (v := .int x) a6 (a7 _ List.mem_cons_self) hl1) (fun v hv => a7 v (List.mem_cons_of_mem _ hv)) a8 a9)
theorem hs_istore_n (C : hp_B cc G) (hK : ∀ pc lv st h w k n, K pc lv st h w k n → hp_W G pc lv st h w k n) {i : Fin 4} (hd : decode cc pc = .ok (.istore_n i, 1)) (hi : cond (Nat.blt (i.val) (g_n G)) (st_i st fun x r => K (pc + 1) (hp_set lv i.val (.int x)) r h w k n) False) : hp_W G pc lv st h w k n := by
  cases hb : Nat.blt (i.val) (g_n G) with
  | false => rw [hb] at hi; exact hi.elim
  | true =>
    rw [hb] at hi
    obtain ⟨x, r, rfl, hj⟩ := st_i_of hi
    intro σ H locs ls a1 a2 a3 a4 a5 a6 a7 a8 a9
    have hlt : i.val < g_n G := by simpa [Nat.blt_eq] using hb
    exact lv_istore_n (x := x) C.1 C.2.1 hd rfl (hp_lv_real a6) hlt rfl (fun ls1 hl1 => hK _ _ _ _ _ _ _ hj σ H locs ls1 a1 a2 a3 a4 a5 (hp_lv_set (v := .int x) a6 (a7 _ List.mem_cons_self) hl1) (fun v hv => a7 v (List.mem_cons_of_mem _ hv)) a8 a9)
theorem hs_lstore (C : hp_B cc G) (hK : ∀ pc lv st h w k n, K pc lv st h w k n → hp_W G pc lv st h w k n) {i : Nat} (hd : decode cc pc = .ok (.lstore i, 2)) (hi : cond (Nat.blt (i + 1) (g_n G)) (st_l st fun x r => K (pc + 2) (hp_set lv i (.long x)) r h w k n) False) : hp_W G pc lv st h w k n := by
  cases hb : Nat.blt (i + 1) (g_n G) with
  | false => rw [hb] at hi; exact hi.elim
  | true =>
    rw [hb] at hi
    obtain ⟨x, r, rfl, hj⟩ := st_l_of hi
    intro σ H locs ls a1 a2 a3 a4 a5 a6 a7 a8 a9
    have hlt : i + 1 < g_n G := by simpa [Nat.blt_eq] using hb
    exact lv_lstore (x := x) C.1 C.2.1 hd (hp_lv_real a6) hlt rfl (fun ls1 hl1 => hK _ _ _ _ _ _ _ hj σ H locs ls1 a1 a2 a3 a4 a5 (hp_lv_set (v := .long x) a6 (a7 _ List.mem_cons_self) hl1) (fun v hv => a7 v (List.mem_cons_of_mem _ hv)) a8 a9)
theorem hs_lstore_n (C : hp_B cc G) (hK : ∀ pc lv st h w k n, K pc lv st h w k n → hp_W G pc lv st h w k n) {i : Fin 4} (hd : decode cc pc = .ok (.lstore_n i, 1)) (hi : cond (Nat.blt (i.val + 1) (g_n G)) (st_l st fun x r => K (pc + 1) (hp_set lv i.val (.long x)) r h w k n) False) : hp_W G pc lv st h w k n := by
  cases hb : Nat.blt (i.val + 1) (g_n G) with
  | false => rw [hb] at hi; exact hi.elim
  | true =>
    rw [hb] at hi
    obtain ⟨x, r, rfl, hj⟩ := st_l_of hi
    intro σ H locs ls a1 a2 a3 a4 a5 a6 a7 a8 a9
    have hlt : i.val + 1 < g_n G := by simpa [Nat.blt_eq] using hb
    exact lv_lstore_n (x := x) C.1 C.2.1 hd rfl (hp_lv_real a6) hlt rfl (fun ls1 hl1 => hK _ _ _ _ _ _ _ hj σ H locs ls1 a1 a2 a3 a4 a5 (hp_lv_set (v := .long x) a6 (a7 _ List.mem_cons_self) hl1) (fun v hv => a7 v (List.mem_cons_of_mem _ hv)) a8 a9)
theorem hs_astore (C : hp_B cc G) (hK : ∀ pc lv st h w k n, K pc lv st h w k n → hp_W G pc lv st h w k n) {i : Nat} (hd : decode cc pc = .ok (.astore i, 2)) (hi : cond (Nat.blt (i) (g_n G)) (st_a st fun x r => K (pc + 2) (hp_set lv i (.ref x)) r h w k n) False) : hp_W G pc lv st h w k n := by
  cases hb : Nat.blt (i) (g_n G) with
  | false => rw [hb] at hi; exact hi.elim
  | true =>
    rw [hb] at hi
    obtain ⟨x, r, rfl, hj⟩ := st_a_of hi
    intro σ H locs ls a1 a2 a3 a4 a5 a6 a7 a8 a9
    have hlt : i < g_n G := by simpa [Nat.blt_eq] using hb
    exact lv_astore (x := σ.getD x 0) C.1 C.2.1 hd (hp_lv_real a6) hlt rfl (fun ls1 hl1 => hK _ _ _ _ _ _ _ hj σ H locs ls1 a1 a2 a3 a4 a5 (hp_lv_set (v := .ref x) a6 (a7 _ List.mem_cons_self) hl1) (fun v hv => a7 v (List.mem_cons_of_mem _ hv)) a8 a9)
theorem hs_astore_n (C : hp_B cc G) (hK : ∀ pc lv st h w k n, K pc lv st h w k n → hp_W G pc lv st h w k n) {i : Fin 4} (hd : decode cc pc = .ok (.astore_n i, 1)) (hi : cond (Nat.blt (i.val) (g_n G)) (st_a st fun x r => K (pc + 1) (hp_set lv i.val (.ref x)) r h w k n) False) : hp_W G pc lv st h w k n := by
  cases hb : Nat.blt (i.val) (g_n G) with
  | false => rw [hb] at hi; exact hi.elim
  | true =>
    rw [hb] at hi
    obtain ⟨x, r, rfl, hj⟩ := st_a_of hi
    intro σ H locs ls a1 a2 a3 a4 a5 a6 a7 a8 a9
    have hlt : i.val < g_n G := by simpa [Nat.blt_eq] using hb
    exact lv_astore_n (x := σ.getD x 0) C.1 C.2.1 hd rfl (hp_lv_real a6) hlt rfl (fun ls1 hl1 => hK _ _ _ _ _ _ _ hj σ H locs ls1 a1 a2 a3 a4 a5 (hp_lv_set (v := .ref x) a6 (a7 _ List.mem_cons_self) hl1) (fun v hv => a7 v (List.mem_cons_of_mem _ hv)) a8 a9)
theorem hs_iinc (C : hp_B cc G) (hK : ∀ pc lv st h w k n, K pc lv st h w k n → hp_W G pc lv st h w k n) {i : Nat} {c : Int} (hd : decode cc pc = .ok (.iinc i c, 3)) (hi : cond (Nat.blt i (g_n G) && decide (Int32.ofInt c = hp_c c)) (match hp_get lv i with | some (.int x) => K (pc + 3) (hp_set lv i (.int (x + hp_c c))) st h w k n | _ => False) False) : hp_W G pc lv st h w k n := by
  cases hb : (Nat.blt i (g_n G) && decide (Int32.ofInt c = hp_c c)) with
  | false => rw [hb] at hi; exact hi.elim
  | true =>
    rw [hb] at hi
    rw [Bool.and_eq_true] at hb
    have hlt : i < g_n G := by simpa [Nat.blt_eq] using hb.1
    have hc := of_decide_eq_true hb.2
    change (match hp_get lv i with | some (.int x) => K (pc + 3) (hp_set lv i (.int (x + hp_c c))) st h w k n | _ => False) at hi
    split at hi
    next x hg =>
      intro σ H locs ls a1 a2 a3 a4 a5 a6 a7 a8 a9
      obtain ⟨j, hj⟩ := List.getElem?_of_mem (List.mem_map.mpr ⟨_, hp_get_mem _ _ _ hg, rfl⟩ : (i, Value.int x) ∈ lv.map fun q => (q.1, hp_cv σ q.2))
      exact lv_iinc (v := x + hp_c c) C.1 C.2.1 hd (hp_lv_real a6) hj (by rw [hc]) hlt rfl (fun ls1 hl1 => hK _ _ _ _ _ _ _ hi σ H locs ls1 a1 a2 a3 a4 a5 (hp_lv_set (v := .int (x + hp_c c)) a6 trivial hl1) a7 a8 a9)
    next => exact hi.elim
theorem hs_iadd (C : hp_B cc G) (hK : ∀ pc lv st h w k n, K pc lv st h w k n → hp_W G pc lv st h w k n)  (hd : decode cc pc = .ok (.iadd, 1)) (hi : st_i st fun y r => st_i r fun x r => K (pc + 1) lv (.int (x + y) :: r) h w k n) : hp_W G pc lv st h w k n := by
  obtain ⟨y, r, rfl, hj⟩ := st_i_of hi
  obtain ⟨x, r, rfl, hk⟩ := st_i_of hj
  intro σ H locs ls a1 a2 a3 a4 a5 a6 a7 a8 a9
  exact lv_iadd C.1 C.2.1 hd (hK _ _ _ _ _ _ _ hk σ H locs ls a1 a2 a3 a4 a5 a6 (fun v hv => by rcases List.mem_cons.mp hv with e | e; (rw [e]; trivial); exact a7 v (List.mem_cons_of_mem _ (List.mem_cons_of_mem _ e))) a8 a9)
theorem hs_isub (C : hp_B cc G) (hK : ∀ pc lv st h w k n, K pc lv st h w k n → hp_W G pc lv st h w k n)  (hd : decode cc pc = .ok (.isub, 1)) (hi : st_i st fun y r => st_i r fun x r => K (pc + 1) lv (.int (x - y) :: r) h w k n) : hp_W G pc lv st h w k n := by
  obtain ⟨y, r, rfl, hj⟩ := st_i_of hi
  obtain ⟨x, r, rfl, hk⟩ := st_i_of hj
  intro σ H locs ls a1 a2 a3 a4 a5 a6 a7 a8 a9
  exact lv_isub C.1 C.2.1 hd (hK _ _ _ _ _ _ _ hk σ H locs ls a1 a2 a3 a4 a5 a6 (fun v hv => by rcases List.mem_cons.mp hv with e | e; (rw [e]; trivial); exact a7 v (List.mem_cons_of_mem _ (List.mem_cons_of_mem _ e))) a8 a9)
theorem hs_imul (C : hp_B cc G) (hK : ∀ pc lv st h w k n, K pc lv st h w k n → hp_W G pc lv st h w k n)  (hd : decode cc pc = .ok (.imul, 1)) (hi : st_i st fun y r => st_i r fun x r => K (pc + 1) lv (.int (x * y) :: r) h w k n) : hp_W G pc lv st h w k n := by
  obtain ⟨y, r, rfl, hj⟩ := st_i_of hi
  obtain ⟨x, r, rfl, hk⟩ := st_i_of hj
  intro σ H locs ls a1 a2 a3 a4 a5 a6 a7 a8 a9
  exact lv_imul C.1 C.2.1 hd (hK _ _ _ _ _ _ _ hk σ H locs ls a1 a2 a3 a4 a5 a6 (fun v hv => by rcases List.mem_cons.mp hv with e | e; (rw [e]; trivial); exact a7 v (List.mem_cons_of_mem _ (List.mem_cons_of_mem _ e))) a8 a9)
theorem hs_iand (C : hp_B cc G) (hK : ∀ pc lv st h w k n, K pc lv st h w k n → hp_W G pc lv st h w k n)  (hd : decode cc pc = .ok (.iand, 1)) (hi : st_i st fun y r => st_i r fun x r => K (pc + 1) lv (.int (x &&& y) :: r) h w k n) : hp_W G pc lv st h w k n := by
  obtain ⟨y, r, rfl, hj⟩ := st_i_of hi
  obtain ⟨x, r, rfl, hk⟩ := st_i_of hj
  intro σ H locs ls a1 a2 a3 a4 a5 a6 a7 a8 a9
  exact lv_iand C.1 C.2.1 hd (hK _ _ _ _ _ _ _ hk σ H locs ls a1 a2 a3 a4 a5 a6 (fun v hv => by rcases List.mem_cons.mp hv with e | e; (rw [e]; trivial); exact a7 v (List.mem_cons_of_mem _ (List.mem_cons_of_mem _ e))) a8 a9)
theorem hs_ior (C : hp_B cc G) (hK : ∀ pc lv st h w k n, K pc lv st h w k n → hp_W G pc lv st h w k n)  (hd : decode cc pc = .ok (.ior, 1)) (hi : st_i st fun y r => st_i r fun x r => K (pc + 1) lv (.int (x ||| y) :: r) h w k n) : hp_W G pc lv st h w k n := by
  obtain ⟨y, r, rfl, hj⟩ := st_i_of hi
  obtain ⟨x, r, rfl, hk⟩ := st_i_of hj
  intro σ H locs ls a1 a2 a3 a4 a5 a6 a7 a8 a9
  exact lv_ior C.1 C.2.1 hd (hK _ _ _ _ _ _ _ hk σ H locs ls a1 a2 a3 a4 a5 a6 (fun v hv => by rcases List.mem_cons.mp hv with e | e; (rw [e]; trivial); exact a7 v (List.mem_cons_of_mem _ (List.mem_cons_of_mem _ e))) a8 a9)
theorem hs_ixor (C : hp_B cc G) (hK : ∀ pc lv st h w k n, K pc lv st h w k n → hp_W G pc lv st h w k n)  (hd : decode cc pc = .ok (.ixor, 1)) (hi : st_i st fun y r => st_i r fun x r => K (pc + 1) lv (.int (x ^^^ y) :: r) h w k n) : hp_W G pc lv st h w k n := by
  obtain ⟨y, r, rfl, hj⟩ := st_i_of hi
  obtain ⟨x, r, rfl, hk⟩ := st_i_of hj
  intro σ H locs ls a1 a2 a3 a4 a5 a6 a7 a8 a9
  exact lv_ixor C.1 C.2.1 hd (hK _ _ _ _ _ _ _ hk σ H locs ls a1 a2 a3 a4 a5 a6 (fun v hv => by rcases List.mem_cons.mp hv with e | e; (rw [e]; trivial); exact a7 v (List.mem_cons_of_mem _ (List.mem_cons_of_mem _ e))) a8 a9)
theorem hs_ishl (C : hp_B cc G) (hK : ∀ pc lv st h w k n, K pc lv st h w k n → hp_W G pc lv st h w k n)  (hd : decode cc pc = .ok (.ishl, 1)) (hi : st_i st fun y r => st_i r fun x r => K (pc + 1) lv (.int (x <<< (y &&& 31)) :: r) h w k n) : hp_W G pc lv st h w k n := by
  obtain ⟨y, r, rfl, hj⟩ := st_i_of hi
  obtain ⟨x, r, rfl, hk⟩ := st_i_of hj
  intro σ H locs ls a1 a2 a3 a4 a5 a6 a7 a8 a9
  exact lv_ishl C.1 C.2.1 hd (hK _ _ _ _ _ _ _ hk σ H locs ls a1 a2 a3 a4 a5 a6 (fun v hv => by rcases List.mem_cons.mp hv with e | e; (rw [e]; trivial); exact a7 v (List.mem_cons_of_mem _ (List.mem_cons_of_mem _ e))) a8 a9)
theorem hs_ishr (C : hp_B cc G) (hK : ∀ pc lv st h w k n, K pc lv st h w k n → hp_W G pc lv st h w k n)  (hd : decode cc pc = .ok (.ishr, 1)) (hi : st_i st fun y r => st_i r fun x r => K (pc + 1) lv (.int (x >>> (y &&& 31)) :: r) h w k n) : hp_W G pc lv st h w k n := by
  obtain ⟨y, r, rfl, hj⟩ := st_i_of hi
  obtain ⟨x, r, rfl, hk⟩ := st_i_of hj
  intro σ H locs ls a1 a2 a3 a4 a5 a6 a7 a8 a9
  exact lv_ishr C.1 C.2.1 hd (hK _ _ _ _ _ _ _ hk σ H locs ls a1 a2 a3 a4 a5 a6 (fun v hv => by rcases List.mem_cons.mp hv with e | e; (rw [e]; trivial); exact a7 v (List.mem_cons_of_mem _ (List.mem_cons_of_mem _ e))) a8 a9)
theorem hs_ladd (C : hp_B cc G) (hK : ∀ pc lv st h w k n, K pc lv st h w k n → hp_W G pc lv st h w k n)  (hd : decode cc pc = .ok (.ladd, 1)) (hi : st_l st fun y r => st_l r fun x r => K (pc + 1) lv (.long (x + y) :: r) h w k n) : hp_W G pc lv st h w k n := by
  obtain ⟨y, r, rfl, hj⟩ := st_l_of hi
  obtain ⟨x, r, rfl, hk⟩ := st_l_of hj
  intro σ H locs ls a1 a2 a3 a4 a5 a6 a7 a8 a9
  exact lv_ladd C.1 C.2.1 hd (hK _ _ _ _ _ _ _ hk σ H locs ls a1 a2 a3 a4 a5 a6 (fun v hv => by rcases List.mem_cons.mp hv with e | e; (rw [e]; trivial); exact a7 v (List.mem_cons_of_mem _ (List.mem_cons_of_mem _ e))) a8 a9)
theorem hs_lsub (C : hp_B cc G) (hK : ∀ pc lv st h w k n, K pc lv st h w k n → hp_W G pc lv st h w k n)  (hd : decode cc pc = .ok (.lsub, 1)) (hi : st_l st fun y r => st_l r fun x r => K (pc + 1) lv (.long (x - y) :: r) h w k n) : hp_W G pc lv st h w k n := by
  obtain ⟨y, r, rfl, hj⟩ := st_l_of hi
  obtain ⟨x, r, rfl, hk⟩ := st_l_of hj
  intro σ H locs ls a1 a2 a3 a4 a5 a6 a7 a8 a9
  exact lv_lsub C.1 C.2.1 hd (hK _ _ _ _ _ _ _ hk σ H locs ls a1 a2 a3 a4 a5 a6 (fun v hv => by rcases List.mem_cons.mp hv with e | e; (rw [e]; trivial); exact a7 v (List.mem_cons_of_mem _ (List.mem_cons_of_mem _ e))) a8 a9)
theorem hs_lmul (C : hp_B cc G) (hK : ∀ pc lv st h w k n, K pc lv st h w k n → hp_W G pc lv st h w k n)  (hd : decode cc pc = .ok (.lmul, 1)) (hi : st_l st fun y r => st_l r fun x r => K (pc + 1) lv (.long (x * y) :: r) h w k n) : hp_W G pc lv st h w k n := by
  obtain ⟨y, r, rfl, hj⟩ := st_l_of hi
  obtain ⟨x, r, rfl, hk⟩ := st_l_of hj
  intro σ H locs ls a1 a2 a3 a4 a5 a6 a7 a8 a9
  exact lv_lmul C.1 C.2.1 hd (hK _ _ _ _ _ _ _ hk σ H locs ls a1 a2 a3 a4 a5 a6 (fun v hv => by rcases List.mem_cons.mp hv with e | e; (rw [e]; trivial); exact a7 v (List.mem_cons_of_mem _ (List.mem_cons_of_mem _ e))) a8 a9)
theorem hs_land (C : hp_B cc G) (hK : ∀ pc lv st h w k n, K pc lv st h w k n → hp_W G pc lv st h w k n)  (hd : decode cc pc = .ok (.land, 1)) (hi : st_l st fun y r => st_l r fun x r => K (pc + 1) lv (.long (x &&& y) :: r) h w k n) : hp_W G pc lv st h w k n := by
  obtain ⟨y, r, rfl, hj⟩ := st_l_of hi
  obtain ⟨x, r, rfl, hk⟩ := st_l_of hj
  intro σ H locs ls a1 a2 a3 a4 a5 a6 a7 a8 a9
  exact lv_land C.1 C.2.1 hd (hK _ _ _ _ _ _ _ hk σ H locs ls a1 a2 a3 a4 a5 a6 (fun v hv => by rcases List.mem_cons.mp hv with e | e; (rw [e]; trivial); exact a7 v (List.mem_cons_of_mem _ (List.mem_cons_of_mem _ e))) a8 a9)
theorem hs_lor (C : hp_B cc G) (hK : ∀ pc lv st h w k n, K pc lv st h w k n → hp_W G pc lv st h w k n)  (hd : decode cc pc = .ok (.lor, 1)) (hi : st_l st fun y r => st_l r fun x r => K (pc + 1) lv (.long (x ||| y) :: r) h w k n) : hp_W G pc lv st h w k n := by
  obtain ⟨y, r, rfl, hj⟩ := st_l_of hi
  obtain ⟨x, r, rfl, hk⟩ := st_l_of hj
  intro σ H locs ls a1 a2 a3 a4 a5 a6 a7 a8 a9
  exact lv_lor C.1 C.2.1 hd (hK _ _ _ _ _ _ _ hk σ H locs ls a1 a2 a3 a4 a5 a6 (fun v hv => by rcases List.mem_cons.mp hv with e | e; (rw [e]; trivial); exact a7 v (List.mem_cons_of_mem _ (List.mem_cons_of_mem _ e))) a8 a9)
theorem hs_lxor (C : hp_B cc G) (hK : ∀ pc lv st h w k n, K pc lv st h w k n → hp_W G pc lv st h w k n)  (hd : decode cc pc = .ok (.lxor, 1)) (hi : st_l st fun y r => st_l r fun x r => K (pc + 1) lv (.long (x ^^^ y) :: r) h w k n) : hp_W G pc lv st h w k n := by
  obtain ⟨y, r, rfl, hj⟩ := st_l_of hi
  obtain ⟨x, r, rfl, hk⟩ := st_l_of hj
  intro σ H locs ls a1 a2 a3 a4 a5 a6 a7 a8 a9
  exact lv_lxor C.1 C.2.1 hd (hK _ _ _ _ _ _ _ hk σ H locs ls a1 a2 a3 a4 a5 a6 (fun v hv => by rcases List.mem_cons.mp hv with e | e; (rw [e]; trivial); exact a7 v (List.mem_cons_of_mem _ (List.mem_cons_of_mem _ e))) a8 a9)
theorem hs_idiv (C : hp_B cc G) (hK : ∀ pc lv st h w k n, K pc lv st h w k n → hp_W G pc lv st h w k n)  (hd : decode cc pc = .ok (.idiv, 1)) (hi : st_i st fun y r => st_i r fun x r => ¬ y = 0 ∧ K (pc + 1) lv (.int (x / y) :: r) h w k n) : hp_W G pc lv st h w k n := by
  obtain ⟨y, r, rfl, hj⟩ := st_i_of hi
  obtain ⟨x, r, rfl, hk⟩ := st_i_of hj
  intro σ H locs ls a1 a2 a3 a4 a5 a6 a7 a8 a9
  exact lv_idiv C.1 C.2.1 hd hk.1 (hK _ _ _ _ _ _ _ hk.2 σ H locs ls a1 a2 a3 a4 a5 a6 (fun v hv => by rcases List.mem_cons.mp hv with e | e; (rw [e]; trivial); exact a7 v (List.mem_cons_of_mem _ (List.mem_cons_of_mem _ e))) a8 a9)
theorem hs_irem (C : hp_B cc G) (hK : ∀ pc lv st h w k n, K pc lv st h w k n → hp_W G pc lv st h w k n)  (hd : decode cc pc = .ok (.irem, 1)) (hi : st_i st fun y r => st_i r fun x r => ¬ y = 0 ∧ K (pc + 1) lv (.int (x - x / y * y) :: r) h w k n) : hp_W G pc lv st h w k n := by
  obtain ⟨y, r, rfl, hj⟩ := st_i_of hi
  obtain ⟨x, r, rfl, hk⟩ := st_i_of hj
  intro σ H locs ls a1 a2 a3 a4 a5 a6 a7 a8 a9
  exact lv_irem C.1 C.2.1 hd hk.1 (hK _ _ _ _ _ _ _ hk.2 σ H locs ls a1 a2 a3 a4 a5 a6 (fun v hv => by rcases List.mem_cons.mp hv with e | e; (rw [e]; trivial); exact a7 v (List.mem_cons_of_mem _ (List.mem_cons_of_mem _ e))) a8 a9)
theorem hs_iushr (C : hp_B cc G) (hK : ∀ pc lv st h w k n, K pc lv st h w k n → hp_W G pc lv st h w k n)  (hd : decode cc pc = .ok (.iushr, 1)) (hi : st_i st fun y r => st_i r fun x r => K (pc + 1) lv (.int ((x.toUInt32 >>> (y.toUInt32 &&& Int32.toUInt32 31)).toInt32) :: r) h w k n) : hp_W G pc lv st h w k n := by
  obtain ⟨y, r, rfl, hj⟩ := st_i_of hi
  obtain ⟨x, r, rfl, hk⟩ := st_i_of hj
  intro σ H locs ls a1 a2 a3 a4 a5 a6 a7 a8 a9
  exact lv_iushr C.1 C.2.1 hd rfl (hK _ _ _ _ _ _ _ hk σ H locs ls a1 a2 a3 a4 a5 a6 (fun v hv => by rcases List.mem_cons.mp hv with e | e; (rw [e]; trivial); exact a7 v (List.mem_cons_of_mem _ (List.mem_cons_of_mem _ e))) a8 a9)
theorem hs_lushr (C : hp_B cc G) (hK : ∀ pc lv st h w k n, K pc lv st h w k n → hp_W G pc lv st h w k n)  (hd : decode cc pc = .ok (.lushr, 1)) (hi : st_i st fun y r => st_l r fun x r => K (pc + 1) lv (.long ((x.toUInt64 >>> (y.toInt64.toUInt64 &&& Int64.toUInt64 63)).toInt64) :: r) h w k n) : hp_W G pc lv st h w k n := by
  obtain ⟨y, r, rfl, hj⟩ := st_i_of hi
  obtain ⟨x, r, rfl, hk⟩ := st_l_of hj
  intro σ H locs ls a1 a2 a3 a4 a5 a6 a7 a8 a9
  exact lv_lushr C.1 C.2.1 hd rfl (hK _ _ _ _ _ _ _ hk σ H locs ls a1 a2 a3 a4 a5 a6 (fun v hv => by rcases List.mem_cons.mp hv with e | e; (rw [e]; trivial); exact a7 v (List.mem_cons_of_mem _ (List.mem_cons_of_mem _ e))) a8 a9)
theorem hs_lshl (C : hp_B cc G) (hK : ∀ pc lv st h w k n, K pc lv st h w k n → hp_W G pc lv st h w k n)  (hd : decode cc pc = .ok (.lshl, 1)) (hi : st_i st fun y r => st_l r fun x r => K (pc + 1) lv (.long (x <<< (y.toInt64 &&& 63)) :: r) h w k n) : hp_W G pc lv st h w k n := by
  obtain ⟨y, r, rfl, hj⟩ := st_i_of hi
  obtain ⟨x, r, rfl, hk⟩ := st_l_of hj
  intro σ H locs ls a1 a2 a3 a4 a5 a6 a7 a8 a9
  exact lv_lshl C.1 C.2.1 hd rfl (hK _ _ _ _ _ _ _ hk σ H locs ls a1 a2 a3 a4 a5 a6 (fun v hv => by rcases List.mem_cons.mp hv with e | e; (rw [e]; trivial); exact a7 v (List.mem_cons_of_mem _ (List.mem_cons_of_mem _ e))) a8 a9)
theorem hs_lshr (C : hp_B cc G) (hK : ∀ pc lv st h w k n, K pc lv st h w k n → hp_W G pc lv st h w k n)  (hd : decode cc pc = .ok (.lshr, 1)) (hi : st_i st fun y r => st_l r fun x r => K (pc + 1) lv (.long (x >>> (y.toInt64 &&& 63)) :: r) h w k n) : hp_W G pc lv st h w k n := by
  obtain ⟨y, r, rfl, hj⟩ := st_i_of hi
  obtain ⟨x, r, rfl, hk⟩ := st_l_of hj
  intro σ H locs ls a1 a2 a3 a4 a5 a6 a7 a8 a9
  exact lv_lshr C.1 C.2.1 hd rfl (hK _ _ _ _ _ _ _ hk σ H locs ls a1 a2 a3 a4 a5 a6 (fun v hv => by rcases List.mem_cons.mp hv with e | e; (rw [e]; trivial); exact a7 v (List.mem_cons_of_mem _ (List.mem_cons_of_mem _ e))) a8 a9)
theorem hs_lcmp (C : hp_B cc G) (hK : ∀ pc lv st h w k n, K pc lv st h w k n → hp_W G pc lv st h w k n)  (hd : decode cc pc = .ok (.lcmp, 1)) (hi : st_l st fun y r => st_l r fun x r => K (pc + 1) lv (.int (lg_cmp x y) :: r) h w k n) : hp_W G pc lv st h w k n := by
  obtain ⟨y, r, rfl, hj⟩ := st_l_of hi
  obtain ⟨x, r, rfl, hk⟩ := st_l_of hj
  intro σ H locs ls a1 a2 a3 a4 a5 a6 a7 a8 a9
  exact W.lcmp C.1 C.2.1 hd (hK _ _ _ _ _ _ _ hk σ H locs ls a1 a2 a3 a4 a5 a6 (fun v hv => by rcases List.mem_cons.mp hv with e | e; (rw [e]; trivial); exact a7 v (List.mem_cons_of_mem _ (List.mem_cons_of_mem _ e))) a8 a9)
theorem hs_ineg (C : hp_B cc G) (hK : ∀ pc lv st h w k n, K pc lv st h w k n → hp_W G pc lv st h w k n)  (hd : decode cc pc = .ok (.ineg, 1)) (hi : st_i st fun x r => K (pc + 1) lv (.int (-x) :: r) h w k n) : hp_W G pc lv st h w k n := by
  obtain ⟨x, r, rfl, hj⟩ := st_i_of hi
  intro σ H locs ls a1 a2 a3 a4 a5 a6 a7 a8 a9
  exact lv_ineg C.1 C.2.1 hd (hK _ _ _ _ _ _ _ hj σ H locs ls a1 a2 a3 a4 a5 a6 (fun v hv => by rcases List.mem_cons.mp hv with e | e; (rw [e]; trivial); exact a7 v (List.mem_cons_of_mem _ e)) a8 a9)
theorem hs_lneg (C : hp_B cc G) (hK : ∀ pc lv st h w k n, K pc lv st h w k n → hp_W G pc lv st h w k n)  (hd : decode cc pc = .ok (.lneg, 1)) (hi : st_l st fun x r => K (pc + 1) lv (.long (-x) :: r) h w k n) : hp_W G pc lv st h w k n := by
  obtain ⟨x, r, rfl, hj⟩ := st_l_of hi
  intro σ H locs ls a1 a2 a3 a4 a5 a6 a7 a8 a9
  exact lv_lneg C.1 C.2.1 hd (hK _ _ _ _ _ _ _ hj σ H locs ls a1 a2 a3 a4 a5 a6 (fun v hv => by rcases List.mem_cons.mp hv with e | e; (rw [e]; trivial); exact a7 v (List.mem_cons_of_mem _ e)) a8 a9)
theorem hs_i2l (C : hp_B cc G) (hK : ∀ pc lv st h w k n, K pc lv st h w k n → hp_W G pc lv st h w k n)  (hd : decode cc pc = .ok (.i2l, 1)) (hi : st_i st fun x r => K (pc + 1) lv (.long (x.toInt64) :: r) h w k n) : hp_W G pc lv st h w k n := by
  obtain ⟨x, r, rfl, hj⟩ := st_i_of hi
  intro σ H locs ls a1 a2 a3 a4 a5 a6 a7 a8 a9
  exact lv_i2l C.1 C.2.1 hd rfl (hK _ _ _ _ _ _ _ hj σ H locs ls a1 a2 a3 a4 a5 a6 (fun v hv => by rcases List.mem_cons.mp hv with e | e; (rw [e]; trivial); exact a7 v (List.mem_cons_of_mem _ e)) a8 a9)
theorem hs_l2i (C : hp_B cc G) (hK : ∀ pc lv st h w k n, K pc lv st h w k n → hp_W G pc lv st h w k n)  (hd : decode cc pc = .ok (.l2i, 1)) (hi : st_l st fun x r => K (pc + 1) lv (.int (x.toInt32) :: r) h w k n) : hp_W G pc lv st h w k n := by
  obtain ⟨x, r, rfl, hj⟩ := st_l_of hi
  intro σ H locs ls a1 a2 a3 a4 a5 a6 a7 a8 a9
  exact lv_l2i C.1 C.2.1 hd rfl (hK _ _ _ _ _ _ _ hj σ H locs ls a1 a2 a3 a4 a5 a6 (fun v hv => by rcases List.mem_cons.mp hv with e | e; (rw [e]; trivial); exact a7 v (List.mem_cons_of_mem _ e)) a8 a9)
theorem hs_dup (C : hp_B cc G) (hK : ∀ pc lv st h w k n, K pc lv st h w k n → hp_W G pc lv st h w k n)  (hd : decode cc pc = .ok (.dup, 1)) (hi : st_v st fun x r => cond (Nat.beq x.category 1) (K (pc + 1) lv (x :: x :: r) h w k n) False) : hp_W G pc lv st h w k n := by
  obtain ⟨x, r, rfl, hj⟩ := st_v_of hi
  cases hb : Nat.beq x.category 1 with
  | false => rw [hb] at hj; exact hj.elim
  | true =>
    rw [hb] at hj
    intro σ H locs ls a1 a2 a3 a4 a5 a6 a7 a8 a9
    exact lv_dup C.1 C.2.1 hd (by rw [hp_cv_cat]; exact Nat.eq_of_beq_eq_true hb) (hK _ _ _ _ _ _ _ hj σ H locs ls a1 a2 a3 a4 a5 a6 (fun v hv => by rcases List.mem_cons.mp hv with e | e; (rw [e]; exact a7 x List.mem_cons_self); exact a7 v e) a8 a9)
theorem hs_pop (C : hp_B cc G) (hK : ∀ pc lv st h w k n, K pc lv st h w k n → hp_W G pc lv st h w k n)  (hd : decode cc pc = .ok (.pop, 1)) (hi : st_v st fun x r => cond (Nat.beq x.category 1) (K (pc + 1) lv r h w k n) False) : hp_W G pc lv st h w k n := by
  obtain ⟨x, r, rfl, hj⟩ := st_v_of hi
  cases hb : Nat.beq x.category 1 with
  | false => rw [hb] at hj; exact hj.elim
  | true =>
    rw [hb] at hj
    intro σ H locs ls a1 a2 a3 a4 a5 a6 a7 a8 a9
    exact lv_pop C.1 C.2.1 hd (by rw [hp_cv_cat]; exact Nat.eq_of_beq_eq_true hb) (hK _ _ _ _ _ _ _ hj σ H locs ls a1 a2 a3 a4 a5 a6 (fun v hv => a7 v (List.mem_cons_of_mem _ hv)) a8 a9)
theorem hs_dup2 (C : hp_B cc G) (hK : ∀ pc lv st h w k n, K pc lv st h w k n → hp_W G pc lv st h w k n)  (hd : decode cc pc = .ok (.dup2, 1)) (hi : st_v st fun x r => cond (Nat.beq x.category 2) (K (pc + 1) lv (x :: x :: r) h w k n) (st_v r fun y r => cond (Nat.beq x.category 1 && Nat.beq y.category 1) (K (pc + 1) lv (x :: y :: x :: y :: r) h w k n) False)) : hp_W G pc lv st h w k n := by
  obtain ⟨x, r, rfl, hj⟩ := st_v_of hi
  cases hb : Nat.beq x.category 2 with
  | true =>
    rw [hb] at hj
    intro σ H locs ls a1 a2 a3 a4 a5 a6 a7 a8 a9
    exact lv_dup2_2 C.1 C.2.1 hd (by rw [hp_cv_cat]; exact Nat.eq_of_beq_eq_true hb) (hK _ _ _ _ _ _ _ hj σ H locs ls a1 a2 a3 a4 a5 a6 (fun v hv => by rcases List.mem_cons.mp hv with e | e; (rw [e]; exact a7 x List.mem_cons_self); exact a7 v e) a8 a9)
  | false =>
    rw [hb] at hj
    obtain ⟨y, r, rfl, hk⟩ := st_v_of hj
    cases hb2 : (Nat.beq x.category 1 && Nat.beq y.category 1) with
    | false => rw [hb2] at hk; exact hk.elim
    | true =>
      rw [hb2] at hk
      intro σ H locs ls a1 a2 a3 a4 a5 a6 a7 a8 a9
      rw [Bool.and_eq_true] at hb2
      exact lv_dup2_11 C.1 C.2.1 hd (by rw [hp_cv_cat]; exact Nat.eq_of_beq_eq_true hb2.1) (by rw [hp_cv_cat]; exact Nat.eq_of_beq_eq_true hb2.2) (hK _ _ _ _ _ _ _ hk σ H locs ls a1 a2 a3 a4 a5 a6 (fun v hv => by rcases List.mem_cons.mp hv with e | e; (rw [e]; exact a7 x List.mem_cons_self); rcases List.mem_cons.mp e with e | e; (rw [e]; exact a7 y (List.mem_cons_of_mem _ List.mem_cons_self)); exact a7 v e) a8 a9)
theorem hs_dup_x1 (C : hp_B cc G) (hK : ∀ pc lv st h w k n, K pc lv st h w k n → hp_W G pc lv st h w k n)  (hd : decode cc pc = .ok (.dup_x1, 1)) (hi : st_v st fun x r => st_v r fun y r => cond (Nat.beq x.category 1 && Nat.beq y.category 1) (K (pc + 1) lv (x :: y :: x :: r) h w k n) False) : hp_W G pc lv st h w k n := by
  obtain ⟨x, r, rfl, hj⟩ := st_v_of hi
  obtain ⟨y, r, rfl, hk⟩ := st_v_of hj
  cases hb : (Nat.beq x.category 1 && Nat.beq y.category 1) with
  | false => rw [hb] at hk; exact hk.elim
  | true =>
    rw [hb] at hk
    intro σ H locs ls a1 a2 a3 a4 a5 a6 a7 a8 a9
    rw [Bool.and_eq_true] at hb
    exact lv_dup_x1 C.1 C.2.1 hd (by rw [hp_cv_cat]; exact Nat.eq_of_beq_eq_true hb.1) (by rw [hp_cv_cat]; exact Nat.eq_of_beq_eq_true hb.2) (hK _ _ _ _ _ _ _ hk σ H locs ls a1 a2 a3 a4 a5 a6 (fun v hv => by rcases List.mem_cons.mp hv with e | e; (rw [e]; exact a7 x List.mem_cons_self); rcases List.mem_cons.mp e with e | e; (rw [e]; exact a7 y (List.mem_cons_of_mem _ List.mem_cons_self)); rcases List.mem_cons.mp e with e | e; (rw [e]; exact a7 x List.mem_cons_self); exact a7 v (List.mem_cons_of_mem _ (List.mem_cons_of_mem _ e))) a8 a9)
theorem hs_if_eq (C : hp_B cc G) (hK : ∀ pc lv st h w k n, K pc lv st h w k n → hp_W G pc lv st h w k n) {o : Int} (hd : decode cc pc = .ok (.ifCond .eq o, 3)) (hi : st_i st fun x r => hp_go pc o fun q => (x = 0 → K q lv r h w k n) ∧ (¬ x = 0 → K (pc + 3) lv r h w k n)) : hp_W G pc lv st h w k n := by
  obtain ⟨x, r, rfl, hj⟩ := st_i_of hi
  obtain ⟨ht, hk⟩ := hp_go_of hj
  intro σ H locs ls a1 a2 a3 a4 a5 a6 a7 a8 a9
  exact lv_if_eq C.1 C.2.1 hd ht (fun q => hK _ _ _ _ _ _ _ (hk.1 q) σ H locs ls a1 a2 a3 a4 a5 a6 (fun v hv => a7 v (List.mem_cons_of_mem _ hv)) a8 a9) (fun q => hK _ _ _ _ _ _ _ (hk.2 q) σ H locs ls a1 a2 a3 a4 a5 a6 (fun v hv => a7 v (List.mem_cons_of_mem _ hv)) a8 a9)
theorem hs_if_ne (C : hp_B cc G) (hK : ∀ pc lv st h w k n, K pc lv st h w k n → hp_W G pc lv st h w k n) {o : Int} (hd : decode cc pc = .ok (.ifCond .ne o, 3)) (hi : st_i st fun x r => hp_go pc o fun q => (¬ x = 0 → K q lv r h w k n) ∧ (x = 0 → K (pc + 3) lv r h w k n)) : hp_W G pc lv st h w k n := by
  obtain ⟨x, r, rfl, hj⟩ := st_i_of hi
  obtain ⟨ht, hk⟩ := hp_go_of hj
  intro σ H locs ls a1 a2 a3 a4 a5 a6 a7 a8 a9
  exact lv_if_ne C.1 C.2.1 hd ht (fun q => hK _ _ _ _ _ _ _ (hk.1 q) σ H locs ls a1 a2 a3 a4 a5 a6 (fun v hv => a7 v (List.mem_cons_of_mem _ hv)) a8 a9) (fun q => hK _ _ _ _ _ _ _ (hk.2 q) σ H locs ls a1 a2 a3 a4 a5 a6 (fun v hv => a7 v (List.mem_cons_of_mem _ hv)) a8 a9)
theorem hs_if_lt (C : hp_B cc G) (hK : ∀ pc lv st h w k n, K pc lv st h w k n → hp_W G pc lv st h w k n) {o : Int} (hd : decode cc pc = .ok (.ifCond .lt o, 3)) (hi : st_i st fun x r => hp_go pc o fun q => (x < 0 → K q lv r h w k n) ∧ (¬ x < 0 → K (pc + 3) lv r h w k n)) : hp_W G pc lv st h w k n := by
  obtain ⟨x, r, rfl, hj⟩ := st_i_of hi
  obtain ⟨ht, hk⟩ := hp_go_of hj
  intro σ H locs ls a1 a2 a3 a4 a5 a6 a7 a8 a9
  exact lv_if_lt C.1 C.2.1 hd ht (fun q => hK _ _ _ _ _ _ _ (hk.1 q) σ H locs ls a1 a2 a3 a4 a5 a6 (fun v hv => a7 v (List.mem_cons_of_mem _ hv)) a8 a9) (fun q => hK _ _ _ _ _ _ _ (hk.2 q) σ H locs ls a1 a2 a3 a4 a5 a6 (fun v hv => a7 v (List.mem_cons_of_mem _ hv)) a8 a9)
theorem hs_if_ge (C : hp_B cc G) (hK : ∀ pc lv st h w k n, K pc lv st h w k n → hp_W G pc lv st h w k n) {o : Int} (hd : decode cc pc = .ok (.ifCond .ge o, 3)) (hi : st_i st fun x r => hp_go pc o fun q => (0 ≤ x → K q lv r h w k n) ∧ (¬ 0 ≤ x → K (pc + 3) lv r h w k n)) : hp_W G pc lv st h w k n := by
  obtain ⟨x, r, rfl, hj⟩ := st_i_of hi
  obtain ⟨ht, hk⟩ := hp_go_of hj
  intro σ H locs ls a1 a2 a3 a4 a5 a6 a7 a8 a9
  exact lv_if_ge C.1 C.2.1 hd ht (fun q => hK _ _ _ _ _ _ _ (hk.1 q) σ H locs ls a1 a2 a3 a4 a5 a6 (fun v hv => a7 v (List.mem_cons_of_mem _ hv)) a8 a9) (fun q => hK _ _ _ _ _ _ _ (hk.2 q) σ H locs ls a1 a2 a3 a4 a5 a6 (fun v hv => a7 v (List.mem_cons_of_mem _ hv)) a8 a9)
theorem hs_if_gt (C : hp_B cc G) (hK : ∀ pc lv st h w k n, K pc lv st h w k n → hp_W G pc lv st h w k n) {o : Int} (hd : decode cc pc = .ok (.ifCond .gt o, 3)) (hi : st_i st fun x r => hp_go pc o fun q => (0 < x → K q lv r h w k n) ∧ (¬ 0 < x → K (pc + 3) lv r h w k n)) : hp_W G pc lv st h w k n := by
  obtain ⟨x, r, rfl, hj⟩ := st_i_of hi
  obtain ⟨ht, hk⟩ := hp_go_of hj
  intro σ H locs ls a1 a2 a3 a4 a5 a6 a7 a8 a9
  exact lv_if_gt C.1 C.2.1 hd ht (fun q => hK _ _ _ _ _ _ _ (hk.1 q) σ H locs ls a1 a2 a3 a4 a5 a6 (fun v hv => a7 v (List.mem_cons_of_mem _ hv)) a8 a9) (fun q => hK _ _ _ _ _ _ _ (hk.2 q) σ H locs ls a1 a2 a3 a4 a5 a6 (fun v hv => a7 v (List.mem_cons_of_mem _ hv)) a8 a9)
theorem hs_if_le (C : hp_B cc G) (hK : ∀ pc lv st h w k n, K pc lv st h w k n → hp_W G pc lv st h w k n) {o : Int} (hd : decode cc pc = .ok (.ifCond .le o, 3)) (hi : st_i st fun x r => hp_go pc o fun q => (x ≤ 0 → K q lv r h w k n) ∧ (¬ x ≤ 0 → K (pc + 3) lv r h w k n)) : hp_W G pc lv st h w k n := by
  obtain ⟨x, r, rfl, hj⟩ := st_i_of hi
  obtain ⟨ht, hk⟩ := hp_go_of hj
  intro σ H locs ls a1 a2 a3 a4 a5 a6 a7 a8 a9
  exact lv_if_le C.1 C.2.1 hd ht (fun q => hK _ _ _ _ _ _ _ (hk.1 q) σ H locs ls a1 a2 a3 a4 a5 a6 (fun v hv => a7 v (List.mem_cons_of_mem _ hv)) a8 a9) (fun q => hK _ _ _ _ _ _ _ (hk.2 q) σ H locs ls a1 a2 a3 a4 a5 a6 (fun v hv => a7 v (List.mem_cons_of_mem _ hv)) a8 a9)
theorem hs_icmp_eq (C : hp_B cc G) (hK : ∀ pc lv st h w k n, K pc lv st h w k n → hp_W G pc lv st h w k n) {o : Int} (hd : decode cc pc = .ok (.if_icmp .eq o, 3)) (hi : st_i st fun y r => st_i r fun x r => hp_go pc o fun q => (x = y → K q lv r h w k n) ∧ (¬ x = y → K (pc + 3) lv r h w k n)) : hp_W G pc lv st h w k n := by
  obtain ⟨y, r, rfl, hj⟩ := st_i_of hi
  obtain ⟨x, r, rfl, hk⟩ := st_i_of hj
  obtain ⟨ht, hl⟩ := hp_go_of hk
  intro σ H locs ls a1 a2 a3 a4 a5 a6 a7 a8 a9
  exact lv_icmp_eq C.1 C.2.1 hd ht (fun q => hK _ _ _ _ _ _ _ (hl.1 q) σ H locs ls a1 a2 a3 a4 a5 a6 (fun v hv => a7 v (List.mem_cons_of_mem _ (List.mem_cons_of_mem _ hv))) a8 a9) (fun q => hK _ _ _ _ _ _ _ (hl.2 q) σ H locs ls a1 a2 a3 a4 a5 a6 (fun v hv => a7 v (List.mem_cons_of_mem _ (List.mem_cons_of_mem _ hv))) a8 a9)
theorem hs_icmp_ne (C : hp_B cc G) (hK : ∀ pc lv st h w k n, K pc lv st h w k n → hp_W G pc lv st h w k n) {o : Int} (hd : decode cc pc = .ok (.if_icmp .ne o, 3)) (hi : st_i st fun y r => st_i r fun x r => hp_go pc o fun q => (¬ x = y → K q lv r h w k n) ∧ (x = y → K (pc + 3) lv r h w k n)) : hp_W G pc lv st h w k n := by
  obtain ⟨y, r, rfl, hj⟩ := st_i_of hi
  obtain ⟨x, r, rfl, hk⟩ := st_i_of hj
  obtain ⟨ht, hl⟩ := hp_go_of hk
  intro σ H locs ls a1 a2 a3 a4 a5 a6 a7 a8 a9
  exact lv_icmp_ne C.1 C.2.1 hd ht (fun q => hK _ _ _ _ _ _ _ (hl.1 q) σ H locs ls a1 a2 a3 a4 a5 a6 (fun v hv => a7 v (List.mem_cons_of_mem _ (List.mem_cons_of_mem _ hv))) a8 a9) (fun q => hK _ _ _ _ _ _ _ (hl.2 q) σ H locs ls a1 a2 a3 a4 a5 a6 (fun v hv => a7 v (List.mem_cons_of_mem _ (List.mem_cons_of_mem _ hv))) a8 a9)
theorem hs_icmp_lt (C : hp_B cc G) (hK : ∀ pc lv st h w k n, K pc lv st h w k n → hp_W G pc lv st h w k n) {o : Int} (hd : decode cc pc = .ok (.if_icmp .lt o, 3)) (hi : st_i st fun y r => st_i r fun x r => hp_go pc o fun q => (x < y → K q lv r h w k n) ∧ (¬ x < y → K (pc + 3) lv r h w k n)) : hp_W G pc lv st h w k n := by
  obtain ⟨y, r, rfl, hj⟩ := st_i_of hi
  obtain ⟨x, r, rfl, hk⟩ := st_i_of hj
  obtain ⟨ht, hl⟩ := hp_go_of hk
  intro σ H locs ls a1 a2 a3 a4 a5 a6 a7 a8 a9
  exact lv_icmp_lt C.1 C.2.1 hd ht (fun q => hK _ _ _ _ _ _ _ (hl.1 q) σ H locs ls a1 a2 a3 a4 a5 a6 (fun v hv => a7 v (List.mem_cons_of_mem _ (List.mem_cons_of_mem _ hv))) a8 a9) (fun q => hK _ _ _ _ _ _ _ (hl.2 q) σ H locs ls a1 a2 a3 a4 a5 a6 (fun v hv => a7 v (List.mem_cons_of_mem _ (List.mem_cons_of_mem _ hv))) a8 a9)
theorem hs_icmp_ge (C : hp_B cc G) (hK : ∀ pc lv st h w k n, K pc lv st h w k n → hp_W G pc lv st h w k n) {o : Int} (hd : decode cc pc = .ok (.if_icmp .ge o, 3)) (hi : st_i st fun y r => st_i r fun x r => hp_go pc o fun q => (y ≤ x → K q lv r h w k n) ∧ (¬ y ≤ x → K (pc + 3) lv r h w k n)) : hp_W G pc lv st h w k n := by
  obtain ⟨y, r, rfl, hj⟩ := st_i_of hi
  obtain ⟨x, r, rfl, hk⟩ := st_i_of hj
  obtain ⟨ht, hl⟩ := hp_go_of hk
  intro σ H locs ls a1 a2 a3 a4 a5 a6 a7 a8 a9
  exact lv_icmp_ge C.1 C.2.1 hd ht (fun q => hK _ _ _ _ _ _ _ (hl.1 q) σ H locs ls a1 a2 a3 a4 a5 a6 (fun v hv => a7 v (List.mem_cons_of_mem _ (List.mem_cons_of_mem _ hv))) a8 a9) (fun q => hK _ _ _ _ _ _ _ (hl.2 q) σ H locs ls a1 a2 a3 a4 a5 a6 (fun v hv => a7 v (List.mem_cons_of_mem _ (List.mem_cons_of_mem _ hv))) a8 a9)
theorem hs_icmp_gt (C : hp_B cc G) (hK : ∀ pc lv st h w k n, K pc lv st h w k n → hp_W G pc lv st h w k n) {o : Int} (hd : decode cc pc = .ok (.if_icmp .gt o, 3)) (hi : st_i st fun y r => st_i r fun x r => hp_go pc o fun q => (y < x → K q lv r h w k n) ∧ (¬ y < x → K (pc + 3) lv r h w k n)) : hp_W G pc lv st h w k n := by
  obtain ⟨y, r, rfl, hj⟩ := st_i_of hi
  obtain ⟨x, r, rfl, hk⟩ := st_i_of hj
  obtain ⟨ht, hl⟩ := hp_go_of hk
  intro σ H locs ls a1 a2 a3 a4 a5 a6 a7 a8 a9
  exact lv_icmp_gt C.1 C.2.1 hd ht (fun q => hK _ _ _ _ _ _ _ (hl.1 q) σ H locs ls a1 a2 a3 a4 a5 a6 (fun v hv => a7 v (List.mem_cons_of_mem _ (List.mem_cons_of_mem _ hv))) a8 a9) (fun q => hK _ _ _ _ _ _ _ (hl.2 q) σ H locs ls a1 a2 a3 a4 a5 a6 (fun v hv => a7 v (List.mem_cons_of_mem _ (List.mem_cons_of_mem _ hv))) a8 a9)
theorem hs_icmp_le (C : hp_B cc G) (hK : ∀ pc lv st h w k n, K pc lv st h w k n → hp_W G pc lv st h w k n) {o : Int} (hd : decode cc pc = .ok (.if_icmp .le o, 3)) (hi : st_i st fun y r => st_i r fun x r => hp_go pc o fun q => (x ≤ y → K q lv r h w k n) ∧ (¬ x ≤ y → K (pc + 3) lv r h w k n)) : hp_W G pc lv st h w k n := by
  obtain ⟨y, r, rfl, hj⟩ := st_i_of hi
  obtain ⟨x, r, rfl, hk⟩ := st_i_of hj
  obtain ⟨ht, hl⟩ := hp_go_of hk
  intro σ H locs ls a1 a2 a3 a4 a5 a6 a7 a8 a9
  exact lv_icmp_le C.1 C.2.1 hd ht (fun q => hK _ _ _ _ _ _ _ (hl.1 q) σ H locs ls a1 a2 a3 a4 a5 a6 (fun v hv => a7 v (List.mem_cons_of_mem _ (List.mem_cons_of_mem _ hv))) a8 a9) (fun q => hK _ _ _ _ _ _ _ (hl.2 q) σ H locs ls a1 a2 a3 a4 a5 a6 (fun v hv => a7 v (List.mem_cons_of_mem _ (List.mem_cons_of_mem _ hv))) a8 a9)
theorem hs_goto (C : hp_B cc G) (hK : ∀ pc lv st h w k n, K pc lv st h w k n → hp_W G pc lv st h w k n) {o : Int} (hd : decode cc pc = .ok (.goto o, 3)) (hi : hp_go pc o fun q => K q lv st h w k n) : hp_W G pc lv st h w k n := by
  obtain ⟨ht, hj⟩ := hp_go_of hi
  intro σ H locs ls a1 a2 a3 a4 a5 a6 a7 a8 a9
  exact lv_goto C.1 C.2.1 hd ht (hK _ _ _ _ _ _ _ hj σ H locs ls a1 a2 a3 a4 a5 a6 a7 a8 a9)
end HpI
end
section
/-- what a class of the worlds brings: its words, the types of its fields -/
def hp_clsok : Prop := ∀ (ci : Nat) (r : vw_C), classes[ci]? = some r → (∀ w ∈ u_ws r.1 r.2.1 r.2.2, w ∈ hp_Ts) ∧ (∀ k, k < r.2.2 → parseFieldDescriptor (r.2.1 k).2.2.1 = some (hp_fty ci k)) ∧
  (∀ a, a < r.2.2 → ∀ b, b < r.2.2 → a ≠ b → (r.2.1 a).2.1 ≠ (r.2.1 b).2.1) ∧ Cond.instantiable r.1 r.2.2 ∈ hp_Ts ∧ Cond.initialized r.1 ∈ hp_Ts ∧ (∀ j, j < r.2.2 → defaultValue (hp_fty ci j) = vp_V (hp_new ci) j) ∧ (hp_new ci).length = r.2.2
/-- the tables' part of what stays the same, for a method of the class own -/
def hp_O (own : String) (G : hp_G) : Prop := (∀ w ∈ hp_Ts, w.before (g_a G) (g_s G) = true) ∧ (g_s G).vm.findClass own = some (g_m G).cls ∧ va_K (g_D G) classes [] (g_s G) ∧ g_z G ≤ (g_s G).heap.size
theorem hp_set_self (cell : Cell) {i : Nat} (v : Value) (h : i < cell.slots.size) : (cell.setSlot i v).slots[i]? = some v := by
  simp [Cell.setSlot, Array.getElem?_setIfInBounds, h]
theorem hp_set_arr {U : State} {cell : Cell} {ty : FieldType} (i : Nat) (v : Value) (h : U.isArrayOf cell ty) : U.isArrayOf (cell.setSlot i v) ty := h
theorem vp_V_set {fs : List Value} {k : Nat} {v : Value} (hk : k < fs.length) (j : Nat) : vp_V (fs.set k v) j = if j = k then v else vp_V fs j := by
  unfold vp_V
  rw [List.getD_eq_getElem?_getD, List.getD_eq_getElem?_getD]
  by_cases e : j = k
  · subst e
    rw [if_pos rfl, List.getElem?_set_self hk]; rfl
  · rw [if_neg e, List.getElem?_set_ne (Ne.symm e)]
theorem hp_fit_cv {σ : List Nat} {ty : FieldType} {v : Value} (h1 : narrow ty v = v) (h2 : fits ty v = true) : narrow ty (hp_cv σ v) = hp_cv σ v ∧ fits ty (hp_cv σ v) = true := by
  cases v with
  | ref a => cases ty <;> first | exact ⟨rfl, rfl⟩ | (exfalso; revert h2; decide) | (exfalso; simp [fits] at h2)
  | _ => exact ⟨h1, h2⟩
section HpM
variable {G : hp_G} {cc : ByteArray} {pc : Nat} {lv : hp_L} {st : List Value} {h : hp_H} {w : Bool} {k n : Nat} {K : hp_K}

theorem hs_getfield (C : hp_B cc G) (hK : ∀ pc lv st h w k n, K pc lv st h w k n → hp_W G pc lv st h w k n) {own : String} (O : hp_O own G) (hco : hp_clsok) {ci fk idx : Nat} {r0 : vw_C} (hc : classes[ci]? = some r0) (hk : fk < r0.2.2) (hlink : Cond.fieldLink own idx (r0.2.1 fk).1 (r0.2.1 fk).2.1 (r0.2.1 fk).2.2.1 ∈ hp_Ts)
    (hd : decode cc pc = .ok (.getfield idx, 3)) (hi : st_a st fun a r => ∃ fs, h[a]? = some (.inr (ci, fs)) ∧ K (pc + 3) lv (vp_V fs fk :: r) h w k n) : hp_W G pc lv st h w k n := by
  obtain ⟨a, r, rfl, fs, ha, hiq⟩ := st_a_of hi
  intro σ H locs ls a1 a2 a3 a4 a5 a6 a7 a8 a9
  obtain ⟨rc, cell, q0, q1, q2, q3, q4⟩ := a1.2.1 a _ ha
  have hr : rc = r0 := Option.some.inj (q0.symm.trans hc)
  subst hr
  obtain ⟨hts, hown, hKn, -⟩ := O
  obtain ⟨hS, hfc, kC, hkC, hkind⟩ := hKn.1 ci _ hc
  obtain ⟨cf, kf, fi, f, hfi, hsl⟩ := hS fk hk
  refine W.getf C.1 C.2.1 hown (hts _ hlink) hfi (u_facts hfc hkC (u_lays hts (hco ci _ hc).1 hk) hfi).1 q1 (by rw [q3]; exact fun q => by cases q) (v := hp_cv σ (vp_V fs fk)) (by rw [hsl]; exact (q4 fk hk).1) rfl rfl hd ?_
  exact hK _ _ _ _ _ _ _ hiq σ H locs ls a1 a2 a3 a4 a5 a6 (fun v hv => by rcases List.mem_cons.mp hv with e | e; (rw [e]; exact (q4 fk hk).2); exact a7 v (List.mem_cons_of_mem _ e)) a8 a9
/-- the heap behind a store into a field -/
theorem hp_rep_field {D : va_G} {z : Nat} {U : State} {σ : List Nat} {H H1 : Heap} (hKn : va_K D classes [] U) {args : Array Value} (hts : ∀ w ∈ hp_Ts, w.before args U = true) (hco : hp_clsok) (r : hp_rep D z U σ h H) {a ci fk : Nat} {fs : List Value} {r0 : vw_C} (hc : classes[ci]? = some r0) (hk : fk < r0.2.2) (ha : h[a]? = some (.inr (ci, fs))) (hl : fk < fs.length)
    {cell : Cell} (q1 : H[σ.getD a 0]? = some cell) (q2 : cell.cls = D.1 ci) (q3 : cell.vm = .none) (q4 : ∀ k, k < r0.2.2 → cell.slots[D.2 ci k]? = some (hp_cv σ (vp_V fs k)) ∧ hp_ok σ (vp_V fs k)) {v : Value} (hv : hp_ok σ v)
    (e1 : H1[σ.getD a 0]? = some (cell.setSlot (D.2 ci fk) (hp_cv σ v))) (e3 : ∀ q, q ≠ σ.getD a 0 → H1[q]? = H[q]?) : hp_rep D z U σ (h.set a (.inr (ci, fs.set fk v))) H1 := by
  have hap := va_apart (own := "") hts (hco ci _ hc).1 (hp_fty ci) (hco ci _ hc).2.1 (hco ci _ hc).2.2.1 hKn hc
  refine hp_rep_put r ha rfl ⟨r0, _, hc, e1, q2, q3, fun j hj => ?_⟩ e3 (fun c2 h2 => ?_)
  · rw [vp_V_set hl]
    by_cases e : j = fk
    · subst e
      rw [if_pos rfl]
      exact ⟨hp_set_self _ _ (k2_hasslot (q4 j hj).1), hv⟩
    · rw [if_neg e, slot_ne _ _ (hap fk j hk hj (Ne.symm e))]
      exact q4 j hj
  · rw [e1] at h2
    cases h2
    show cell.vm.isStatics = false
    rw [q3]; rfl
theorem hs_putfield (C : hp_B cc G) (hK : ∀ pc lv st h w k n, K pc lv st h w k n → hp_W G pc lv st h w k n) {own : String} (O : hp_O own G) (hco : hp_clsok) {ci fk idx : Nat} {r0 : vw_C} (hc : classes[ci]? = some r0) (hk : fk < r0.2.2) (hlink : Cond.fieldLink own idx (r0.2.1 fk).1 (r0.2.1 fk).2.1 (r0.2.1 fk).2.2.1 ∈ hp_Ts)
    (hfin : (r0.2.1 fk).2.2.2 = false ∨ ((r0.2.1 fk).2.2.2 = true ∧ (g_me G).name = "<init>" ∧ (r0.2.1 fk).1 = own))
    (hd : decode cc pc = .ok (.putfield idx, 3)) (hi : st_v st fun v r => st_a r fun a r => ∃ fs, h[a]? = some (.inr (ci, fs)) ∧ fk < fs.length ∧ narrow (hp_fty ci fk) v = v ∧ fits (hp_fty ci fk) v = true ∧ K (pc + 3) lv r (h.set a (.inr (ci, fs.set fk v))) false k n) : hp_W G pc lv st h w k n := by
  obtain ⟨v, r, rfl, hiq⟩ := st_v_of hi
  obtain ⟨a, r, rfl, fs, ha, hl, hn1, hn2, hiqq⟩ := st_a_of hiq
  intro σ H locs ls a1 a2 a3 a4 a5 a6 a7 a8 a9
  obtain ⟨rc, cell, q0, q1, q2, q3, q4⟩ := a1.2.1 a _ ha
  have hr : rc = r0 := Option.some.inj (q0.symm.trans hc)
  subst hr
  have hz : g_z G ≤ σ.getD a 0 := a1.2.2.2.1 a _ ha rfl
  have hv := a7 v List.mem_cons_self
  obtain ⟨hn, hfit⟩ := hp_fit_cv (σ := σ) hn1 hn2
  obtain ⟨hts, hown, hKn, -⟩ := O
  obtain ⟨hS, hfc, kC, hkC, hkind⟩ := hKn.1 ci _ hc
  obtain ⟨cf, kf, fi, f, hfi, hsl⟩ := hS fk hk
  have hst := (u_facts hfc hkC (u_lays hts (hco ci _ hc).1 hk) hfi).1
  have hty := (hco ci _ hc).2.1 fk hk
  have hlay := hts _ ((hco ci _ hc).1 _ (u_in_lay hk))
  unfold u_lay at hlay
  have kk : ∀ H' : Heap, H'[σ.getD a 0]? = some (cell.setSlot f.slot (hp_cv σ v)) → H'.size = H.size → (∀ q, q ≠ σ.getD a 0 → H'[q]? = H[q]?) → W (g_p G) (g_l G) (g_e G) (g_R G) (g_s G) (g_m G) (g_a G) (g_b G) (g_me G) (g_c G) H' (locs ++ [⟨σ.getD a 0, f.slot⟩]) k n (hp_Z G) (F0 (g_m G) (pc + 3) ls (r.map (hp_cv σ))) := by
    intro H' e1 e2 e3
    rw [hsl] at e1
    refine hK _ _ _ _ _ _ _ hiqq σ H' _ ls (hp_rep_field hKn hts hco a1 hc hk ha hl q1 q2 q3 q4 hv e1 e3) a2 ⟨by rw [e2]; exact a3.1, fun q hq => ?_⟩ (fun q hq => ?_) (fun q => by cases q) a6 (fun v hv => a7 v (List.mem_cons_of_mem _ (List.mem_cons_of_mem _ hv))) a8 a9
    · rw [e3 q (Nat.ne_of_lt (Nat.lt_of_lt_of_le hq hz))]
      exact a3.2 q hq
    · rcases List.mem_append.mp hq with hq | hq
      · exact a4 q hq
      · rw [List.mem_singleton.mp hq]; exact hz
  rcases hfin with hf0 | ⟨hf1, hf2, hf3⟩
  · rw [if_neg (by rw [hf0]; decide)] at hlay
    exact W.putK C.1 C.2.1 (f := f) ⟨hown, hts _ hlink, ⟨_, _, _, hfi⟩, hst⟩ (by rw [q2]; exact u_store hfc hkC hkind hlay hfi hty hn hfit) q1 q3 (by rw [hsl]; exact k2_hasslot (q4 fk hk).1) rfl rfl hd kk
  · rw [if_pos hf1] at hlay
    have hcf : (g_m G).cls = cf := by
      obtain ⟨_, _, c', _, _, _, -, -, hf', -, -, -, hown2, -⟩ := Cond.laysFinal_spec hlay
      have e1 : c' = cf := by have := hfi.symm.trans hf'; simp at this; exact this.1.symm
      rw [hf3] at hown2
      rw [← e1]; exact Option.some.inj (hown.symm.trans hown2)
    exact W.putFinK C.1 C.2.1 hown (hts _ hlink) hfi hst hcf hf2 (by rw [q2]; exact u_fits hfc hkC hkind (Or.inr hlay) hfi hty hn hfit) q1 q3 (by rw [hsl]; exact k2_hasslot (q4 fk hk).1) rfl rfl hd kk
theorem hs_iaload (C : hp_B cc G) (hK : ∀ pc lv st h w k n, K pc lv st h w k n → hp_W G pc lv st h w k n) (hd : decode cc pc = .ok (.iaload, 1)) {i : Int32} {a N : Nat} {r : List Value} {f : Nat → Int32} (hst : st = .int i :: .ref a :: r) (ha : h[a]? = some (.inl (.int, N, .inl f))) (hin : vp_in i N) (hi : K (pc + 1) lv (hp_el (.inl f) i.toNatClampNeg :: r) h w k n) : hp_W G pc lv st h w k n := by
  subst hst
  intro σ H locs ls a1 a2 a3 a4 a5 a6 a7 a8 a9
  obtain ⟨cell, q1, q2, q3, q4, q5⟩ := a1.2.1 a _ ha
  have hlt : i.toNatClampNeg < N := Nat.not_le.mp fun q => hin (Or.inr q)
  refine W.iald C.1 C.2.1 q1 q2 q3 (by rw [q4]; exact hin) (q5 _ hlt).1 rfl rfl hd ?_
  exact hK _ _ _ _ _ _ _ hi σ H locs ls a1 a2 a3 a4 a5 a6 (fun v hv => by rcases List.mem_cons.mp hv with e | e; (rw [e]; exact (q5 _ hlt).2); exact a7 v (List.mem_cons_of_mem _ (List.mem_cons_of_mem _ e))) a8 a9
theorem hs_ialoadS (C : hp_B cc G) (hK : ∀ pc lv st h w k n, K pc lv st h w k n → hp_W G pc lv st h w k n) (hd : decode cc pc = .ok (.iaload, 1)) {i : Int32} {a N : Nat} {r : List Value} {f : Nat → Int32} (hst : st = .int i :: .ref a :: r) (ha : h[a]? = some (.inl (.float, N, .inl f))) (hin : vp_in i N) (hi : K (pc + 1) lv (hp_el (.inl f) i.toNatClampNeg :: r) h w k n) : hp_W G pc lv st h w k n := by
  subst hst
  intro σ H locs ls a1 a2 a3 a4 a5 a6 a7 a8 a9
  obtain ⟨cell, q1, q2, q3, q4, q5⟩ := a1.2.1 a _ ha
  have hlt : i.toNatClampNeg < N := Nat.not_le.mp fun q => hin (Or.inr q)
  refine W.iald C.1 C.2.1 q1 q2 q3 (by rw [q4]; exact hin) (q5 _ hlt).1 rfl rfl hd ?_
  exact hK _ _ _ _ _ _ _ hi σ H locs ls a1 a2 a3 a4 a5 a6 (fun v hv => by rcases List.mem_cons.mp hv with e | e; (rw [e]; exact (q5 _ hlt).2); exact a7 v (List.mem_cons_of_mem _ (List.mem_cons_of_mem _ e))) a8 a9
theorem hs_laload (C : hp_B cc G) (hK : ∀ pc lv st h w k n, K pc lv st h w k n → hp_W G pc lv st h w k n) (hd : decode cc pc = .ok (.laload, 1)) {i : Int32} {a N : Nat} {r : List Value} {f : Nat → Int64} (hst : st = .int i :: .ref a :: r) (ha : h[a]? = some (.inl (.long, N, .inr <| .inl f))) (hin : vp_in i N) (hi : K (pc + 1) lv (hp_el (.inr <| .inl f) i.toNatClampNeg :: r) h w k n) : hp_W G pc lv st h w k n := by
  subst hst
  intro σ H locs ls a1 a2 a3 a4 a5 a6 a7 a8 a9
  obtain ⟨cell, q1, q2, q3, q4, q5⟩ := a1.2.1 a _ ha
  have hlt : i.toNatClampNeg < N := Nat.not_le.mp fun q => hin (Or.inr q)
  refine W.lald C.1 C.2.1 q1 q2 q3 (by rw [q4]; exact hin) (q5 _ hlt).1 rfl rfl hd ?_
  exact hK _ _ _ _ _ _ _ hi σ H locs ls a1 a2 a3 a4 a5 a6 (fun v hv => by rcases List.mem_cons.mp hv with e | e; (rw [e]; exact (q5 _ hlt).2); exact a7 v (List.mem_cons_of_mem _ (List.mem_cons_of_mem _ e))) a8 a9
theorem hs_zaload (C : hp_B cc G) (hK : ∀ pc lv st h w k n, K pc lv st h w k n → hp_W G pc lv st h w k n) (hd : decode cc pc = .ok (.baload, 1)) {i : Int32} {a N : Nat} {r : List Value} {f : Nat → Int32} (hst : st = .int i :: .ref a :: r) (ha : h[a]? = some (.inl (.boolean, N, .inl f))) (hin : vp_in i N) (hi : K (pc + 1) lv (hp_el (.inl f) i.toNatClampNeg :: r) h w k n) : hp_W G pc lv st h w k n := by
  subst hst
  intro σ H locs ls a1 a2 a3 a4 a5 a6 a7 a8 a9
  obtain ⟨cell, q1, q2, q3, q4, q5⟩ := a1.2.1 a _ ha
  have hlt : i.toNatClampNeg < N := Nat.not_le.mp fun q => hin (Or.inr q)
  refine W.zald C.1 C.2.1 q1 q2 q3 (by rw [q4]; exact hin) (q5 _ hlt).1 rfl rfl hd ?_
  exact hK _ _ _ _ _ _ _ hi σ H locs ls a1 a2 a3 a4 a5 a6 (fun v hv => by rcases List.mem_cons.mp hv with e | e; (rw [e]; exact (q5 _ hlt).2); exact a7 v (List.mem_cons_of_mem _ (List.mem_cons_of_mem _ e))) a8 a9
theorem hs_baload (C : hp_B cc G) (hK : ∀ pc lv st h w k n, K pc lv st h w k n → hp_W G pc lv st h w k n) (hd : decode cc pc = .ok (.baload, 1)) {i : Int32} {a N : Nat} {r : List Value} {f : Nat → Int32} (hst : st = .int i :: .ref a :: r) (ha : h[a]? = some (.inl (.byte, N, .inl f))) (hin : vp_in i N) (hi : K (pc + 1) lv (hp_el (.inl f) i.toNatClampNeg :: r) h w k n) : hp_W G pc lv st h w k n := by
  subst hst
  intro σ H locs ls a1 a2 a3 a4 a5 a6 a7 a8 a9
  obtain ⟨cell, q1, q2, q3, q4, q5⟩ := a1.2.1 a _ ha
  have hlt : i.toNatClampNeg < N := Nat.not_le.mp fun q => hin (Or.inr q)
  refine W.bald C.1 C.2.1 q1 q2 q3 (by rw [q4]; exact hin) (q5 _ hlt).1 rfl rfl hd ?_
  exact hK _ _ _ _ _ _ _ hi σ H locs ls a1 a2 a3 a4 a5 a6 (fun v hv => by rcases List.mem_cons.mp hv with e | e; (rw [e]; exact (q5 _ hlt).2); exact a7 v (List.mem_cons_of_mem _ (List.mem_cons_of_mem _ e))) a8 a9
theorem hs_aaload (C : hp_B cc G) (hK : ∀ pc lv st h w k n, K pc lv st h w k n → hp_W G pc lv st h w k n) (hd : decode cc pc = .ok (.aaload, 1)) {i : Int32} {a N : Nat} {r : List Value} {ty : FieldType} (hty : ty.isReference = true) (hty2 : hp_ty ty = ty) {f : Nat → Option Nat} (hst : st = .int i :: .ref a :: r) (ha : h[a]? = some (.inl (ty, N, .inr (.inr (.inr (.inr f)))))) (hin : vp_in i N) (hi : K (pc + 1) lv (va_rf (f i.toNatClampNeg) :: r) h w k n) : hp_W G pc lv st h w k n := by
  subst hst
  intro σ H locs ls a1 a2 a3 a4 a5 a6 a7 a8 a9
  obtain ⟨cell, q1, q2, q3, q4, q5⟩ := a1.2.1 a _ ha
  rw [hty2] at q2
  have hlt : i.toNatClampNeg < N := Nat.not_le.mp fun q => hin (Or.inr q)
  refine W.aald C.1 C.2.1 q1 q2 hty q3 (by rw [q4]; exact hin) (q5 _ hlt).1 rfl rfl hd ?_
  exact hK _ _ _ _ _ _ _ hi σ H locs ls a1 a2 a3 a4 a5 a6 (fun v hv => by rcases List.mem_cons.mp hv with e | e; (rw [e]; exact (q5 _ hlt).2); exact a7 v (List.mem_cons_of_mem _ (List.mem_cons_of_mem _ e))) a8 a9
/-- the heap behind a store into an array -/
theorem hp_rep_arr {D : va_G} {z : Nat} {U : State} {σ : List Nat} {H H1 : Heap} (r : hp_rep D z U σ h H) {a N i : Nat} {ty : FieldType} {x x' : hp_X} (ha : h[a]? = some (.inl (ty, N, x))) (hty : hp_wr (.inl (ty, N, x)) = true) (hi : i < N)
    {cell : Cell} (q1 : H[σ.getD a 0]? = some cell) (q2 : U.isArrayOf cell (hp_ty ty)) (q3 : cell.vm ≠ .unknown) (q4 : cell.slots.size = N) (q5 : ∀ j, j < N → cell.slots[j]? = some (hp_cv σ (hp_el x j)) ∧ hp_ok σ (hp_el x j)) {v : Value} (hv : hp_ok σ v)
    (hx : ∀ j, j < N → hp_el x' j = if j = i then v else hp_el x j)
    (e1 : H1[σ.getD a 0]? = some (cell.setSlot i (hp_cv σ v))) (e3 : ∀ q, q ≠ σ.getD a 0 → H1[q]? = H[q]?) : hp_rep D z U σ (h.set a (.inl (ty, N, x'))) H1 := by
  refine hp_rep_put r ha hty ⟨_, e1, q2, q3, by simp [Cell.setSlot, q4], fun j hj => ?_⟩ e3 (fun c2 h2 => ?_)
  · rw [hx j hj]
    by_cases e : j = i
    · subst e
      rw [if_pos rfl]
      exact ⟨hp_set_self _ _ (by omega), hv⟩
    · rw [if_neg e, slot_ne _ _ (Ne.symm e)]
      exact q5 j hj
  · rw [e1] at h2
    cases h2
    have hc := q2.1
    show cell.vm.isStatics = false
    cases hvm : cell.vm <;> first | rfl | exact absurd hvm (hc _)
theorem hs_iastore (C : hp_B cc G) (hK : ∀ pc lv st h w k n, K pc lv st h w k n → hp_W G pc lv st h w k n) (hd : decode cc pc = .ok (.iastore, 1)) {i : Int32} {x : Int32} {a N : Nat} {r : List Value} {f : Nat → Int32} (hst : st = .int x :: .int i :: .ref a :: r) (ha : h[a]? = some (.inl (.int, N, .inl f))) (hin : vp_in i N) (hi : K (pc + 1) lv r (h.set a (.inl (.int, N, .inl (upd f i.toNatClampNeg x)))) false k n) : hp_W G pc lv st h w k n := by
  subst hst
  intro σ H locs ls a1 a2 a3 a4 a5 a6 a7 a8 a9
  obtain ⟨cell, q1, q2, q3, q4, q5⟩ := a1.2.1 a _ ha
  have hz : g_z G ≤ σ.getD a 0 := a1.2.2.2.1 a _ ha rfl
  have hlt : i.toNatClampNeg < N := Nat.not_le.mp fun q => hin (Or.inr q)
  refine W.iast C.1 C.2.1 q1 q2 q3 (by rw [q4]; exact hin) rfl rfl hd fun H' e1 e2 e3 => ?_
  
  refine hK _ _ _ _ _ _ _ hi σ H' _ ls (hp_rep_arr (v := .int x) a1 ha rfl hlt q1 q2 q3 q4 q5 trivial (fun j hj => ?_) e1 e3) a2 ⟨by rw [e2]; exact a3.1, fun q hq => ?_⟩ (fun q hq => ?_) (fun q => by cases q) a6 (fun v hv => a7 v (List.mem_cons_of_mem _ (List.mem_cons_of_mem _ (List.mem_cons_of_mem _ hv)))) a8 a9
  · by_cases e : j = i.toNatClampNeg
    · rw [if_pos e]; simp [hp_el, upd, e]
    · rw [if_neg e]; simp [hp_el, upd, e]
  · rw [e3 q (Nat.ne_of_lt (Nat.lt_of_lt_of_le hq hz))]
    exact a3.2 q hq
  · rcases List.mem_append.mp hq with hq | hq
    · exact a4 q hq
    · rw [List.mem_singleton.mp hq]; exact hz
theorem hs_lastore (C : hp_B cc G) (hK : ∀ pc lv st h w k n, K pc lv st h w k n → hp_W G pc lv st h w k n) (hd : decode cc pc = .ok (.lastore, 1)) {i : Int32} {x : Int64} {a N : Nat} {r : List Value} {f : Nat → Int64} (hst : st = .long x :: .int i :: .ref a :: r) (ha : h[a]? = some (.inl (.long, N, .inr <| .inl f))) (hin : vp_in i N) (hi : K (pc + 1) lv r (h.set a (.inl (.long, N, .inr <| .inl (vp_updL f i.toNatClampNeg x)))) false k n) : hp_W G pc lv st h w k n := by
  subst hst
  intro σ H locs ls a1 a2 a3 a4 a5 a6 a7 a8 a9
  obtain ⟨cell, q1, q2, q3, q4, q5⟩ := a1.2.1 a _ ha
  have hz : g_z G ≤ σ.getD a 0 := a1.2.2.2.1 a _ ha rfl
  have hlt : i.toNatClampNeg < N := Nat.not_le.mp fun q => hin (Or.inr q)
  refine W.last C.1 C.2.1 q1 q2 q3 (by rw [q4]; exact hin) rfl rfl hd fun H' e1 e2 e3 => ?_
  
  refine hK _ _ _ _ _ _ _ hi σ H' _ ls (hp_rep_arr (v := .long x) a1 ha rfl hlt q1 q2 q3 q4 q5 trivial (fun j hj => ?_) e1 e3) a2 ⟨by rw [e2]; exact a3.1, fun q hq => ?_⟩ (fun q hq => ?_) (fun q => by cases q) a6 (fun v hv => a7 v (List.mem_cons_of_mem _ (List.mem_cons_of_mem _ (List.mem_cons_of_mem _ hv)))) a8 a9
  · by_cases e : j = i.toNatClampNeg
    · rw [if_pos e]; simp [hp_el, vp_updL, e]
    · rw [if_neg e]; simp [hp_el, vp_updL, e]
  · rw [e3 q (Nat.ne_of_lt (Nat.lt_of_lt_of_le hq hz))]
    exact a3.2 q hq
  · rcases List.mem_append.mp hq with hq | hq
    · exact a4 q hq
    · rw [List.mem_singleton.mp hq]; exact hz
theorem hs_zastore (C : hp_B cc G) (hK : ∀ pc lv st h w k n, K pc lv st h w k n → hp_W G pc lv st h w k n) (hd : decode cc pc = .ok (.bastore, 1)) {i : Int32} {x : Int32} {a N : Nat} {r : List Value} {f : Nat → Int32} (hst : st = .int x :: .int i :: .ref a :: r) (ha : h[a]? = some (.inl (.boolean, N, .inl f))) (hin : vp_in i N) (hnar : narrow .boolean (.int x) = .int x) (hi : K (pc + 1) lv r (h.set a (.inl (.boolean, N, .inl (upd f i.toNatClampNeg x)))) false k n) : hp_W G pc lv st h w k n := by
  subst hst
  intro σ H locs ls a1 a2 a3 a4 a5 a6 a7 a8 a9
  obtain ⟨cell, q1, q2, q3, q4, q5⟩ := a1.2.1 a _ ha
  have hz : g_z G ≤ σ.getD a 0 := a1.2.2.2.1 a _ ha rfl
  have hlt : i.toNatClampNeg < N := Nat.not_le.mp fun q => hin (Or.inr q)
  refine W.zast C.1 C.2.1 q1 q2 q3 (by rw [q4]; exact hin) rfl rfl hd fun H' e1 e2 e3 => ?_
  rw [hnar] at e1
  refine hK _ _ _ _ _ _ _ hi σ H' _ ls (hp_rep_arr (v := .int x) a1 ha rfl hlt q1 q2 q3 q4 q5 trivial (fun j hj => ?_) e1 e3) a2 ⟨by rw [e2]; exact a3.1, fun q hq => ?_⟩ (fun q hq => ?_) (fun q => by cases q) a6 (fun v hv => a7 v (List.mem_cons_of_mem _ (List.mem_cons_of_mem _ (List.mem_cons_of_mem _ hv)))) a8 a9
  · by_cases e : j = i.toNatClampNeg
    · rw [if_pos e]; simp [hp_el, upd, e]
    · rw [if_neg e]; simp [hp_el, upd, e]
  · rw [e3 q (Nat.ne_of_lt (Nat.lt_of_lt_of_le hq hz))]
    exact a3.2 q hq
  · rcases List.mem_append.mp hq with hq | hq
    · exact a4 q hq
    · rw [List.mem_singleton.mp hq]; exact hz
theorem hs_arraylength (C : hp_B cc G) (hK : ∀ pc lv st h w k n, K pc lv st h w k n → hp_W G pc lv st h w k n) (hd : decode cc pc = .ok (.arraylength, 1)) {a N : Nat} {r : List Value} {ty : FieldType} {x : hp_X} (hst : st = .ref a :: r) (ha : h[a]? = some (.inl (ty, N, x))) (hi : K (pc + 1) lv (.int (Int32.ofNat N) :: r) h w k n) : hp_W G pc lv st h w k n := by
  subst hst
  intro σ H locs ls a1 a2 a3 a4 a5 a6 a7 a8 a9
  obtain ⟨cell, q1, q2, q3, q4, q5⟩ := a1.2.1 a _ ha
  refine W.alen (n := Int32.ofNat N) C.1 C.2.1 q1 q2 (by rw [q4]) rfl rfl hd ?_
  exact hK _ _ _ _ _ _ _ hi σ H locs ls a1 a2 a3 a4 a5 a6 (fun v hv => by rcases List.mem_cons.mp hv with e | e; (rw [e]; trivial); exact a7 v (List.mem_cons_of_mem _ e)) a8 a9
def hp_zero (ty : FieldType) : hp_X := match ty with
  | .long => .inr (.inl fun _ => 0)
  | _ => .inl fun _ => 0
theorem hs_newarray (C : hp_B cc G) (hK : ∀ pc lv st h w k n, K pc lv st h w k n → hp_W G pc lv st h w k n) {own : String} (O : hp_O own G) {t : ArrayType} {ty : FieldType} (hty : newarray.typeOf t = ty) (hty2 : ty = .long ∨ ty = .int ∨ ty = .boolean ∨ ty = .byte) (harr : Cond.arrayClass ty ∈ hp_Ts) (hd : decode cc pc = .ok (.newarray t, 2)) {x : Int32} {N : Nat} {r : List Value} (hst : st = .int x :: r)
    (hx : ¬ x < 0) (hN : x.toNatClampNeg = N) (hb : N * componentBytes ty ≤ 536870912) (hc1 : k + 1 ≤ (g_R G).cells) (hc2 : n + N ≤ (g_R G).slots) (hi : K (pc + 2) lv (.ref h.length :: r) (h ++ [.inl (ty, N, hp_zero ty)]) w (k + 1) (n + N)) : hp_W G pc lv st h w k n := by
  subst hst
  subst hty
  intro σ H locs ls a1 a2 a3 a4 a5 a6 a7 a8 a9
  refine W.newaK C.1 C.2.1 (O.1 _ harr) rfl hd rfl hx hN hb hc1 hc2 (h := H.size) rfl fun H' cA e1 e2 e3 e4 => ?_
  have hzH : g_z G ≤ H.size := Nat.le_trans O.2.2.2 a3.1
  have hlen : σ.length = h.length := a1.1
  have hgl : (σ ++ [H.size]).getD h.length 0 = H.size := by rw [← hlen]; simp
  have hat : hp_at (g_D G) (g_s G) (σ ++ [H.size]) (.inl (newarray.typeOf t, N, hp_zero (newarray.typeOf t))) H.size H' := by
    refine ⟨_, e1, ?_, (fun q => by cases q), arrV_size _ _ _, fun j hj => ?_⟩
    · have h4 := e4 N (fun _ => defaultValue (newarray.typeOf t))
      rcases hty2 with e | e | e | e <;> (rw [e] at h4 ⊢; exact h4)
    · rw [arrV_read _ _ hj]
      rcases hty2 with e | e | e | e <;> (rw [e]; exact ⟨rfl, trivial⟩)
  have hW := hK _ _ _ _ _ _ _ hi (σ ++ [H.size]) H' locs ls (hp_rep_push a1 hzH hat (fun q hq => e3 q hq) e2 (fun c2 h2 => by rw [e1] at h2; cases h2; rfl)) (hp_le_tr a2 (hp_le_push _)) ⟨by rw [e2]; exact Nat.le_trans a3.1 (Nat.le_succ _), fun q hq => by rw [e3 q (by omega)]; exact a3.2 q hq⟩ a4 a5 (hp_lv_mono (hp_le_push _) a6)
    (fun v hv => by
      rcases List.mem_cons.mp hv with e | e
      · rw [e]; show h.length < (σ ++ [H.size]).length; simp [hlen]
      · exact hp_ok_mono (hp_le_push _) (a7 v (List.mem_cons_of_mem _ e))) hc1 hc2
  have hmap : ((Value.ref h.length) :: r).map (hp_cv (σ ++ [H.size])) = .ref H.size :: r.map (hp_cv σ) := by
    rw [List.map_cons]
    refine congr (congrArg List.cons ?_) (List.map_congr_left fun v hv => hp_cv_mono (hp_le_push _) (a7 v (List.mem_cons_of_mem _ hv)))
    show Value.ref _ = _
    rw [hgl]
  rw [hmap] at hW
  exact hW
theorem hs_new (C : hp_B cc G) (hK : ∀ pc lv st h w k n, K pc lv st h w k n → hp_W G pc lv st h w k n) {own : String} (O : hp_O own G) (hco : hp_clsok) {ci idx : Nat} {r0 : vw_C} (hc : classes[ci]? = some r0) (hcl : Cond.classLink own idx r0.1 ∈ hp_Ts) (hd : decode cc pc = .ok (.new idx, 3))
    (hc1 : k + 1 ≤ (g_R G).cells) (hc2 : n + r0.2.2 ≤ (g_R G).slots) (hi : K (pc + 3) lv (.ref h.length :: st) (h ++ [.inr (ci, hp_new ci)]) w (k + 1) (n + r0.2.2)) : hp_W G pc lv st h w k n := by
  intro σ H locs ls a1 a2 a3 a4 a5 a6 a7 a8 a9
  obtain ⟨hts, hown, hKn, hzs⟩ := O
  obtain ⟨o1, o2, o3, o4, o5, o6, o7⟩ := hco ci _ hc
  have hKc := hKn.1 ci _ hc
  refine W.newcK C.1 C.2.1 hown (hts _ hcl) (hts _ o4) (hts _ o5) rfl hd hc1 hc2 hKc.2.1 (h := H.size) rfl fun H' kC hkC e1 e2 e3 => ?_
  have hzH : g_z G ≤ H.size := Nat.le_trans hzs a3.1
  have hlen : σ.length = h.length := a1.1
  have hgl : (σ ++ [H.size]).getD h.length 0 = H.size := by rw [← hlen]; simp
  obtain ⟨cell, b1, b2, b3, b4⟩ := u_born (hp_fty ci) hts o1 hKc hkC e1 o2
  have hdef : ∀ (t : FieldType) (τ : List Nat), hp_cv τ (defaultValue t) = defaultValue t ∧ hp_ok τ (defaultValue t) := fun t τ => by cases t <;> exact ⟨rfl, trivial⟩
  have hat : hp_at (g_D G) (g_s G) (σ ++ [H.size]) (.inr (ci, hp_new ci)) H.size H' := by
    refine ⟨r0, cell, hc, b1, b2, b3, fun j hj => ?_⟩
    rw [← o6 j hj, (hdef _ _).1]
    exact ⟨b4 j hj, (hdef _ _).2⟩
  have hW := hK _ _ _ _ _ _ _ hi (σ ++ [H.size]) H' locs ls (hp_rep_push a1 hzH hat (fun q hq => e3 q hq) e2 (fun c2 h2 => by rw [b1] at h2; cases h2; rw [b3]; rfl)) (hp_le_tr a2 (hp_le_push _)) ⟨by rw [e2]; exact Nat.le_trans a3.1 (Nat.le_succ _), fun q hq => by rw [e3 q (by omega)]; exact a3.2 q hq⟩ a4 a5 (hp_lv_mono (hp_le_push _) a6)
    (fun v hv => by
      rcases List.mem_cons.mp hv with e | e
      · rw [e]; show h.length < (σ ++ [H.size]).length; simp [hlen]
      · exact hp_ok_mono (hp_le_push _) (a7 v e)) hc1 hc2
  have hmap : ((Value.ref h.length) :: st).map (hp_cv (σ ++ [H.size])) = .ref H.size :: st.map (hp_cv σ) := by
    rw [List.map_cons]
    refine congr (congrArg List.cons ?_) (List.map_congr_left fun v hv => hp_cv_mono (hp_le_push _) (a7 v hv))
    show Value.ref _ = _
    rw [hgl]
  rw [hmap] at hW
  exact hW
theorem hp_mono_W {p : Program} {l : Launch} {e : Env} {R : Room} {s : State} {m : MethodId} {args : Array Value} {below : List Frame} {meth : Method} {c : Code} {H : Heap} {locs : List Loc} {cells slots : Nat} {Q Q' : State → Prop} {g : JFrame} (hQ : ∀ t, Q t → Q' t) (w : W p l e R s m args below meth c H locs cells slots Q g) : W p l e R s m args below meth c H locs cells slots Q' g := fun T hT X => by
  obtain ⟨t, a, b⟩ := w T hT X
  exact ⟨t, a, hQ t b⟩
/-- what a return leaves, but for the places written -/
def hp_E0 (G : hp_G) : Array Value → State → Outcome → State → Prop := fun _ s o t => ∃ (r : hp_R) (h' : hp_H) (σ' : List Nat), hp_le (g_σ G) σ' ∧ hp_out σ' r o t ∧ hp_rep (g_D G) (g_z G) t σ' h' t.heap ∧ hp_fr (g_z G) s.heap t.heap ∧ g_Q G r h'
theorem hp_Z_of {t : State} (h : MQ (g_b G) (hp_E0 G) (g_a G) (g_s G) (g_R G).cells (g_R G).slots (fun q => g_z G ≤ q ∧ g_w G = false) t) : hp_Z G t := by
  obtain ⟨o, h1, h2, ⟨r, h', σ', b1, b2, b3, b4, b5⟩, L, ⟨-, hW, hs⟩, hL⟩ := h
  refine ⟨o, h1, h2, r, h', σ', b1, b2, b3, b4, b5, hW, L, hs, fun q hq => (hL q hq).1, fun e => ?_⟩
  cases L with
  | nil => rfl
  | cons q _ =>
    have := (hL q List.mem_cons_self).2
    rw [e] at this
    cases this
/-- the method may end here: its mark keeps -/
def hp_end (G : hp_G) (w : Bool) (P : Prop) : Prop := cond (!(g_w G) || w) P False
theorem hp_end_of {P : Prop} (h : hp_end G w P) : (g_w G = true → w = true) ∧ P := by
  unfold hp_end at h
  cases hg : g_w G with
  | false =>
    rw [hg] at h
    exact ⟨(fun e => by cases e), (by cases w <;> exact h)⟩
  | true =>
    rw [hg] at h
    cases w with
    | true => exact ⟨fun _ => rfl, h⟩
    | false => exact False.elim h
theorem hp_ret {H : Heap} {locs : List Loc} {σ : List Nat} (a1 : hp_rep (g_D G) (g_z G) (g_s G) σ h H) (a2 : hp_le (g_σ G) σ) (a3 : hp_fr (g_z G) (g_s G).heap H) {r : hp_R} {o : Outcome} (ho : ∀ t : State, hp_out σ r o t) (hq : g_Q G r h) (t : State) (ht : t.heap = H) (hW : (g_s G).WarmedH t.vm) : hp_E0 G (g_a G) (g_s G) o t :=
  ⟨r, h, σ, a2, ho t, by rw [ht]; exact hp_rep_moved hW.alike a1, by rw [ht]; exact a3, hq⟩
theorem hp_fre {locs : List Loc} (a4 : ∀ q ∈ locs, g_z G ≤ q.base) (a5 : w = true → locs = []) (hw : g_w G = true → w = true) : ∀ q ∈ locs, (fun q => g_z G ≤ q ∧ g_w G = false) q.base := by
  intro q hq
  refine ⟨a4 q hq, ?_⟩
  cases hg : g_w G with
  | false => rfl
  | true =>
    rw [a5 (hw hg)] at hq
    cases hq
theorem hs_ireturn (C : hp_B cc G) (hK : ∀ pc lv st h w k n, K pc lv st h w k n → hp_W G pc lv st h w k n) {ty : FieldType} (hr : (g_me G).sig.returnType = some ty) (hlk : (g_me G).locks = false) (hd : decode cc pc = .ok (.ireturn, 1)) {x : Int32} (hst : st = [.int x]) (hi : narrow ty (.int x) = .int x ∧ hp_end G w (g_Q G (.inl (some (.int x))) h)) : hp_W G pc lv st h w k n := by
  subst hst
  obtain ⟨hn, hiq⟩ := hi
  obtain ⟨hw, hq⟩ := hp_end_of hiq
  intro σ H locs ls a1 a2 a3 a4 a5 a6 a7 a8 a9
  refine W.widen a8 a9 (hp_mono_W (fun t => hp_Z_of) ?_)
  exact W.zret C.1 C.2.1 hr hn (hp_ret (locs := locs) a1 a2 a3 (r := .inl (some (.int x))) (fun _ => ⟨trivial, rfl⟩) hq) (hp_fre a4 a5 hw) hd hlk
theorem hs_lreturn (C : hp_B cc G) (hK : ∀ pc lv st h w k n, K pc lv st h w k n → hp_W G pc lv st h w k n) (hr : (g_me G).sig.returnType = some .long) (hlk : (g_me G).locks = false) (hd : decode cc pc = .ok (.lreturn, 1)) {x : Int64} (hst : st = [.long x]) (hi : hp_end G w (g_Q G (.inl (some (.long x))) h)) : hp_W G pc lv st h w k n := by
  subst hst
  skip
  obtain ⟨hw, hq⟩ := hp_end_of hi
  intro σ H locs ls a1 a2 a3 a4 a5 a6 a7 a8 a9
  refine W.widen a8 a9 (hp_mono_W (fun t => hp_Z_of) ?_)
  exact W.lret C.1 C.2.1 hr (hp_ret (locs := locs) a1 a2 a3 (r := .inl (some (.long x))) (fun _ => ⟨trivial, rfl⟩) hq) (hp_fre a4 a5 hw) hd hlk
theorem hs_return (C : hp_B cc G) (hK : ∀ pc lv st h w k n, K pc lv st h w k n → hp_W G pc lv st h w k n) (hr : (g_me G).sig.returnType = none) (hlk : (g_me G).locks = false) (hd : decode cc pc = .ok (.return_, 1)) (hst : st = []) (hi : hp_end G w (g_Q G (.inl none) h)) : hp_W G pc lv st h w k n := by
  subst hst
  obtain ⟨hw, hq⟩ := hp_end_of hi
  intro σ H locs ls a1 a2 a3 a4 a5 a6 a7 a8 a9
  refine W.widen a8 a9 (hp_mono_W (fun t => hp_Z_of) ?_)
  exact W.vret C.1 C.2.1 hr (hp_ret (locs := locs) a1 a2 a3 (r := .inl none) (fun _ => rfl) hq) (hp_fre a4 a5 hw) hd hlk
theorem hs_areturn (C : hp_B cc G) (hK : ∀ pc lv st h w k n, K pc lv st h w k n → hp_W G pc lv st h w k n) {rt : FieldType} (hr : (g_me G).sig.returnType = some rt) (hrt : (∃ n, rt = .object n) ∨ ∃ t, rt = .array t) (hlk : (g_me G).locks = false) (hd : decode cc pc = .ok (.areturn, 1)) {x : Nat} (hst : st = [.ref x]) (hi : hp_end G w (g_Q G (.inl (some (.ref x))) h)) : hp_W G pc lv st h w k n := by
  subst hst
  obtain ⟨hw, hq⟩ := hp_end_of hi
  intro σ H locs ls a1 a2 a3 a4 a5 a6 a7 a8 a9
  refine W.widen a8 a9 (hp_mono_W (fun t => hp_Z_of) ?_)
  exact W.aret C.1 C.2.1 hr hrt (Or.inr ⟨_, rfl⟩) (hp_ret (locs := locs) a1 a2 a3 (r := .inl (some (.ref x))) (fun _ => ⟨a7 _ List.mem_cons_self, rfl⟩) hq) (hp_fre a4 a5 hw) hd hlk
end HpM
end
section
/-! CALLS. Y: a method: its name, bytes, locals, answer's type, handlers; the frames and words below it; how many arguments. -/
abbrev hp_Y : Type := MethodName × ByteArray × Nat × Option FieldType × List (Nat × Nat × Nat × Nat) × Nat × Nat × Nat
abbrev y_nm (Y : hp_Y) : MethodName := Y.1
abbrev y_cc (Y : hp_Y) : ByteArray := Y.2.1
abbrev y_mx (Y : hp_Y) : Nat := Y.2.2.1
abbrev y_rt (Y : hp_Y) : Option FieldType := Y.2.2.2.1
abbrev y_hd (Y : hp_Y) : List (Nat × Nat × Nat × Nat) := Y.2.2.2.2.1
abbrev y_fr (Y : hp_Y) : Nat := Y.2.2.2.2.2.1
abbrev y_lo (Y : hp_Y) : Nat := Y.2.2.2.2.2.2.1
abbrev y_na (Y : hp_Y) : Nat := Y.2.2.2.2.2.2.2
def hp_cd (Y : hp_Y) : Jvm.Cond := match y_hd Y with
  | [] => .code (y_nm Y) (y_cc Y) (y_mx Y) (y_rt Y)
  | q :: hh => .codeWith (y_nm Y) (y_cc Y) (y_mx Y) (y_rt Y) (q :: hh)
theorem hp_cd_spec {Y : hp_Y} {args : Array Value} {s : State} {mk : MethodId} (hn : s.methodNamed? (y_nm Y) = some mk) (h : (hp_cd Y).before args s = true) :
    ∃ meth c, s.vm.method? mk = some meth ∧ meth.code = some c ∧ c.code = y_cc Y ∧ c.maxLocals = y_mx Y ∧ meth.sig.returnType = y_rt Y ∧ meth.locks = false ∧ c.exceptionTable.toList.map (fun h => (h.startPc, h.endPc, h.handlerPc, h.catchType)) = y_hd Y ∧ parseMethodDescriptor (y_nm Y).desc = some meth.sig := by
  unfold hp_cd at h
  split at h
  next e =>
    obtain ⟨meth, c, h1, h2, h3, h4, h5, h6, h7, h8⟩ := Cond.code_spec hn h
    have h0 : c.exceptionTable.size = 0 := by simpa [Array.isEmpty] using h7
    have h9 : c.exceptionTable.toList = [] := List.eq_nil_of_length_eq_zero (by simpa using h0)
    exact ⟨meth, c, h1, h2, h3, h4, h5, h6, by rw [h9, e]; rfl, h8⟩
  next q hh e =>
    obtain ⟨m9, meth, c, hn9, h1, h2, h3, h4, h7, h5, h6, h8⟩ := Cond.codeWith_spec h
    cases hn.symm.trans hn9
    exact ⟨meth, c, h1, h2, h3, h4, h5, h6, by rw [h7, e], h8⟩
def hp_noT (l : Launch) : Prop := ∀ e : Env, l.admits e → e.platform.stackTraces = false
/-- what a throw finds outside the places, in every later state too -/
def hp_thr (z : Nat) (U : State) : Prop := ∀ V : State, U.WarmedH V.vm → (∀ q : Nat, q < z → V.heap[q]? = U.heap[q]?) → (∀ w ∈ hp_Ts, ∀ a : Array Value, w.before a V = true) ∧ (∀ q ∈ hp_strs, ∃ sa : Nat, vk_R q.1 q.2.1 q.2.2 sa V) ∧ ∀ q ∈ hp_ncs, va_Nc q.1 q.2 V
theorem hp_thr_moved {z : Nat} {U V : State} (h : hp_thr z U) (hW : U.WarmedH V.vm) (hh : ∀ q : Nat, q < z → V.heap[q]? = U.heap[q]?) : hp_thr z V :=
  fun X hX hq => h X (State.WarmedH.trans hW hX) (fun q hz => (hq q hz).trans (hh q hz))
def hp_pre (D : va_G) (z : Nat) (σ : List Nat) (h : hp_H) (U : State) : Prop := hp_rep D z U σ h U.heap ∧ va_K D classes [] U ∧ z ≤ U.heap.size ∧ hp_thr z U
/-- THE CONTRACT of a call: with these arguments, in this heap: it ends as Q says; at most dk cells of dn slots are new; w: nothing that was there is written -/
def hp_M (l : Launch) (Y : hp_Y) (av : List Value) (h : hp_H) (w : Bool) (dk dn : Nat) (Q : hp_R → hp_H → Prop) : Prop :=
  hp_noT l → ∀ (D : va_G) (z : Nat) (σ : List Nat), MetFree l (y_nm Y) (headSpec [hp_cd Y] { frames := y_fr Y, cells := dk, slots := dn, locals := y_lo Y })
    (fun a U => a = (av.map (hp_cv σ)).toArray ∧ (∀ v ∈ av, hp_ok σ v) ∧ hp_pre D z σ h U) (fun _ _ _ _ _ => True) (fun _ s o t => hp_E D z σ w Q dk dn s o t)
theorem hp_M_weak {l : Launch} {Y : hp_Y} {av : List Value} {h : hp_H} {w : Bool} {dk dn : Nat} {Q Q' : hp_R → hp_H → Prop} (hM : hp_M l Y av h w dk dn Q) (hQ : ∀ r h', Q r h' → Q' r h') : hp_M l Y av h w dk dn Q' := by
  intro ht D z σ p e ha hc hk s m args below hf happ hP hT
  obtain ⟨n, o, h1, h2, h3, r, h', σ', b1, b2, b3, b4, b5, b6⟩ := hM ht D z σ p e ha hc hk s m args below hf happ hP hT
  exact ⟨n, o, h1, h2, h3, r, h', σ', b1, b2, b3, b4, hQ r h' b5, b6⟩
section HpC
variable {G : hp_G} {cc : ByteArray} {pc : Nat} {lv : hp_L} {st : List Value} {h : hp_H} {w : Bool} {k n : Nat} {K : hp_K}
/-- the invoking instruction itself: the callee is entered with these arguments -/
def hp_inv (G : hp_G) (pc : Nat) (ls : Array Slot) (H : Heap) (st rest : List Value) (mk : MethodId) (av : List Value) : Prop :=
  ∀ (T : State) (locs : List Loc) (k n : Nat), T.heap = H → Stand (g_p G) (g_l G) (g_e G) (g_R G) (g_s G) (g_m G) (g_a G) (g_b G) (g_me G) (g_c G) T locs k n →
    ∃ vm₁ : Vm, Stand (g_p G) (g_l G) (g_e G) (g_R G) (g_s G) (g_m G) (g_a G) (g_b G) (g_me G) (g_c G) (T.setVm vm₁) locs k n ∧
      ∀ target, (∀ acts, Steps (g_p G).tables (g_e G) (g_b G) (doInvoke (g_e G) ((T.setVm vm₁).setTop (F0 (g_m G) pc ls rest)) acts mk av.toArray).1 target) → Steps (g_p G).tables (g_e G) (g_b G) (T.setTop (F0 (g_m G) pc ls st)) target
/-- what a thrown exception comes to in this method -/
def hp_catch (G : hp_G) (pc : Nat) (h : hp_H) (w : Bool) (k n : Nat) (ci : Nat) (lv : hp_L) : Prop :=
  ∀ (T : State) (locs : List Loc) (ls : Array Slot) (σ : List Nat) (rest : List Value) (x : Addr) (cell : Cell), hp_rep (g_D G) (g_z G) (g_s G) σ h T.heap → hp_le (g_σ G) σ → hp_fr (g_z G) (g_s G).heap T.heap → (∀ q ∈ locs, g_z G ≤ q.base) → (w = true → locs = []) →
    hp_lv σ (g_n G) lv ls → k ≤ (g_R G).cells → n ≤ (g_R G).slots → T.heap[x]? = some cell → cell.vm = .none → (g_s G).vm.findClass (hp_exn ci) = some cell.cls →
    Stand (g_p G) (g_l G) (g_e G) (g_R G) (g_s G) (g_m G) (g_a G) (g_b G) (g_me G) (g_c G) T locs k n →
    ∃ t, Steps (g_p G).tables (g_e G) (g_b G) ((T.setTop (F0 (g_m G) pc ls rest)).pushFrame (.throwing x)) t ∧ hp_Z G t
/-- no handler of this method's is round it: the method ends -/
theorem hp_catch_out (hlk : (g_me G).locks = false) (hout : ∀ x ∈ (g_c G).exceptionTable.toList, covers x pc = false) {ci : Nat} (hi : hp_end G w (g_Q G (.inr ci) h)) : hp_catch G pc h w k n ci lv := by
  intro T locs ls σ rest x cell a1 a2 a3 a4 a5 a6 a8 a9 c1 c2 c3 X
  obtain ⟨hw, hq⟩ := hp_end_of hi
  obtain ⟨s1, s2, s3, s4, s5⟩ := X.leaveThrown x (g := F0 (g_m G) pc ls rest) rfl rfl rfl hout hlk
  refine ⟨_, s1, .threw x, s2, s3, .inr ci, h, σ, a2, ⟨x, cell, rfl, c1, c2, ?_⟩, hp_rep_moved s4.alike a1, a3, hq, s4, locs, State.sameButNew.mono s5 a8 a9, a4, fun e => a5 (hw e)⟩
  rw [s4.alike.findClass]
  exact c3
theorem hp_call (C : hp_B cc G) (hK : ∀ pc lv st h w k n, K pc lv st h w k n → hp_W G pc lv st h w k n) {own : String} (O : hp_O own G) (hnt : hp_noT (g_l G)) (hth : hp_thr (g_z G) (g_s G)) {Y : hp_Y} {av rest : List Value} {wy : Bool} {dk dn : Nat} {Qy : hp_R → hp_H → Prop} (hM : hp_M (g_l G) Y av h wy dk dn Qy)
    {ins : Instr} (hd : decode cc pc = .ok (ins, 3)) (hcd : hp_cd Y ∈ hp_Ts) (hini : Jvm.Cond.initialized (y_nm Y).cls ∈ hp_Ts) (hfr : y_fr Y + 1 ≤ (g_R G).frames) (hlo : (rest.map fun v => v.category).sum + (y_mx Y + 11) + y_lo Y ≤ (g_R G).locals) (hc1 : k + dk ≤ (g_R G).cells) (hc2 : n + dn ≤ (g_R G).slots)
    (hst : ∀ v ∈ rest, v ∈ st) (hav : ∀ v ∈ av, v ∈ st)
    (hinv : ∀ (σ : List Nat) (H : Heap) (ls : Array Slot), hp_rep (g_D G) (g_z G) (g_s G) σ h H → ls.size = g_n G → ∃ mk, (g_s G).methodNamed? (y_nm Y) = some mk ∧ hp_inv G pc ls H (st.map (hp_cv σ)) (rest.map (hp_cv σ)) mk (av.map (hp_cv σ)))
    (hi : ∀ r h', Qy r h' → match r with
      | .inl v => K (pc + 3) lv (v.toList ++ rest) h' (w && wy) (k + dk) (n + dn)
      | .inr ci => hp_catch G pc h' (w && wy) (k + dk) (n + dn) ci lv) : hp_W G pc lv st h w k n := by
  intro σ H locs ls a1 a2 a3 a4 a5 a6 a7 a8 a9 T hT X0
  obtain ⟨mk, hnamed, hin⟩ := hinv σ H ls a1 a6.1
  obtain ⟨vm₁, X, hstep⟩ := hin T locs k n hT X0
  obtain ⟨hts, hown, hKn, hzs⟩ := O
  have hU : (T.setVm vm₁).heap = H := hT
  have hwd : ∀ w' ∈ hp_Ts, ∀ a', w'.before a' (T.setVm vm₁) = true := (hth (T.setVm vm₁) X.warmed (fun q hq => by rw [hU]; exact a3.2 q hq)).1
  have hn2 : (T.setVm vm₁).methodNamed? (y_nm Y) = some mk := X.named hnamed
  obtain ⟨methY, cY, m1, m2, m3, m4, m5, m6, m7, m8⟩ := hp_cd_spec hn2 (hwd _ hcd #[])
  obtain ⟨kY, hkY, -⟩ := className_of_methodNamed hn2
  have hinitY : kY.init = .initialized := Cond.initialized_spec (findClass_of_methodNamed hn2) hkY (hwd _ hini #[])
  have hsize : (F0 (g_m G) pc ls (rest.map (hp_cv σ))).locals.size = (g_c G).maxLocals := a6.1.trans C.2.2.symm
  have hdc : decode (g_c G).code pc = .ok (ins, 3) := by rw [C.2.1]; exact hd
  have hcat : ((rest.map (hp_cv σ)).map fun v => v.category) = rest.map fun v => v.category := by
    rw [List.map_map]
    exact List.map_congr_left fun v _ => hp_cv_cat σ v
  have hroom := X.room_calling (g := F0 (g_m G) pc ls (rest.map (hp_cv σ))) (args' := (av.map (hp_cv σ)).toArray) (R' := { frames := y_fr Y, cells := dk, slots := dn, locals := y_lo Y }) hsize m1 m2 hfr (by show 2 * 0 + ((rest.map (hp_cv σ)).map fun v => v.category).sum + _ + _ ≤ _; rw [hcat, m4]; show _ + y_lo Y ≤ _; omega) hc1 hc2
  have happ : (headSpec [hp_cd Y] { frames := y_fr Y, cells := dk, slots := dn, locals := y_lo Y }).appliesLoose (y_nm Y) (g_e G).platform ((T.setVm vm₁).calling (F0 (g_m G) pc ls (rest.map (hp_cv σ))) mk (av.map (hp_cv σ)).toArray) = true :=
    Spec.appliesLoose_calling (g := F0 (g_m G) pc ls (rest.map (hp_cv σ))) X.here hdc hn2 hkY hinitY hroom (atoms_intro (fun w' hw' => by rw [List.mem_singleton.mp hw']; exact hwd _ hcd _))
  obtain ⟨mid, hmid⟩ := X.here.above
  have hframes : ((T.setVm vm₁).setTop (F0 (g_m G) pc ls (rest.map (hp_cv σ)))).frames = (.java (F0 (g_m G) pc ls (rest.map (hp_cv σ))) :: mid) ++ g_b G := by rw [State.frames_setTop' _ X.here.top, hmid]; rfl
  have hpre : hp_pre (g_D G) (g_z G) σ h ((T.setVm vm₁).calling (F0 (g_m G) pc ls (rest.map (hp_cv σ))) mk (av.map (hp_cv σ)).toArray) := by
    refine ⟨?_, va_K.moved X.warmed.alike hKn, ?_, hp_thr_moved hth X.warmed (fun q hq => ?_)⟩
    · show hp_rep _ _ _ σ h (T.setVm vm₁).heap
      rw [hU]
      exact hp_rep_moved X.warmed.alike a1
    · show _ ≤ (T.setVm vm₁).heap.size
      rw [hU]
      exact Nat.le_trans hzs a3.1
    · show (T.setVm vm₁).heap[q]? = _
      rw [hU]
      exact a3.2 q hq
  obtain ⟨o, s₂, hsteps, -, hend, hq⟩ := Steps.callFree (hM hnt (g_D G) (g_z G) σ) (g_p G) X.admits X.cas X.clock (acts := []) hframes happ ⟨rfl, fun v hv => a7 v (hav v hv), hpre⟩ trivial
  rw [State.frames_setTop' _ X.here.top, X.tail] at hend
  have hsteps2 : ∀ target, Steps (g_p G).tables (g_e G) (g_b G) s₂ target → Steps (g_p G).tables (g_e G) (g_b G) (T.setTop (F0 (g_m G) pc ls (st.map (hp_cv σ)))) target := fun target ht => hstep target fun acts => by
    rw [doInvoke_state]
    exact hsteps.trans ht
  obtain ⟨r, h', σ', b1, b2, b3, b4, b5, b6, L, b7, b8, b9⟩ := hq
  have hmap : (rest.map (hp_cv σ)) = rest.map (hp_cv σ') := List.map_congr_left fun v hv => (hp_cv_mono b1 (a7 v (hst v hv))).symm
  have hfr3 : hp_fr (g_z G) (g_s G).heap s₂.heap := by
    have b4' : hp_fr (g_z G) H s₂.heap := by rw [← hU]; exact b4
    exact hp_fr_tr a3 b4'
  have hlocs : ∀ q ∈ locs ++ L, g_z G ≤ q.base := fun q hq => by
    rcases List.mem_append.mp hq with e | e
    · exact a4 q e
    · exact b8 q e
  have hnil : (w && wy) = true → locs ++ L = [] := fun e => by
    rw [Bool.and_eq_true] at e
    rw [a5 e.1, b9 e.2]; rfl
  have hi' := hi r h' b5
  match r, b2, hi' with
  | .inl v, b2, hi' =>
    have hv2 : o = .returned (v.map (hp_cv σ')) ∧ ∀ x ∈ v.toList, hp_ok σ' x := by
      cases v with
      | none => exact ⟨b2, fun x hx => by cases hx⟩
      | some v => exact ⟨b2.2, fun x hx => by rw [Option.mem_toList] at hx; cases hx; exact b2.1⟩
    obtain ⟨rfl, hv3⟩ := hv2
    obtain ⟨T', X', hW', hs', ht⟩ := X.outOf (g := F0 (g_m G) pc ls (rest.map (hp_cv σ))) rfl hdc hend b6 b7
    have hh2 : s₂.heap = T'.heap := by rw [ht]; simp
    have hv4 : s₂.vm = T'.vm := by rw [ht]; simp
    have hal : (g_s G).vm.Alike s₂.vm := by rw [hv4]; exact X'.warmed.alike
    have hW2 := hK _ _ _ _ _ _ _ hi' σ' T'.heap (locs ++ L) ls (by rw [← hh2]; exact hp_rep_moved (u := s₂) hal.symm b3) (hp_le_tr a2 b1) (by rw [← hh2]; exact hfr3) hlocs hnil (hp_lv_mono b1 a6)
      (fun x hx => by
        rcases List.mem_append.mp hx with e | e
        · exact hv3 x e
        · exact hp_ok_mono b1 (a7 x (hst x e))) hc1 hc2 T' rfl X'
    obtain ⟨t, t1, t2⟩ := hW2
    refine ⟨t, hsteps2 t ?_, t2⟩
    rw [ht]
    have e1 : (v.map (hp_cv σ')).toList ++ rest.map (hp_cv σ) = (v.toList ++ rest).map (hp_cv σ') := by
      rw [List.map_append, hmap]
      cases v <;> rfl
    show Steps _ _ _ (T'.setTop (F0 (g_m G) (pc + 3) ls ((v.map (hp_cv σ')).toList ++ rest.map (hp_cv σ)))) t
    rw [e1]
    exact t1
  | .inr ci, b2, hi' =>
    obtain ⟨x, cell, rfl, c1, c2, c3⟩ := b2
    obtain ⟨T', X', hW', hs', ht⟩ := X.outOfThrown (g := F0 (g_m G) pc ls (rest.map (hp_cv σ))) rfl hend b6 b7
    have hh2 : s₂.heap = T'.heap := by rw [ht]; exact Stand.throwing_heap _ _ _
    have hv4 : s₂.vm = T'.vm := by rw [ht]; exact Stand.throwing_vm _ _ _
    have hal : (g_s G).vm.Alike s₂.vm := by rw [hv4]; exact X'.warmed.alike
    obtain ⟨t, t1, t2⟩ := hi' T' (locs ++ L) ls σ' (rest.map (hp_cv σ)) x cell (by rw [← hh2]; exact hp_rep_moved (u := s₂) hal.symm b3) (hp_le_tr a2 b1) (by rw [← hh2]; exact hfr3) hlocs hnil (hp_lv_mono b1 a6) hc1 hc2 (by rw [← hh2]; exact c1) c2 (by rw [← hal.findClass]; exact c3) X'
    refine ⟨t, hsteps2 t ?_, t2⟩
    rw [ht]
    exact t1
end HpC
section HpV
variable {G : hp_G} {cc : ByteArray} {pc : Nat}
theorem hp_cd_named {Y : hp_Y} {args : Array Value} {s : State} (h : (hp_cd Y).before args s = true) : ∃ mk, s.methodNamed? (y_nm Y) = some mk := by
  unfold hp_cd at h
  split at h
  next e => exact Cond.code_named h
  next q hh e =>
    obtain ⟨m9, meth, c, hn9, -⟩ := Cond.codeWith_spec h
    exact ⟨m9, hn9⟩
def hp_notMH (Y : hp_Y) : Prop := (y_nm Y).cls ≠ "java/lang/invoke/MethodHandle" ∧ (y_nm Y).cls ≠ "java/lang/invoke/VarHandle"
def hp_np (Y : hp_Y) : Prop := (parseMethodDescriptor (y_nm Y).desc).map (fun d => d.parameters.length) = some (y_na Y)
theorem hp_np_of {Y : hp_Y} (h : hp_np Y) {sig : MethodDescriptor} (hs : parseMethodDescriptor (y_nm Y).desc = some sig) : y_na Y = sig.parameters.length := by
  unfold hp_np at h
  rw [hs] at h
  exact (Option.some.inj h).symm
theorem hp_inv_S (C : hp_B cc G) {own : String} (O : hp_O own G) {Y : hp_Y} {idx : Nat} (hcd : hp_cd Y ∈ hp_Ts) (hlink : Jvm.Cond.methodLink own idx (y_nm Y) ∈ hp_Ts) (hstat : Jvm.Cond.static (y_nm Y) ∈ hp_Ts) (hini : Jvm.Cond.initialized (y_nm Y).cls ∈ hp_Ts) (hy : hp_notMH Y) (hnp : hp_np Y)
    (hd : decode cc pc = .ok (.invokestatic idx, 3)) {av rest : List Value} (hn : av.length = y_na Y) (ls : Array Slot) (H : Heap) : ∃ mk, (g_s G).methodNamed? (y_nm Y) = some mk ∧ hp_inv G pc ls H (av.reverse ++ rest) rest mk av := by
  obtain ⟨hts, hown, -, -⟩ := O
  obtain ⟨mk, hnamed⟩ := hp_cd_named (hts _ hcd)
  obtain ⟨methM, cM, m1, m2, m3, m4, m5, m6, m7, m8⟩ := hp_cd_spec hnamed (hts _ hcd)
  have hstatic : methM.isStatic = true := Cond.static_spec hnamed m1 (hts _ hstat)
  obtain ⟨kP, hkP, -⟩ := className_of_methodNamed hnamed
  have hinitP : kP.init = .initialized := Cond.initialized_spec (findClass_of_methodNamed hnamed) hkP (hts _ hini)
  refine ⟨mk, hnamed, fun T locs k n hT X => ?_⟩
  obtain ⟨vm₁, X₁, hstep₁⟩ := X.invokestatic C.1 hown (hts _ hlink) hnamed m1 hstatic hkP hinitP hy (g := F0 (g_m G) pc ls (av.reverse ++ rest)) rfl (argsL := av) (rest := rest) (hn.trans (hp_np_of hnp m8)) rfl (by rw [C.2.1]; exact hd)
  exact ⟨vm₁, X₁, fun target ht => hstep₁ target ht⟩
theorem hp_inv_SN (C : hp_B cc G) {own host : String} (O : hp_O own G) {Y : hp_Y} {idx : Nat} (hcd : hp_cd Y ∈ hp_Ts) (hlink : Jvm.Cond.methodLinkNest own idx (y_nm Y) host ∈ hp_Ts) (hstat : Jvm.Cond.static (y_nm Y) ∈ hp_Ts) (hini : Jvm.Cond.initialized (y_nm Y).cls ∈ hp_Ts) (hy : hp_notMH Y) (hnp : hp_np Y)
    (hd : decode cc pc = .ok (.invokestatic idx, 3)) {av rest : List Value} (hn : av.length = y_na Y) (ls : Array Slot) (H : Heap) : ∃ mk, (g_s G).methodNamed? (y_nm Y) = some mk ∧ hp_inv G pc ls H (av.reverse ++ rest) rest mk av := by
  obtain ⟨hts, hown, -, -⟩ := O
  obtain ⟨mk, hnamed⟩ := hp_cd_named (hts _ hcd)
  obtain ⟨methM, cM, m1, m2, m3, m4, m5, m6, m7, m8⟩ := hp_cd_spec hnamed (hts _ hcd)
  have hstatic : methM.isStatic = true := Cond.static_spec hnamed m1 (hts _ hstat)
  obtain ⟨kP, hkP, -⟩ := className_of_methodNamed hnamed
  have hinitP : kP.init = .initialized := Cond.initialized_spec (findClass_of_methodNamed hnamed) hkP (hts _ hini)
  refine ⟨mk, hnamed, fun T locs k n hT X => ?_⟩
  obtain ⟨vm₁, X₁, hstep₁⟩ := X.invokestaticNest C.1 hown (hts _ hlink) hnamed m1 hstatic hkP hinitP hy (g := F0 (g_m G) pc ls (av.reverse ++ rest)) rfl (argsL := av) (rest := rest) (hn.trans (hp_np_of hnp m8)) rfl (by rw [C.2.1]; exact hd)
  exact ⟨vm₁, X₁, fun target ht => hstep₁ target ht⟩
theorem hp_inv_V (C : hp_B cc G) {own : String} (O : hp_O own G) {Y : hp_Y} {idx : Nat} (hcd : hp_cd Y ∈ hp_Ts) (hlink : Jvm.Cond.methodLink own idx (y_nm Y) ∈ hp_Ts) (hinst : Jvm.Cond.instanceMethod (y_nm Y) ∈ hp_Ts) (hsel : Jvm.Cond.selects (y_nm Y).cls (y_nm Y) (y_nm Y) ∈ hp_Ts) (hy : hp_notMH Y) (hnp : hp_np Y)
    (hd : decode cc pc = .ok (.invokevirtual idx, 3)) {av rest : List Value} (hn : av.length = y_na Y) (ls : Array Slot) {H : Heap} {b : Addr} {cellB : Cell} (hcell : H[b]? = some cellB) (hobj : cellB.vm.isStatics = false) (hcls : (g_s G).vm.findClass (y_nm Y).cls = some cellB.cls) : ∃ mk, (g_s G).methodNamed? (y_nm Y) = some mk ∧ hp_inv G pc ls H (av.reverse ++ .ref b :: rest) rest mk (.ref b :: av) := by
  obtain ⟨hts, hown, -, -⟩ := O
  obtain ⟨mk, methM, hnamed, hmethM, hstM, habM⟩ := Cond.instanceMethod_spec (hts _ hinst)
  obtain ⟨methM', cM, m1, m2, m3, m4, m5, m6, m7, m8⟩ := hp_cd_spec hnamed (hts _ hcd)
  cases hmethM.symm.trans m1
  obtain ⟨c2, r2, m9, q1, q2, q3, q4, kP, hkP, hkPi⟩ := Cond.selects_spec (hts _ hsel)
  cases hcls.symm.trans q1
  cases (State.methodFound?_of_named hnamed hy).symm.trans q2
  cases hnamed.symm.trans q3
  refine ⟨mk, hnamed, fun T locs k n hT X => ?_⟩
  have hselP : selectMethod (g_e G).platform (g_s G).vm cellB.cls mk = .method mk := by rw [Launch.admits_selectMethod X.admits]; exact q4
  obtain ⟨vm₁, X₁, hstep₁⟩ := X.invokevirtual C.1 hown (hts _ hlink) hnamed hmethM hstM hkP hkPi hy (a := b) (cell := cellB) (by rw [hT]; exact hcell)
    (fun z h => by rw [h] at hobj; cases hobj) hselP hmethM habM hkP hkPi (g := F0 (g_m G) pc ls (av.reverse ++ .ref b :: rest)) rfl (argsL := av) (rest := rest) (hn.trans (hp_np_of hnp m8)) rfl (by rw [C.2.1]; exact hd)
  exact ⟨vm₁, X₁, fun target ht => hstep₁ target ht⟩
theorem hp_inv_VN (C : hp_B cc G) {own host : String} (O : hp_O own G) {Y : hp_Y} {idx : Nat} (hcd : hp_cd Y ∈ hp_Ts) (hlink : Jvm.Cond.methodLinkNest own idx (y_nm Y) host ∈ hp_Ts) (hinst : Jvm.Cond.instanceMethod (y_nm Y) ∈ hp_Ts) (hsel : Jvm.Cond.selects (y_nm Y).cls (y_nm Y) (y_nm Y) ∈ hp_Ts) (hy : hp_notMH Y) (hnp : hp_np Y)
    (hd : decode cc pc = .ok (.invokevirtual idx, 3)) {av rest : List Value} (hn : av.length = y_na Y) (ls : Array Slot) {H : Heap} {b : Addr} {cellB : Cell} (hcell : H[b]? = some cellB) (hobj : cellB.vm.isStatics = false) (hcls : (g_s G).vm.findClass (y_nm Y).cls = some cellB.cls) : ∃ mk, (g_s G).methodNamed? (y_nm Y) = some mk ∧ hp_inv G pc ls H (av.reverse ++ .ref b :: rest) rest mk (.ref b :: av) := by
  obtain ⟨hts, hown, -, -⟩ := O
  obtain ⟨mk, methM, hnamed, hmethM, hstM, habM⟩ := Cond.instanceMethod_spec (hts _ hinst)
  obtain ⟨methM', cM, m1, m2, m3, m4, m5, m6, m7, m8⟩ := hp_cd_spec hnamed (hts _ hcd)
  cases hmethM.symm.trans m1
  obtain ⟨c2, r2, m9, q1, q2, q3, q4, kP, hkP, hkPi⟩ := Cond.selects_spec (hts _ hsel)
  cases hcls.symm.trans q1
  cases (State.methodFound?_of_named hnamed hy).symm.trans q2
  cases hnamed.symm.trans q3
  refine ⟨mk, hnamed, fun T locs k n hT X => ?_⟩
  have hselP : selectMethod (g_e G).platform (g_s G).vm cellB.cls mk = .method mk := by rw [Launch.admits_selectMethod X.admits]; exact q4
  obtain ⟨vm₁, X₁, hstep₁⟩ := X.invokevirtualNest C.1 hown (hts _ hlink) hnamed hmethM hstM hkP hkPi hy (a := b) (cell := cellB) (by rw [hT]; exact hcell)
    (fun z h => by rw [h] at hobj; cases hobj) hselP hmethM habM hkP hkPi (g := F0 (g_m G) pc ls (av.reverse ++ .ref b :: rest)) rfl (argsL := av) (rest := rest) (hn.trans (hp_np_of hnp m8)) rfl (by rw [C.2.1]; exact hd)
  exact ⟨vm₁, X₁, fun target ht => hstep₁ target ht⟩
theorem hp_inv_I (C : hp_B cc G) {own : String} (O : hp_O own G) {Y : hp_Y} {idx : Nat} (hcd : hp_cd Y ∈ hp_Ts) (hhd : y_hd Y = []) (hrt : y_rt Y = none) (hlink : Jvm.Cond.methodLink own idx (y_nm Y) ∈ hp_Ts) (hinst : Jvm.Cond.instanceMethod (y_nm Y) ∈ hp_Ts) (hnm : (y_nm Y).name = "<init>") (hy : hp_notMH Y) (hnp : hp_np Y)
    (hd : decode cc pc = .ok (.invokespecial idx, 3)) {av rest : List Value} (hn : av.length = y_na Y) (ls : Array Slot) {H : Heap} {b : Addr} : ∃ mk, (g_s G).methodNamed? (y_nm Y) = some mk ∧ hp_inv G pc ls H (av.reverse ++ .ref b :: rest) rest mk (.ref b :: av) := by
  obtain ⟨hts, hown, -, -⟩ := O
  have hcd2 : hp_cd Y = .code (y_nm Y) (y_cc Y) (y_mx Y) none := by unfold hp_cd; rw [hhd, hrt]
  rw [hcd2] at hcd
  obtain ⟨mk, hnamed⟩ := Cond.code_named (hts _ hcd)
  refine ⟨mk, hnamed, fun T locs k n hT X => ?_⟩
  have hpl : (g_e G).platform.magicAccessors = ({} : Platform).magicAccessors := by rw [X.admits.platform]
  obtain ⟨mk2, methM, cM, kP, vm₁, hnamed2, hmethM, hcodeM, -, hlocalsM, -, hkP, -, hW₁, hstep₁⟩ := Steps.initColdArgs (e := g_e G) X.here C.1 X.warmed hpl hown hnm hy (hts _ hlink) (hts _ hinst) (hts _ hcd) (f := F0 (g_m G) pc ls (av.reverse ++ .ref b :: rest)) rfl (fun sig hs => hn.trans (hp_np_of hnp hs)) (argsL := av) (rest := rest) rfl (by rw [C.2.1]; exact hd)
  cases hnamed.symm.trans hnamed2
  exact ⟨vm₁, X.noted hW₁, fun target ht => hstep₁ target ht⟩
theorem hp_inv_IN (C : hp_B cc G) {own host : String} (O : hp_O own G) {Y : hp_Y} {idx : Nat} (hcd : hp_cd Y ∈ hp_Ts) (hhd : y_hd Y = []) (hrt : y_rt Y = none) (hlink : Jvm.Cond.methodLinkNest own idx (y_nm Y) host ∈ hp_Ts) (hinst : Jvm.Cond.instanceMethod (y_nm Y) ∈ hp_Ts) (hnm : (y_nm Y).name = "<init>") (hy : hp_notMH Y) (hnp : hp_np Y)
    (hd : decode cc pc = .ok (.invokespecial idx, 3)) {av rest : List Value} (hn : av.length = y_na Y) (ls : Array Slot) {H : Heap} {b : Addr} : ∃ mk, (g_s G).methodNamed? (y_nm Y) = some mk ∧ hp_inv G pc ls H (av.reverse ++ .ref b :: rest) rest mk (.ref b :: av) := by
  obtain ⟨hts, hown, -, -⟩ := O
  have hcd2 : hp_cd Y = .code (y_nm Y) (y_cc Y) (y_mx Y) none := by unfold hp_cd; rw [hhd, hrt]
  rw [hcd2] at hcd
  obtain ⟨mk, hnamed⟩ := Cond.code_named (hts _ hcd)
  refine ⟨mk, hnamed, fun T locs k n hT X => ?_⟩
  have hpl : (g_e G).platform.magicAccessors = ({} : Platform).magicAccessors := by rw [X.admits.platform]
  obtain ⟨mk2, methM, cM, kP, vm₁, hnamed2, hmethM, hcodeM, -, hlocalsM, -, hkP, -, hW₁, hstep₁⟩ := Steps.initColdArgsNest (e := g_e G) X.here C.1 X.warmed hpl hown hnm hy (hts _ hlink) (hts _ hinst) (hts _ hcd) (f := F0 (g_m G) pc ls (av.reverse ++ .ref b :: rest)) rfl (fun sig hs => hn.trans (hp_np_of hnp hs)) (argsL := av) (rest := rest) rfl (by rw [C.2.1]; exact hd)
  cases hnamed.symm.trans hnamed2
  exact ⟨vm₁, X.noted hW₁, fun target ht => hstep₁ target ht⟩
end HpV
end
section
/-! ONE INSTRUCTION as a condition on what lies before it. T: the tables of the method's class: own name; code; fields (pool index, class, field); calls (pool index, kind, method); classes made (pool index, class); exceptions made (pool index, which); ints; longs. -/
abbrev hp_T : Type := String × List (Nat × Instr) × List (Nat × Nat × Nat) × List (Nat × Nat × hp_Y) × List (Nat × Nat) × List (Nat × Nat) × List (Nat × Int32) × List (Nat × Int64)
abbrev t_own (T : hp_T) : String := T.1
abbrev t_code (T : hp_T) : List (Nat × Instr) := T.2.1
abbrev t_fld (T : hp_T) : List (Nat × Nat × Nat) := T.2.2.1
abbrev t_call (T : hp_T) : List (Nat × Nat × hp_Y) := T.2.2.2.1
abbrev t_new (T : hp_T) : List (Nat × Nat) := T.2.2.2.2.1
abbrev t_exn (T : hp_T) : List (Nat × Nat) := T.2.2.2.2.2.1
abbrev t_int (T : hp_T) : List (Nat × Int32) := T.2.2.2.2.2.2.1
abbrev t_long (T : hp_T) : List (Nat × Int64) := T.2.2.2.2.2.2.2
def hp_lk {α : Type} (l : List (Nat × α)) (i : Nat) : Option α := match l with
  | [] => none
  | q :: r => cond (Nat.beq q.1 i) (some q.2) (hp_lk r i)
theorem hp_lk_mem {α : Type} : ∀ (l : List (Nat × α)) (i : Nat) (v : α), hp_lk l i = some v → (i, v) ∈ l
  | [], _, _, h => by cases h
  | q :: l, i, v, h => by
    unfold hp_lk at h
    cases hb : Nat.beq q.1 i with
    | true =>
      rw [hb] at h
      have e : q.1 = i := Nat.eq_of_beq_eq_true hb
      have e2 : q.2 = v := Option.some.inj h
      subst e; subst e2
      exact List.mem_cons_self
    | false =>
      rw [hb] at h
      exact List.mem_cons_of_mem _ (hp_lk_mem l i v h)
def hp_with {α : Type} (o : Option α) (f : α → Prop) : Prop := match o with
  | some x => f x
  | none => False
theorem hp_with_of {α : Type} {o : Option α} {f : α → Prop} (h : hp_with o f) : ∃ x, o = some x ∧ f x := by
  match o, h with
  | some x, h => exact ⟨x, rfl, h⟩
def hp_fin (w0 w : Bool) (P : Prop) : Prop := cond (!w0 || w) P False
/-- the arguments and what lies below them -/
def hp_args (na : Nat) (st : List Value) (acc : List Value) (f : List Value → List Value → Prop) : Prop := match na, st with
  | 0, st => f acc st
  | m + 1, v :: st => hp_args m st (v :: acc) f
  | _ + 1, [] => False
theorem hp_args_of : ∀ (na : Nat) (st acc : List Value) (f : List Value → List Value → Prop), hp_args na st acc f → ∃ as rest, as.length = na ∧ st = as.reverse ++ rest ∧ f (as ++ acc) rest
  | 0, st, acc, f, h => ⟨[], st, rfl, rfl, by unfold hp_args at h; exact h⟩
  | m + 1, [], acc, f, h => by unfold hp_args at h; exact h.elim
  | m + 1, v :: st, acc, f, h => by
    unfold hp_args at h
    obtain ⟨as, rest, h1, h2, h3⟩ := hp_args_of m st (v :: acc) f h
    exact ⟨as ++ [v], rest, by simp [h1], by simp [h2], by simpa using h3⟩
def hp_nil {α : Type} (l : List α) : Bool := match l with
  | [] => true
  | _ => false
/-- a call of Y with these arguments -/
def hp_ic (l : Launch) (Y0 Y : hp_Y) (w0 : Bool) (dk0 dn0 : Nat) (Q : hp_R → hp_H → Prop) (K : hp_K) (pc : Nat) (lv : hp_L) (av rest : List Value) (h : hp_H) (w : Bool) (k n : Nat) : Prop :=
  cond (Nat.ble (y_fr Y + 1) (y_fr Y0) && Nat.ble ((rest.map fun v => v.category).sum + (y_mx Y + 11) + y_lo Y) (y_lo Y0) && hp_nil (y_hd Y0))
    (∃ (wy : Bool) (dk dn : Nat) (Qy : hp_R → hp_H → Prop), hp_M l Y av h wy dk dn Qy ∧ k + dk ≤ dk0 ∧ n + dn ≤ dn0 ∧ ∀ r h', Qy r h' → match r with
      | .inl v => K (pc + 3) lv (v.toList ++ rest) h' (w && wy) (k + dk) (n + dn)
      | .inr ci => hp_fin w0 (w && wy) (Q (.inr ci) h')) False

/-- a switch: where each number goes -/
def hp_sw (x : Int32) (i : Int) (os : List Int) (f : Int → Prop) : Prop := match os with
  | [] => True
  | o :: r => (x.toInt = i → f o) ∧ hp_sw x (i + 1) r f
theorem hp_sw_get (x : Int32) (f : Int → Prop) : ∀ (os : List Int) (i : Int) (j : Nat) (o : Int), hp_sw x i os f → os[j]? = some o → x.toInt = i + j → f o
  | [], i, j, o, _, h, _ => by cases h
  | p :: r, i, 0, o, hs, h, e => by
    cases h
    exact hs.1 (by simpa using e)
  | p :: r, i, j + 1, o, hs, h, e => hp_sw_get x f r (i + 1) j o hs.2 (by simpa using h) (by rw [e]; omega)
section HpS
variable {G : hp_G} {cc : ByteArray} {pc : Nat} {lv : hp_L} {st : List Value} {h : hp_H} {w : Bool} {k n : Nat} {K : hp_K}
theorem hs_ldc (C : hp_B cc G) (hK : ∀ pc lv st h w k n, K pc lv st h w k n → hp_W G pc lv st h w k n) {own : String} (O : hp_O own G) {idx : Nat} {v : Int32} (hc : Jvm.Cond.constant own idx v ∈ hp_Ts) (hd : decode cc pc = .ok (.ldc idx, 2)) (hi : K (pc + 2) lv (.int v :: st) h w k n) : hp_W G pc lv st h w k n := by
  intro σ H locs ls a1 a2 a3 a4 a5 a6 a7 a8 a9
  exact lv_ldc C.1 C.2.1 O.2.1 (O.1 _ hc) hd (hK _ _ _ _ _ _ _ hi σ H locs ls a1 a2 a3 a4 a5 a6 (fun v hv => by rcases List.mem_cons.mp hv with e | e; (rw [e]; trivial); exact a7 v e) a8 a9)
theorem hs_ldc2 (C : hp_B cc G) (hK : ∀ pc lv st h w k n, K pc lv st h w k n → hp_W G pc lv st h w k n) {own : String} (O : hp_O own G) {idx : Nat} {v : Int64} (hc : Jvm.Cond.constantLong own idx v ∈ hp_Ts) (hd : decode cc pc = .ok (.ldc2_w idx, 3)) (hi : K (pc + 3) lv (.long v :: st) h w k n) : hp_W G pc lv st h w k n := by
  intro σ H locs ls a1 a2 a3 a4 a5 a6 a7 a8 a9
  exact lv_ldc2 C.1 C.2.1 O.2.1 (O.1 _ hc) hd (hK _ _ _ _ _ _ _ hi σ H locs ls a1 a2 a3 a4 a5 a6 (fun v hv => by rcases List.mem_cons.mp hv with e | e; (rw [e]; trivial); exact a7 v e) a8 a9)
theorem hs_tableswitch (C : hp_B cc G) (hK : ∀ pc lv st h w k n, K pc lv st h w k n → hp_W G pc lv st h w k n) {d lo hi : Int} {os : Array Int} {len : Nat} (hd : decode cc pc = .ok (.tableswitch d lo hi os, len))
    (h0 : cond (decide ((os.size : Int) = hi - lo + 1)) (st_i st fun x r => ((x.toInt < lo ∨ hi < x.toInt) → hp_go pc d fun q => K q lv r h w k n) ∧ hp_sw x lo os.toList fun o => hp_go pc o fun q => K q lv r h w k n) False) : hp_W G pc lv st h w k n := by
  cases he : decide ((os.size : Int) = hi - lo + 1) with
  | false => rw [he] at h0; exact False.elim h0
  | true =>
    rw [he] at h0
    have hsz := of_decide_eq_true he
    obtain ⟨x, r, rfl, h1, h2⟩ := st_i_of h0
    intro σ H locs ls a1 a2 a3 a4 a5 a6 a7 a8 a9
    by_cases hx : x.toInt < lo ∨ hi < x.toInt
    · obtain ⟨ht, h3⟩ := hp_go_of (h1 hx)
      exact lv_tableOut C.1 C.2.1 hd hx ht (hK _ _ _ _ _ _ _ h3 σ H locs ls a1 a2 a3 a4 a5 a6 (fun v hv => a7 v (List.mem_cons_of_mem _ hv)) a8 a9)
    · have hlt : (x.toInt - lo).toNat < os.toList.length := by
        rw [Array.length_toList]
        omega
      have ho := List.getElem?_eq_getElem hlt
      obtain ⟨ht, h3⟩ := hp_go_of (hp_sw_get x _ _ _ _ _ h2 ho (by omega))
      exact lv_tableIn C.1 C.2.1 hd (by omega) (by omega) (by rw [← Array.getElem?_toList]; exact ho) ht (hK _ _ _ _ _ _ _ h3 σ H locs ls a1 a2 a3 a4 a5 a6 (fun v hv => a7 v (List.mem_cons_of_mem _ hv)) a8 a9)
end HpS
/-- an array class that can be made -/
def hp_aok (ty : FieldType) : Prop := (ty = .long ∨ ty = .int ∨ ty = .boolean ∨ ty = .byte) ∧ Jvm.Cond.arrayClass ty ∈ hp_Ts
def hp_i (l : Launch) (T : hp_T) (Y : hp_Y) (w0 : Bool) (dk dn : Nat) (Q : hp_R → hp_H → Prop) (K : hp_K) (ins : Instr) (pc : Nat) (lv : hp_L) (st : List Value) (h : hp_H) (w : Bool) (k n : Nat) : Prop := match ins with
  | .iconst i => cond (decide (Int32.ofInt i = hp_c i)) (K (pc + 1) lv (.int (hp_c i) :: st) h w k n) False
  | .bipush i => cond (decide ((Int8.ofInt i).toInt32 = hp_c i)) (K (pc + 2) lv (.int (hp_c i) :: st) h w k n) False
  | .sipush i => cond (decide ((Int16.ofInt i).toInt32 = hp_c i)) (K (pc + 3) lv (.int (hp_c i) :: st) h w k n) False
  | .lconst i => K (pc + 1) lv (.long (Int64.ofNat i.val) :: st) h w k n
  | .aconst_null => K (pc + 1) lv (.null :: st) h w k n
  | .iload i => hl_iload lv i fun v => K (pc + 2) lv (v :: st) h w k n
  | .iload_n i => hl_iload_n lv i.val fun v => K (pc + 1) lv (v :: st) h w k n
  | .lload i => hl_lload lv i fun v => K (pc + 2) lv (v :: st) h w k n
  | .lload_n i => hl_lload_n lv i.val fun v => K (pc + 1) lv (v :: st) h w k n
  | .aload i => hl_aload lv i fun v => K (pc + 2) lv (v :: st) h w k n
  | .aload_n i => hl_aload_n lv i.val fun v => K (pc + 1) lv (v :: st) h w k n
  | .istore i => cond (Nat.blt (i) (y_mx Y)) (st_i st fun x r => K (pc + 2) (hp_set lv i (.int x)) r h w k n) False
  | .istore_n i => cond (Nat.blt (i.val) (y_mx Y)) (st_i st fun x r => K (pc + 1) (hp_set lv i.val (.int x)) r h w k n) False
  | .lstore i => cond (Nat.blt (i + 1) (y_mx Y)) (st_l st fun x r => K (pc + 2) (hp_set lv i (.long x)) r h w k n) False
  | .lstore_n i => cond (Nat.blt (i.val + 1) (y_mx Y)) (st_l st fun x r => K (pc + 1) (hp_set lv i.val (.long x)) r h w k n) False
  | .astore i => cond (Nat.blt (i) (y_mx Y)) (st_a st fun x r => K (pc + 2) (hp_set lv i (.ref x)) r h w k n) False
  | .astore_n i => cond (Nat.blt (i.val) (y_mx Y)) (st_a st fun x r => K (pc + 1) (hp_set lv i.val (.ref x)) r h w k n) False
  | .iinc i c => cond (Nat.blt i (y_mx Y) && decide (Int32.ofInt c = hp_c c)) (match hp_get lv i with | some (.int x) => K (pc + 3) (hp_set lv i (.int (x + hp_c c))) st h w k n | _ => False) False
  | .iadd => st_i st fun y r => st_i r fun x r => K (pc + 1) lv (.int (x + y) :: r) h w k n
  | .isub => st_i st fun y r => st_i r fun x r => K (pc + 1) lv (.int (x - y) :: r) h w k n
  | .imul => st_i st fun y r => st_i r fun x r => K (pc + 1) lv (.int (x * y) :: r) h w k n
  | .iand => st_i st fun y r => st_i r fun x r => K (pc + 1) lv (.int (x &&& y) :: r) h w k n
  | .ior => st_i st fun y r => st_i r fun x r => K (pc + 1) lv (.int (x ||| y) :: r) h w k n
  | .ixor => st_i st fun y r => st_i r fun x r => K (pc + 1) lv (.int (x ^^^ y) :: r) h w k n
  | .ishl => st_i st fun y r => st_i r fun x r => K (pc + 1) lv (.int (x <<< (y &&& 31)) :: r) h w k n
  | .ishr => st_i st fun y r => st_i r fun x r => K (pc + 1) lv (.int (x >>> (y &&& 31)) :: r) h w k n
  | .ladd => st_l st fun y r => st_l r fun x r => K (pc + 1) lv (.long (x + y) :: r) h w k n
  | .lsub => st_l st fun y r => st_l r fun x r => K (pc + 1) lv (.long (x - y) :: r) h w k n
  | .lmul => st_l st fun y r => st_l r fun x r => K (pc + 1) lv (.long (x * y) :: r) h w k n
  | .land => st_l st fun y r => st_l r fun x r => K (pc + 1) lv (.long (x &&& y) :: r) h w k n
  | .lor => st_l st fun y r => st_l r fun x r => K (pc + 1) lv (.long (x ||| y) :: r) h w k n
  | .lxor => st_l st fun y r => st_l r fun x r => K (pc + 1) lv (.long (x ^^^ y) :: r) h w k n
  | .idiv => st_i st fun y r => st_i r fun x r => ¬ y = 0 ∧ K (pc + 1) lv (.int (x / y) :: r) h w k n
  | .irem => st_i st fun y r => st_i r fun x r => ¬ y = 0 ∧ K (pc + 1) lv (.int (x - x / y * y) :: r) h w k n
  | .iushr => st_i st fun y r => st_i r fun x r => K (pc + 1) lv (.int ((x.toUInt32 >>> (y.toUInt32 &&& Int32.toUInt32 31)).toInt32) :: r) h w k n
  | .lushr => st_i st fun y r => st_l r fun x r => K (pc + 1) lv (.long ((x.toUInt64 >>> (y.toInt64.toUInt64 &&& Int64.toUInt64 63)).toInt64) :: r) h w k n
  | .lshl => st_i st fun y r => st_l r fun x r => K (pc + 1) lv (.long (x <<< (y.toInt64 &&& 63)) :: r) h w k n
  | .lshr => st_i st fun y r => st_l r fun x r => K (pc + 1) lv (.long (x >>> (y.toInt64 &&& 63)) :: r) h w k n
  | .lcmp => st_l st fun y r => st_l r fun x r => K (pc + 1) lv (.int (lg_cmp x y) :: r) h w k n
  | .ineg => st_i st fun x r => K (pc + 1) lv (.int (-x) :: r) h w k n
  | .lneg => st_l st fun x r => K (pc + 1) lv (.long (-x) :: r) h w k n
  | .i2l => st_i st fun x r => K (pc + 1) lv (.long (x.toInt64) :: r) h w k n
  | .l2i => st_l st fun x r => K (pc + 1) lv (.int (x.toInt32) :: r) h w k n
  | .dup => st_v st fun x r => cond (Nat.beq x.category 1) (K (pc + 1) lv (x :: x :: r) h w k n) False
  | .pop => st_v st fun x r => cond (Nat.beq x.category 1) (K (pc + 1) lv r h w k n) False
  | .dup2 => st_v st fun x r => cond (Nat.beq x.category 2) (K (pc + 1) lv (x :: x :: r) h w k n) (st_v r fun y r => cond (Nat.beq x.category 1 && Nat.beq y.category 1) (K (pc + 1) lv (x :: y :: x :: y :: r) h w k n) False)
  | .dup_x1 => st_v st fun x r => st_v r fun y r => cond (Nat.beq x.category 1 && Nat.beq y.category 1) (K (pc + 1) lv (x :: y :: x :: r) h w k n) False
  | .ifCond .eq o => st_i st fun x r => hp_go pc o fun q => (x = 0 → K q lv r h w k n) ∧ (¬ x = 0 → K (pc + 3) lv r h w k n)
  | .ifCond .ne o => st_i st fun x r => hp_go pc o fun q => (¬ x = 0 → K q lv r h w k n) ∧ (x = 0 → K (pc + 3) lv r h w k n)
  | .ifCond .lt o => st_i st fun x r => hp_go pc o fun q => (x < 0 → K q lv r h w k n) ∧ (¬ x < 0 → K (pc + 3) lv r h w k n)
  | .ifCond .ge o => st_i st fun x r => hp_go pc o fun q => (0 ≤ x → K q lv r h w k n) ∧ (¬ 0 ≤ x → K (pc + 3) lv r h w k n)
  | .ifCond .gt o => st_i st fun x r => hp_go pc o fun q => (0 < x → K q lv r h w k n) ∧ (¬ 0 < x → K (pc + 3) lv r h w k n)
  | .ifCond .le o => st_i st fun x r => hp_go pc o fun q => (x ≤ 0 → K q lv r h w k n) ∧ (¬ x ≤ 0 → K (pc + 3) lv r h w k n)
  | .if_icmp .eq o => st_i st fun y r => st_i r fun x r => hp_go pc o fun q => (x = y → K q lv r h w k n) ∧ (¬ x = y → K (pc + 3) lv r h w k n)
  | .if_icmp .ne o => st_i st fun y r => st_i r fun x r => hp_go pc o fun q => (¬ x = y → K q lv r h w k n) ∧ (x = y → K (pc + 3) lv r h w k n)
  | .if_icmp .lt o => st_i st fun y r => st_i r fun x r => hp_go pc o fun q => (x < y → K q lv r h w k n) ∧ (¬ x < y → K (pc + 3) lv r h w k n)
  | .if_icmp .ge o => st_i st fun y r => st_i r fun x r => hp_go pc o fun q => (y ≤ x → K q lv r h w k n) ∧ (¬ y ≤ x → K (pc + 3) lv r h w k n)
  | .if_icmp .gt o => st_i st fun y r => st_i r fun x r => hp_go pc o fun q => (y < x → K q lv r h w k n) ∧ (¬ y < x → K (pc + 3) lv r h w k n)
  | .if_icmp .le o => st_i st fun y r => st_i r fun x r => hp_go pc o fun q => (x ≤ y → K q lv r h w k n) ∧ (¬ x ≤ y → K (pc + 3) lv r h w k n)
  | .goto o => hp_go pc o fun q => K q lv st h w k n
  | .getfield i => hp_with (hp_lk (t_fld T) i) fun f => st_a st fun a r => ∃ fs, h[a]? = some (.inr (f.1, fs)) ∧ K (pc + 3) lv (vp_V fs f.2 :: r) h w k n
  | .putfield i => hp_with (hp_lk (t_fld T) i) fun f => hp_with (classes[f.1]?) fun r0 => ((r0.2.1 f.2).2.2.2 = false ∨ ((r0.2.1 f.2).2.2.2 = true ∧ (y_nm Y).name = "<init>" ∧ (r0.2.1 f.2).1 = t_own T)) ∧ st_v st fun v r => st_a r fun a r => ∃ fs, h[a]? = some (.inr (f.1, fs)) ∧ f.2 < fs.length ∧ narrow (hp_fty f.1 f.2) v = v ∧ fits (hp_fty f.1 f.2) v = true ∧ K (pc + 3) lv r (h.set a (.inr (f.1, fs.set f.2 v))) false k n
  | .iaload => st_i st fun i r => st_a r fun a r => ∃ (ty : FieldType) (N : Nat) (f : Nat → Int32), (ty = .int ∨ ty = .float) ∧ h[a]? = some (.inl (ty, N, .inl f)) ∧ vp_in i N ∧ K (pc + 1) lv (.int (f i.toNatClampNeg) :: r) h w k n
  | .laload => st_i st fun i r => st_a r fun a r => ∃ (N : Nat) (f : Nat → Int64), h[a]? = some (.inl (.long, N, .inr (.inl f))) ∧ vp_in i N ∧ K (pc + 1) lv (.long (f i.toNatClampNeg) :: r) h w k n
  | .baload => st_i st fun i r => st_a r fun a r => ∃ (N : Nat) (f : Nat → Int32), h[a]? = some (.inl (.boolean, N, .inl f)) ∧ vp_in i N ∧ K (pc + 1) lv (.int (f i.toNatClampNeg) :: r) h w k n
  | .aaload => st_i st fun i r => st_a r fun a r => ∃ (t : FieldType) (N : Nat) (f : Nat → Option Nat), h[a]? = some (.inl (.array t, N, .inr (.inr (.inr (.inr f))))) ∧ vp_in i N ∧ K (pc + 1) lv (va_rf (f i.toNatClampNeg) :: r) h w k n
  | .iastore => st_i st fun x r => st_i r fun i r => st_a r fun a r => ∃ (N : Nat) (f : Nat → Int32), h[a]? = some (.inl (.int, N, .inl f)) ∧ vp_in i N ∧ K (pc + 1) lv r (h.set a (.inl (.int, N, .inl (upd f i.toNatClampNeg x)))) false k n
  | .lastore => st_l st fun x r => st_i r fun i r => st_a r fun a r => ∃ (N : Nat) (f : Nat → Int64), h[a]? = some (.inl (.long, N, .inr (.inl f))) ∧ vp_in i N ∧ K (pc + 1) lv r (h.set a (.inl (.long, N, .inr (.inl (vp_updL f i.toNatClampNeg x))))) false k n
  | .bastore => st_i st fun x r => st_i r fun i r => st_a r fun a r => ∃ (N : Nat) (f : Nat → Int32), h[a]? = some (.inl (.boolean, N, .inl f)) ∧ vp_in i N ∧ narrow .boolean (.int x) = .int x ∧ K (pc + 1) lv r (h.set a (.inl (.boolean, N, .inl (upd f i.toNatClampNeg x)))) false k n
  | .arraylength => st_a st fun a r => ∃ (ty : FieldType) (N : Nat) (x : hp_X), h[a]? = some (.inl (ty, N, x)) ∧ K (pc + 1) lv (.int (Int32.ofNat N) :: r) h w k n
  | .newarray t => st_i st fun x r => ∃ N, x.toNatClampNeg = N ∧ ¬ x < 0 ∧ N * componentBytes (newarray.typeOf t) ≤ 536870912 ∧ k + 1 ≤ dk ∧ n + N ≤ dn ∧ hp_aok (newarray.typeOf t) ∧ K (pc + 2) lv (.ref h.length :: r) (h ++ [.inl (newarray.typeOf t, N, hp_zero (newarray.typeOf t))]) w (k + 1) (n + N)
  | .ldc i => hp_with (hp_lk (t_int T) i) fun v => K (pc + 2) lv (.int v :: st) h w k n
  | .ldc2_w i => hp_with (hp_lk (t_long T) i) fun v => K (pc + 3) lv (.long v :: st) h w k n
  | .tableswitch d lo up os => cond (decide ((os.size : Int) = up - lo + 1)) (st_i st fun x r => ((x.toInt < lo ∨ up < x.toInt) → hp_go pc d fun q => K q lv r h w k n) ∧ hp_sw x lo os.toList fun o => hp_go pc o fun q => K q lv r h w k n) False
  | .new i => hp_with (hp_lk (t_new T) i) fun ci => hp_with (classes[ci]?) fun r0 => k + 1 ≤ dk ∧ n + r0.2.2 ≤ dn ∧ K (pc + 3) lv (.ref h.length :: st) (h ++ [.inr (ci, hp_new ci)]) w (k + 1) (n + r0.2.2)
  | .invokestatic i => hp_with (hp_lk (t_call T) i) fun q => cond (Nat.ble q.1 1) (hp_args (y_na q.2) st [] fun av rest => hp_ic l Y q.2 w0 dk dn Q K pc lv av rest h w k n) False
  | .invokevirtual i => hp_with (hp_lk (t_call T) i) fun q => cond (Nat.beq q.1 2 || Nat.beq q.1 3) (hp_args (y_na q.2) st [] fun av r => st_a r fun a rest => (∃ ci fs, h[a]? = some (.inr (ci, fs)) ∧ (classes[ci]?).map (fun c => c.1) = some (y_nm q.2).cls) ∧ hp_ic l Y q.2 w0 dk dn Q K pc lv (.ref a :: av) rest h w k n) False
  | .invokespecial i => hp_with (hp_lk (t_call T) i) fun q => cond (Nat.beq q.1 6) (cond (Nat.ble 1 (y_fr Y)) (st_a st fun a r => cond (Nat.ble ((r.map fun v => v.category).sum + 12) (y_lo Y)) (K (pc + 3) lv r h w k n) False) False) (cond (Nat.beq q.1 4 || Nat.beq q.1 5) (hp_args (y_na q.2) st [] fun av r => st_a r fun a rest => hp_ic l Y q.2 w0 dk dn Q K pc lv (.ref a :: av) rest h w k n) False)
  | .ireturn => st_i st fun x r => hp_with (y_rt Y) fun ty => r = [] ∧ narrow ty (.int x) = .int x ∧ hp_fin w0 w (Q (.inl (some (.int x))) h)
  | .lreturn => st_l st fun x r => r = [] ∧ y_rt Y = some .long ∧ hp_fin w0 w (Q (.inl (some (.long x))) h)
  | .return_ => st = [] ∧ y_rt Y = none ∧ hp_fin w0 w (Q (.inl none) h)
  | .areturn => st_a st fun x r => r = [] ∧ (∃ t, y_rt Y = some (.array t)) ∧ hp_fin w0 w (Q (.inl (some (.ref x))) h)
  | _ => False
/-- what stays the same while a method's body runs -/
def hp_ctx (T : hp_T) (Y : hp_Y) (l : Launch) (w0 : Bool) (dk dn : Nat) (Q : hp_R → hp_H → Prop) (G : hp_G) : Prop :=
  hp_B (y_cc Y) G ∧ hp_O (t_own T) G ∧ g_n G = y_mx Y ∧ g_R G = { frames := y_fr Y, cells := dk, slots := dn, locals := y_lo Y } ∧ g_l G = l ∧ g_w G = w0 ∧ g_Q G = Q ∧ (g_me G).sig.returnType = y_rt Y ∧ (g_me G).locks = false ∧ (g_me G).name = (y_nm Y).name ∧
    (g_c G).exceptionTable.toList.map (fun h => (h.startPc, h.endPc, h.handlerPc, h.catchType)) = y_hd Y ∧ hp_noT l ∧ hp_thr (g_z G) (g_s G)
def hp_len (i : Instr) : Nat := match i with
  | .tableswitch .. => 0
  | .lookupswitch .. => 0
  | .bipush _ | .iload _ | .lload _ | .aload _ | .istore _ | .lstore _ | .astore _ | .newarray _ | .ldc _ => 2
  | .sipush _ | .iinc .. | .ifCond .. | .if_icmp .. | .goto _ | .getfield _ | .putfield _ | .new _ | .invokestatic _ | .invokespecial _ | .invokevirtual _ | .ldc2_w _ | .anewarray _ | .ldc_w _ | .ifnull _ | .ifnonnull _ | .getstatic _ => 3
  | .multianewarray .. => 4
  | _ => 1
/-- what a call needs of the words, by its kind: static, static of a nest mate, virtual, virtual of a nest mate, constructor, constructor of a nest mate, Object's -/
def hp_vcall (own : String) (i kd : Nat) (Y : hp_Y) : Prop := match kd with
  | 0 => hp_cd Y ∈ hp_Ts ∧ Jvm.Cond.methodLink own i (y_nm Y) ∈ hp_Ts ∧ Jvm.Cond.static (y_nm Y) ∈ hp_Ts ∧ Jvm.Cond.initialized (y_nm Y).cls ∈ hp_Ts ∧ hp_notMH Y ∧ hp_np Y
  | 1 => ∃ host, hp_cd Y ∈ hp_Ts ∧ Jvm.Cond.methodLinkNest own i (y_nm Y) host ∈ hp_Ts ∧ Jvm.Cond.static (y_nm Y) ∈ hp_Ts ∧ Jvm.Cond.initialized (y_nm Y).cls ∈ hp_Ts ∧ hp_notMH Y ∧ hp_np Y
  | 2 => hp_cd Y ∈ hp_Ts ∧ Jvm.Cond.methodLink own i (y_nm Y) ∈ hp_Ts ∧ Jvm.Cond.instanceMethod (y_nm Y) ∈ hp_Ts ∧ Jvm.Cond.selects (y_nm Y).cls (y_nm Y) (y_nm Y) ∈ hp_Ts ∧ Jvm.Cond.initialized (y_nm Y).cls ∈ hp_Ts ∧ hp_notMH Y ∧ hp_np Y
  | 3 => ∃ host, hp_cd Y ∈ hp_Ts ∧ Jvm.Cond.methodLinkNest own i (y_nm Y) host ∈ hp_Ts ∧ Jvm.Cond.instanceMethod (y_nm Y) ∈ hp_Ts ∧ Jvm.Cond.selects (y_nm Y).cls (y_nm Y) (y_nm Y) ∈ hp_Ts ∧ Jvm.Cond.initialized (y_nm Y).cls ∈ hp_Ts ∧ hp_notMH Y ∧ hp_np Y
  | 4 => hp_cd Y ∈ hp_Ts ∧ y_hd Y = [] ∧ y_rt Y = none ∧ Jvm.Cond.methodLink own i (y_nm Y) ∈ hp_Ts ∧ Jvm.Cond.instanceMethod (y_nm Y) ∈ hp_Ts ∧ (y_nm Y).name = "<init>" ∧ Jvm.Cond.initialized (y_nm Y).cls ∈ hp_Ts ∧ hp_notMH Y ∧ hp_np Y
  | 5 => ∃ host, hp_cd Y ∈ hp_Ts ∧ y_hd Y = [] ∧ y_rt Y = none ∧ Jvm.Cond.methodLinkNest own i (y_nm Y) host ∈ hp_Ts ∧ Jvm.Cond.instanceMethod (y_nm Y) ∈ hp_Ts ∧ (y_nm Y).name = "<init>" ∧ Jvm.Cond.initialized (y_nm Y).cls ∈ hp_Ts ∧ hp_notMH Y ∧ hp_np Y
  | 6 => Jvm.Cond.methodLink own i Lib.objectInit ∈ hp_Ts ∧ Jvm.Cond.instanceMethod Lib.objectInit ∈ hp_Ts ∧ Jvm.Cond.code Lib.objectInit ⟨#[0xb1]⟩ 1 none ∈ hp_Ts
  | _ => False
theorem hp_recv {own : String} {G : hp_G} (O : hp_O own G) {σ : List Nat} {h : hp_H} {H : Heap} (a1 : hp_rep (g_D G) (g_z G) (g_s G) σ h H) {a ci : Nat} {fs : List Value} (ha : h[a]? = some (.inr (ci, fs))) {nm : String} (hcn : (classes[ci]?).map (fun c => c.1) = some nm) : ∃ cell : Cell, H[σ.getD a 0]? = some cell ∧ cell.vm.isStatics = false ∧ (g_s G).vm.findClass nm = some cell.cls := by
  obtain ⟨r, cell, c0, c1, c2, c3, c4⟩ := a1.2.1 a _ ha
  rw [c0] at hcn
  cases hcn
  exact ⟨cell, c1, by rw [c3]; rfl, by rw [c2]; exact (O.2.2.1.1 ci _ c0).2.1⟩
theorem hs_objInit {G : hp_G} {cc : ByteArray} {pc : Nat} {lv : hp_L} {st : List Value} {h : hp_H} {w : Bool} {k n : Nat} {K : hp_K} (C : hp_B cc G) (hK : ∀ pc lv st h w k n, K pc lv st h w k n → hp_W G pc lv st h w k n) {own : String} (O : hp_O own G) {idx : Nat} (v1 : Jvm.Cond.methodLink own idx Lib.objectInit ∈ hp_Ts) (v2 : Jvm.Cond.instanceMethod Lib.objectInit ∈ hp_Ts) (v3 : Jvm.Cond.code Lib.objectInit ⟨#[0xb1]⟩ 1 none ∈ hp_Ts)
    (hd : decode cc pc = .ok (.invokespecial idx, 3)) {a : Nat} {r : List Value} (hfr : 1 ≤ (g_R G).frames) (hlo : (r.map fun v => v.category).sum + 12 ≤ (g_R G).locals) (hst : st = .ref a :: r) (hi : K (pc + 3) lv r h w k n) : hp_W G pc lv st h w k n := by
  subst hst
  intro σ H locs ls a1 a2 a3 a4 a5 a6 a7 a8 a9
  obtain ⟨hts, hown, -, -⟩ := O
  have hcat : ((r.map (hp_cv σ)).map fun v => v.category) = r.map fun v => v.category := by
    rw [List.map_map]
    exact List.map_congr_left fun v _ => hp_cv_cat σ v
  exact W.objInit C.1 C.2.1 hown (hts _ v1) (hts _ v2) (hts _ v3) rfl (a6.1.trans C.2.2.symm) rfl hd hfr (by show 2 * 0 + ((r.map (hp_cv σ)).map fun v => v.category).sum + 12 ≤ _; rw [hcat]; omega)
    (hK _ _ _ _ _ _ _ hi σ H locs ls a1 a2 a3 a4 a5 a6 (fun v hv => a7 v (List.mem_cons_of_mem _ hv)) a8 a9)
/-- hp_ic is enough for a call -/
theorem hp_call_ic {G : hp_G} {l : Launch} {Y0 : hp_Y} {w0 : Bool} {dk0 dn0 : Nat} {Q : hp_R → hp_H → Prop} {cc : ByteArray} {pc : Nat} {lv : hp_L} {st : List Value} {h : hp_H} {w : Bool} {k n : Nat} {K : hp_K} (C : hp_B cc G) (hK : ∀ pc lv st h w k n, K pc lv st h w k n → hp_W G pc lv st h w k n) {own : String} (O : hp_O own G) (hnt : hp_noT l) (hth : hp_thr (g_z G) (g_s G)) {Y : hp_Y} {av rest : List Value}
    {ins : Instr} (hd : decode cc pc = .ok (ins, 3)) (hcd : hp_cd Y ∈ hp_Ts) (hini : Jvm.Cond.initialized (y_nm Y).cls ∈ hp_Ts) (hR : g_R G = { frames := y_fr Y0, cells := dk0, slots := dn0, locals := y_lo Y0 }) (hl : g_l G = l) (hw : g_w G = w0) (hQ : g_Q G = Q) (hlk : (g_me G).locks = false)
    (hex : (g_c G).exceptionTable.toList.map (fun h => (h.startPc, h.endPc, h.handlerPc, h.catchType)) = y_hd Y0) (hst : ∀ v ∈ rest, v ∈ st) (hav : ∀ v ∈ av, v ∈ st)
    (hinv : ∀ (σ : List Nat) (H : Heap) (ls : Array Slot), hp_rep (g_D G) (g_z G) (g_s G) σ h H → ls.size = g_n G → ∃ mk, (g_s G).methodNamed? (y_nm Y) = some mk ∧ hp_inv G pc ls H (st.map (hp_cv σ)) (rest.map (hp_cv σ)) mk (av.map (hp_cv σ)))
    (hi : hp_ic l Y0 Y w0 dk0 dn0 Q K pc lv av rest h w k n) : hp_W G pc lv st h w k n := by
  unfold hp_ic at hi
  cases hb : (Nat.ble (y_fr Y + 1) (y_fr Y0) && Nat.ble ((rest.map fun v => v.category).sum + (y_mx Y + 11) + y_lo Y) (y_lo Y0) && hp_nil (y_hd Y0)) with
  | false => rw [hb] at hi; exact False.elim hi
  | true =>
    rw [hb] at hi
    rw [Bool.and_eq_true, Bool.and_eq_true] at hb
    obtain ⟨wy, dk, dn, Qy, hM, hc1, hc2, hi⟩ := hi
    subst hl
    have hno : y_hd Y0 = [] := by
      have := hb.2
      cases hy : y_hd Y0 with
      | nil => rfl
      | cons q r => rw [hy] at this; cases this
    refine hp_call C hK O hnt hth hM hd hcd hini (by rw [hR]; exact Nat.le_of_ble_eq_true hb.1.1) (by rw [hR]; exact Nat.le_of_ble_eq_true hb.1.2) (by rw [hR]; exact hc1) (by rw [hR]; exact hc2) hst hav hinv (fun r h' hq => ?_)
    have h2 := hi r h' hq
    match r, h2 with
    | .inl v, h2 => exact h2
    | .inr ci, h2 =>
      refine hp_catch_out hlk (fun x hx => ?_) (by unfold hp_end; rw [hw, hQ]; exact h2)
      rw [hno] at hex
      rw [List.map_eq_nil_iff.mp hex] at hx
      cases hx
/-- the tables say what is so -/
def hp_val (T : hp_T) (Y : hp_Y) : Prop :=
  (∀ q ∈ t_code T, ∃ len, decode (y_cc Y) q.1 = .ok (q.2, len) ∧ (hp_len q.2 = 0 ∨ len = hp_len q.2)) ∧
  (∀ q ∈ t_fld T, ∃ r0 : vw_C, classes[q.2.1]? = some r0 ∧ q.2.2 < r0.2.2 ∧ Jvm.Cond.fieldLink (t_own T) q.1 (r0.2.1 q.2.2).1 (r0.2.1 q.2.2).2.1 (r0.2.1 q.2.2).2.2.1 ∈ hp_Ts) ∧
  (∀ q ∈ t_call T, hp_vcall (t_own T) q.1 q.2.1 q.2.2) ∧ (∀ q ∈ t_int T, Jvm.Cond.constant (t_own T) q.1 q.2 ∈ hp_Ts) ∧ (∀ q ∈ t_long T, Jvm.Cond.constantLong (t_own T) q.1 q.2 ∈ hp_Ts) ∧
  (∀ q ∈ t_new T, ∃ r0 : vw_C, classes[q.2]? = some r0 ∧ Jvm.Cond.classLink (t_own T) q.1 r0.1 ∈ hp_Ts)
set_option maxHeartbeats 4000000 in
theorem hp_i_sound {T : hp_T} {Y : hp_Y} {l : Launch} {w0 : Bool} {dk dn : Nat} {Q : hp_R → hp_H → Prop} {G : hp_G} (hco : hp_clsok) (V : hp_val T Y) (C : hp_ctx T Y l w0 dk dn Q G) {K : hp_K} (hK : ∀ pc lv st h w k n, K pc lv st h w k n → hp_W G pc lv st h w k n)
    {ins : Instr} {pc : Nat} {lv : hp_L} {st : List Value} {h : hp_H} {w : Bool} {k n : Nat} (hc : hp_lk (t_code T) pc = some ins) (hi : hp_i l T Y w0 dk dn Q K ins pc lv st h w k n) : hp_W G pc lv st h w k n := by
  obtain ⟨B, O, hn, hR, hl, hw, hQ, hrt, hlk, hnm, hex, hnt, hth⟩ := C
  obtain ⟨len, hdec, hlen⟩ := V.1 _ (hp_lk_mem _ _ _ hc)
  have hd : ∀ j, hp_len ins = j + 1 → decode (y_cc Y) pc = .ok (ins, j + 1) := fun j hj => by
    rcases hlen with e | e
    · rw [e] at hj; cases hj
    · rw [← hj, ← e]; exact hdec
  cases ins
  case iconst i =>
    exact hs_iconst B hK (hd _ rfl) hi
  case bipush i =>
    exact hs_bipush B hK (hd _ rfl) hi
  case sipush i =>
    exact hs_sipush B hK (hd _ rfl) hi
  case lconst i =>
    exact hs_lconst B hK (hd _ rfl) hi
  case aconst_null =>
    exact hs_aconst_null B hK (hd _ rfl) hi
  case iload i =>
    exact hs_iload B hK (hd _ rfl) hi
  case iload_n i =>
    exact hs_iload_n B hK (hd _ rfl) hi
  case lload i =>
    exact hs_lload B hK (hd _ rfl) hi
  case lload_n i =>
    exact hs_lload_n B hK (hd _ rfl) hi
  case aload i =>
    exact hs_aload B hK (hd _ rfl) hi
  case aload_n i =>
    exact hs_aload_n B hK (hd _ rfl) hi
  case istore i =>
    exact hs_istore B hK (hd _ rfl) (by rw [hn]; exact hi)
  case istore_n i =>
    exact hs_istore_n B hK (hd _ rfl) (by rw [hn]; exact hi)
  case lstore i =>
    exact hs_lstore B hK (hd _ rfl) (by rw [hn]; exact hi)
  case lstore_n i =>
    exact hs_lstore_n B hK (hd _ rfl) (by rw [hn]; exact hi)
  case astore i =>
    exact hs_astore B hK (hd _ rfl) (by rw [hn]; exact hi)
  case astore_n i =>
    exact hs_astore_n B hK (hd _ rfl) (by rw [hn]; exact hi)
  case iinc i c =>
    exact hs_iinc B hK (hd _ rfl) (by rw [hn]; exact hi)
  case iadd =>
    exact hs_iadd B hK (hd _ rfl) hi
  case isub =>
    exact hs_isub B hK (hd _ rfl) hi
  case imul =>
    exact hs_imul B hK (hd _ rfl) hi
  case iand =>
    exact hs_iand B hK (hd _ rfl) hi
  case ior =>
    exact hs_ior B hK (hd _ rfl) hi
  case ixor =>
    exact hs_ixor B hK (hd _ rfl) hi
  case ishl =>
    exact hs_ishl B hK (hd _ rfl) hi
  case ishr =>
    exact hs_ishr B hK (hd _ rfl) hi
  case ladd =>
    exact hs_ladd B hK (hd _ rfl) hi
  case lsub =>
    exact hs_lsub B hK (hd _ rfl) hi
  case lmul =>
    exact hs_lmul B hK (hd _ rfl) hi
  case land =>
    exact hs_land B hK (hd _ rfl) hi
  case lor =>
    exact hs_lor B hK (hd _ rfl) hi
  case lxor =>
    exact hs_lxor B hK (hd _ rfl) hi
  case idiv =>
    exact hs_idiv B hK (hd _ rfl) hi
  case irem =>
    exact hs_irem B hK (hd _ rfl) hi
  case iushr =>
    exact hs_iushr B hK (hd _ rfl) hi
  case lushr =>
    exact hs_lushr B hK (hd _ rfl) hi
  case lshl =>
    exact hs_lshl B hK (hd _ rfl) hi
  case lshr =>
    exact hs_lshr B hK (hd _ rfl) hi
  case lcmp =>
    exact hs_lcmp B hK (hd _ rfl) hi
  case ineg =>
    exact hs_ineg B hK (hd _ rfl) hi
  case lneg =>
    exact hs_lneg B hK (hd _ rfl) hi
  case i2l =>
    exact hs_i2l B hK (hd _ rfl) hi
  case l2i =>
    exact hs_l2i B hK (hd _ rfl) hi
  case dup =>
    exact hs_dup B hK (hd _ rfl) hi
  case pop =>
    exact hs_pop B hK (hd _ rfl) hi
  case dup2 =>
    exact hs_dup2 B hK (hd _ rfl) hi
  case dup_x1 =>
    exact hs_dup_x1 B hK (hd _ rfl) hi
  case ifCond c o =>
    cases c
    case eq => exact hs_if_eq B hK (hd _ rfl) hi
    case ne => exact hs_if_ne B hK (hd _ rfl) hi
    case lt => exact hs_if_lt B hK (hd _ rfl) hi
    case ge => exact hs_if_ge B hK (hd _ rfl) hi
    case gt => exact hs_if_gt B hK (hd _ rfl) hi
    case le => exact hs_if_le B hK (hd _ rfl) hi
  case if_icmp c o =>
    cases c
    case eq => exact hs_icmp_eq B hK (hd _ rfl) hi
    case ne => exact hs_icmp_ne B hK (hd _ rfl) hi
    case lt => exact hs_icmp_lt B hK (hd _ rfl) hi
    case ge => exact hs_icmp_ge B hK (hd _ rfl) hi
    case gt => exact hs_icmp_gt B hK (hd _ rfl) hi
    case le => exact hs_icmp_le B hK (hd _ rfl) hi
  case goto o =>
    exact hs_goto B hK (hd _ rfl) hi
  case getfield i =>
    obtain ⟨f, e1, hi1⟩ := hp_with_of hi
    obtain ⟨r0, f1, f2, f3⟩ := V.2.1 _ (hp_lk_mem _ _ _ e1)
    exact hs_getfield B hK O hco f1 f2 f3 (hd _ rfl) hi1
  case putfield i =>
    obtain ⟨f, e1, hi2⟩ := hp_with_of hi
    obtain ⟨r1, e2, f4, hi3⟩ := hp_with_of hi2
    obtain ⟨r0, f1, f2, f3⟩ := V.2.1 _ (hp_lk_mem _ _ _ e1)
    cases f1.symm.trans e2
    refine hs_putfield B hK O hco f1 f2 f3 ?_ (hd _ rfl) hi3
    rcases f4 with f4 | ⟨f4, f5, f6⟩
    · exact Or.inl f4
    · exact Or.inr ⟨f4, by rw [hnm]; exact f5, f6⟩
  case iaload =>
    obtain ⟨i, r, rfl, hi4⟩ := st_i_of hi
    obtain ⟨a, r, rfl, ty, N, f, hty, h1, h2, h3⟩ := st_a_of hi4
    rcases hty with rfl | rfl
    · exact hs_iaload B hK (hd _ rfl) rfl h1 h2 h3
    · exact hs_ialoadS B hK (hd _ rfl) rfl h1 h2 h3
  case laload =>
    obtain ⟨i, r, rfl, hi5⟩ := st_i_of hi
    obtain ⟨a, r, rfl, N, f, h1, h2, h3⟩ := st_a_of hi5
    exact hs_laload B hK (hd _ rfl) rfl h1 h2 h3
  case baload =>
    obtain ⟨i, r, rfl, hi6⟩ := st_i_of hi
    obtain ⟨a, r, rfl, N, f, h1, h2, h3⟩ := st_a_of hi6
    exact hs_zaload B hK (hd _ rfl) rfl h1 h2 h3
  case aaload =>
    obtain ⟨i, r, rfl, hi7⟩ := st_i_of hi
    obtain ⟨a, r, rfl, t, N, f, h1, h2, h3⟩ := st_a_of hi7
    exact hs_aaload B hK (hd _ rfl) rfl rfl rfl h1 h2 h3
  case iastore =>
    obtain ⟨x, r, rfl, hi8⟩ := st_i_of hi
    obtain ⟨i, r, rfl, hi9⟩ := st_i_of hi8
    obtain ⟨a, r, rfl, N, f, h1, h2, h3⟩ := st_a_of hi9
    exact hs_iastore B hK (hd _ rfl) rfl h1 h2 h3
  case lastore =>
    obtain ⟨x, r, rfl, hi10⟩ := st_l_of hi
    obtain ⟨i, r, rfl, hi11⟩ := st_i_of hi10
    obtain ⟨a, r, rfl, N, f, h1, h2, h3⟩ := st_a_of hi11
    exact hs_lastore B hK (hd _ rfl) rfl h1 h2 h3
  case bastore =>
    obtain ⟨x, r, rfl, hi12⟩ := st_i_of hi
    obtain ⟨i, r, rfl, hi13⟩ := st_i_of hi12
    obtain ⟨a, r, rfl, N, f, h1, h2, h3, h4⟩ := st_a_of hi13
    exact hs_zastore B hK (hd _ rfl) rfl h1 h2 h3 h4
  case arraylength =>
    obtain ⟨a, r, rfl, ty, N, x, h1, h2⟩ := st_a_of hi
    exact hs_arraylength B hK (hd _ rfl) rfl h1 h2
  case newarray t =>
    obtain ⟨x, r, rfl, N, h1, h2, h3, h4, h5, ⟨h6, h7⟩, h8⟩ := st_i_of hi
    exact hs_newarray B hK O rfl h6 h7 (hd _ rfl) rfl h2 h1 h3 (by rw [hR]; exact h4) (by rw [hR]; exact h5) h8
  case ldc i =>
    obtain ⟨v, e1, hi14⟩ := hp_with_of hi
    exact hs_ldc B hK O (V.2.2.2.1 _ (hp_lk_mem _ _ _ e1)) (hd _ rfl) hi14
  case ldc2_w i =>
    obtain ⟨v, e1, hi15⟩ := hp_with_of hi
    exact hs_ldc2 B hK O (V.2.2.2.2.1 _ (hp_lk_mem _ _ _ e1)) (hd _ rfl) hi15
  case tableswitch d lo up os =>
    exact hs_tableswitch B hK hdec hi
  case new i =>
    obtain ⟨ci, e1, hi16⟩ := hp_with_of hi
    obtain ⟨r1, e2, c1, c2, hi17⟩ := hp_with_of hi16
    obtain ⟨r0, f1, f2⟩ := V.2.2.2.2.2 _ (hp_lk_mem _ _ _ e1)
    cases f1.symm.trans e2
    exact hs_new B hK O hco f1 f2 (hd _ rfl) (by rw [hR]; exact c1) (by rw [hR]; exact c2) hi17
  case invokestatic i =>
    obtain ⟨q, e1, hi18⟩ := hp_with_of hi
    have hv := V.2.2.1 _ (hp_lk_mem _ _ _ e1)
    obtain ⟨kd, Y'⟩ := q
    match kd, hv, hi18 with
    | 0, hv, hi =>
      obtain ⟨as, rest, e2, rfl, hi19⟩ := hp_args_of _ _ _ _ hi
      rw [List.append_nil] at hi19
      obtain ⟨v1, v2, v3, v4, v5, v6⟩ := hv
      refine hp_call_ic B hK O hnt hth (hd _ rfl) v1 v4 hR hl hw hQ hlk hex (fun v hv => List.mem_append_right _ hv) (fun v hv => List.mem_append_left _ (List.mem_reverse.mpr hv)) (fun σ H ls a1 a2 => ?_) hi19
      rw [List.map_append, List.map_reverse]
      exact hp_inv_S B O v1 v2 v3 v4 v5 v6 (hd _ rfl) (by rw [List.length_map]; exact e2) ls H
    | 1, hv, hi =>
      obtain ⟨as, rest, e2, rfl, hi20⟩ := hp_args_of _ _ _ _ hi
      rw [List.append_nil] at hi20
      obtain ⟨host, v1, v2, v3, v4, v5, v6⟩ := hv
      refine hp_call_ic B hK O hnt hth (hd _ rfl) v1 v4 hR hl hw hQ hlk hex (fun v hv => List.mem_append_right _ hv) (fun v hv => List.mem_append_left _ (List.mem_reverse.mpr hv)) (fun σ H ls a1 a2 => ?_) hi20
      rw [List.map_append, List.map_reverse]
      exact hp_inv_SN B O v1 v2 v3 v4 v5 v6 (hd _ rfl) (by rw [List.length_map]; exact e2) ls H
    | _ + 2, hv, hi => exact False.elim hi
  case invokevirtual i =>
    obtain ⟨q, e1, hi21⟩ := hp_with_of hi
    have hv := V.2.2.1 _ (hp_lk_mem _ _ _ e1)
    obtain ⟨kd, Y'⟩ := q
    match kd, hv, hi21 with
    | 0, hv, hi => exact False.elim hi
    | 1, hv, hi => exact False.elim hi
    | 2, hv, hi =>
      obtain ⟨as, r, e2, rfl, hi22⟩ := hp_args_of _ _ _ _ hi
      rw [List.append_nil] at hi22
      obtain ⟨a, rest, rfl, ⟨ci, fs, ha, hcn⟩, hi23⟩ := st_a_of hi22
      obtain ⟨v1, v2, v3, v4, v5, v6, v7⟩ := hv
      refine hp_call_ic B hK O hnt hth (hd _ rfl) v1 v5 hR hl hw hQ hlk hex (fun v hv => List.mem_append_right _ (List.mem_cons_of_mem _ hv)) (fun v hv => by rcases List.mem_cons.mp hv with e | e; (rw [e]; exact List.mem_append_right _ List.mem_cons_self); exact List.mem_append_left _ (List.mem_reverse.mpr e)) (fun σ H ls a1 a2 => ?_) hi23
      rw [List.map_append, List.map_reverse]
      obtain ⟨cell, c1, c2, c3⟩ := hp_recv O a1 ha hcn
      exact hp_inv_V B O v1 v2 v3 v4 v6 v7 (hd _ rfl) (by rw [List.length_map]; exact e2) ls c1 c2 c3
    | 3, hv, hi =>
      obtain ⟨as, r, e2, rfl, hi24⟩ := hp_args_of _ _ _ _ hi
      rw [List.append_nil] at hi24
      obtain ⟨a, rest, rfl, ⟨ci, fs, ha, hcn⟩, hi25⟩ := st_a_of hi24
      obtain ⟨host, v1, v2, v3, v4, v5, v6, v7⟩ := hv
      refine hp_call_ic B hK O hnt hth (hd _ rfl) v1 v5 hR hl hw hQ hlk hex (fun v hv => List.mem_append_right _ (List.mem_cons_of_mem _ hv)) (fun v hv => by rcases List.mem_cons.mp hv with e | e; (rw [e]; exact List.mem_append_right _ List.mem_cons_self); exact List.mem_append_left _ (List.mem_reverse.mpr e)) (fun σ H ls a1 a2 => ?_) hi25
      rw [List.map_append, List.map_reverse]
      obtain ⟨cell, c1, c2, c3⟩ := hp_recv O a1 ha hcn
      exact hp_inv_VN B O v1 v2 v3 v4 v6 v7 (hd _ rfl) (by rw [List.length_map]; exact e2) ls c1 c2 c3
    | _ + 4, hv, hi => exact False.elim hi
  case invokespecial i =>
    obtain ⟨q, e1, hi26⟩ := hp_with_of hi
    have hv := V.2.2.1 _ (hp_lk_mem _ _ _ e1)
    obtain ⟨kd, Y'⟩ := q
    match kd, hv, hi26 with
    | 0, hv, hi => exact False.elim hi
    | 1, hv, hi => exact False.elim hi
    | 2, hv, hi => exact False.elim hi
    | 3, hv, hi => exact False.elim hi
    | 4, hv, hi =>
      obtain ⟨as, r, e2, rfl, hi27⟩ := hp_args_of _ _ _ _ hi
      rw [List.append_nil] at hi27
      obtain ⟨a, rest, rfl, hi28⟩ := st_a_of hi27
      obtain ⟨v1, u1, u2, v2, v3, v4, v5, v6, v7⟩ := hv
      refine hp_call_ic B hK O hnt hth (hd _ rfl) v1 v5 hR hl hw hQ hlk hex (fun v hv => List.mem_append_right _ (List.mem_cons_of_mem _ hv)) (fun v hv => by rcases List.mem_cons.mp hv with e | e; (rw [e]; exact List.mem_append_right _ List.mem_cons_self); exact List.mem_append_left _ (List.mem_reverse.mpr e)) (fun σ H ls a1 a2 => ?_) hi28
      rw [List.map_append, List.map_reverse]
      exact hp_inv_I B O v1 u1 u2 v2 v3 v4 v6 v7 (hd _ rfl) (by rw [List.length_map]; exact e2) ls
    | 5, hv, hi =>
      obtain ⟨as, r, e2, rfl, hi29⟩ := hp_args_of _ _ _ _ hi
      rw [List.append_nil] at hi29
      obtain ⟨a, rest, rfl, hi30⟩ := st_a_of hi29
      obtain ⟨host, v1, u1, u2, v2, v3, v4, v5, v6, v7⟩ := hv
      refine hp_call_ic B hK O hnt hth (hd _ rfl) v1 v5 hR hl hw hQ hlk hex (fun v hv => List.mem_append_right _ (List.mem_cons_of_mem _ hv)) (fun v hv => by rcases List.mem_cons.mp hv with e | e; (rw [e]; exact List.mem_append_right _ List.mem_cons_self); exact List.mem_append_left _ (List.mem_reverse.mpr e)) (fun σ H ls a1 a2 => ?_) hi30
      rw [List.map_append, List.map_reverse]
      exact hp_inv_IN B O v1 u1 u2 v2 v3 v4 v6 v7 (hd _ rfl) (by rw [List.length_map]; exact e2) ls
    | 6, hv, hi =>
      obtain ⟨v1, v2, v3⟩ := hv
      change cond (Nat.ble 1 (y_fr Y)) (st_a st fun a r => cond (Nat.ble ((r.map fun v => v.category).sum + 12) (y_lo Y)) (K (pc + 3) lv r h w k n) False) False at hi
      cases hb : Nat.ble 1 (y_fr Y) with
      | false => rw [hb] at hi; exact False.elim hi
      | true =>
        rw [hb] at hi
        obtain ⟨a, r, rfl, hi31⟩ := st_a_of hi
        cases hb2 : Nat.ble ((r.map fun v => v.category).sum + 12) (y_lo Y) with
        | false => rw [hb2] at hi31; exact False.elim hi31
        | true =>
          rw [hb2] at hi31
          exact hs_objInit B hK O v1 v2 v3 (hd _ rfl) (by rw [hR]; exact Nat.le_of_ble_eq_true hb) (by rw [hR]; exact Nat.le_of_ble_eq_true hb2) rfl hi31
    | _ + 7, hv, hi => exact False.elim hi
  case ireturn =>
    obtain ⟨x, r, rfl, hi32⟩ := st_i_of hi
    obtain ⟨ty, e1, rfl, h1, h2⟩ := hp_with_of hi32
    exact hs_ireturn B hK (hrt.trans e1) hlk (hd _ rfl) rfl ⟨h1, by unfold hp_end; rw [hw, hQ]; exact h2⟩
  case lreturn =>
    obtain ⟨x, r, rfl, rfl, e1, h2⟩ := st_l_of hi
    exact hs_lreturn B hK (hrt.trans e1) hlk (hd _ rfl) rfl (by unfold hp_end; rw [hw, hQ]; exact h2)
  case return_ =>
    obtain ⟨rfl, e1, h2⟩ := hi
    exact hs_return B hK (hrt.trans e1) hlk (hd _ rfl) rfl (by unfold hp_end; rw [hw, hQ]; exact h2)
  case areturn =>
    obtain ⟨x, r, rfl, rfl, ⟨t, e1⟩, h2⟩ := st_a_of hi
    exact hs_areturn B hK (hrt.trans e1) (Or.inr ⟨t, rfl⟩) hlk (hd _ rfl) rfl (by unfold hp_end; rw [hw, hQ]; exact h2)
  all_goals exact False.elim hi
def hp_in (i : Nat) (l : List Nat) : Bool := match l with
  | [] => false
  | q :: r => cond (Nat.beq q i) true (hp_in i r)
/-- a run of so many instructions, up to the places where it stops -/
def hp_run (l : Launch) (T : hp_T) (Y : hp_Y) (w0 : Bool) (dk dn : Nat) (Q : hp_R → hp_H → Prop) (stop : List Nat) (f : Nat) (K : hp_K) (pc : Nat) (lv : hp_L) (st : List Value) (h : hp_H) (w : Bool) (k n : Nat) : Prop := match f with
  | 0 => K pc lv st h w k n
  | f + 1 => hp_with (hp_lk (t_code T) pc) fun ins => hp_i l T Y w0 dk dn Q (fun pc lv st h w k n => cond (hp_in pc stop) (K pc lv st h w k n) (hp_run l T Y w0 dk dn Q stop f K pc lv st h w k n)) ins pc lv st h w k n
theorem hp_run_sound {T : hp_T} {Y : hp_Y} {l : Launch} {w0 : Bool} {dk dn : Nat} {Q : hp_R → hp_H → Prop} {G : hp_G} (hco : hp_clsok) (V : hp_val T Y) (C : hp_ctx T Y l w0 dk dn Q G) {K : hp_K} (hK : ∀ pc lv st h w k n, K pc lv st h w k n → hp_W G pc lv st h w k n) (stop : List Nat) :
    ∀ (f : Nat) (pc : Nat) (lv : hp_L) (st : List Value) (h : hp_H) (w : Bool) (k n : Nat), hp_run l T Y w0 dk dn Q stop f K pc lv st h w k n → hp_W G pc lv st h w k n
  | 0, pc, lv, st, h, w, k, n, hi => hK _ _ _ _ _ _ _ hi
  | f + 1, pc, lv, st, h, w, k, n, hi => by
    obtain ⟨ins, e1, hi⟩ := hp_with_of hi
    refine hp_i_sound hco V C (fun pc lv st h w k n hq => ?_) e1 hi
    cases hb : hp_in pc stop with
    | true => rw [hb] at hq; exact hK _ _ _ _ _ _ _ hq
    | false => rw [hb] at hq; exact hp_run_sound hco V C hK stop f pc lv st h w k n hq
/-! the start of a method -/
theorem hp_args_map (σ : List Nat) : ∀ (av : List Value) (i : Nat), lv_args i (av.map (hp_cv σ)) = (lv_args i av).map fun q => (q.1, hp_cv σ q.2)
  | [], i => rfl
  | v :: av, i => by
    simp only [List.map_cons, lv_args, hp_cv_cat]
    rw [hp_args_map σ av]
theorem hp_args_ok (σ : List Nat) : ∀ (av : List Value) (i : Nat), (∀ v ∈ av, hp_ok σ v) → ∀ q ∈ lv_args i av, hp_ok σ q.2
  | [], i, _, q, hq => by cases hq
  | v :: av, i, h, q, hq => by
    rcases List.mem_cons.mp hq with e | e
    · rw [e]; exact h v List.mem_cons_self
    · exact hp_args_ok σ av _ (fun v hv => h v (List.mem_cons_of_mem _ hv)) q e
theorem hp_start {T : hp_T} {Y : hp_Y} {l : Launch} {av : List Value} {h : hp_H} {w0 : Bool} {dk dn : Nat} {Q : hp_R → hp_H → Prop} (hy : plainFor (y_nm Y) = true) (hown : t_own T = (y_nm Y).cls) (hlen : ∀ σ, (lg_sl (av.map (hp_cv σ))).length ≤ y_mx Y)
    (body : ∀ G : hp_G, hp_ctx T Y l w0 dk dn Q G → hp_W G 0 (lv_args 0 av) [] h true 0 0) : hp_M l Y av h w0 dk dn Q := by
  intro hnt D z σ
  refine MetFree.of_bodySF (code := y_cc Y) (maxLocals := y_mx Y) (ret := y_rt Y) hy ?_ ?_
  · intro args s m hb hn
    obtain ⟨meth, c, h1, h2, h3, h4, h5, h6, -⟩ := hp_cd_spec hn (atoms_spec (ws := [hp_cd Y]) hb _ List.mem_cons_self)
    exact ⟨meth, c, h1, h2, h3, h4, h5, h6⟩
  · intro p e s m args below meth c s₁ B hml hP _
    obtain ⟨rfl, hav, hrep, hKn, hz, hth⟩ := hP
    obtain ⟨meth2, c2, h1, h2, h3, h4, h5, h6, h7, h8⟩ := hp_cd_spec B.named (atoms_spec (ws := [hp_cd Y]) B.pre _ List.mem_cons_self)
    cases B.method.symm.trans h1
    cases (Stand.of_body B).code.symm.trans h2
    have hh0 : s₁.heap = s.heap := by rw [B.state]; rfl
    have hts : ∀ w ∈ hp_Ts, w.before (av.map (hp_cv σ)).toArray s = true := fun w hw => (hth s (State.WarmedH.refl s) (fun _ _ => rfl)).1 w hw _
    have hW := body (p, l, e, { frames := y_fr Y, cells := dk, slots := dn, locals := y_lo Y }, s, m, (av.map (hp_cv σ)).toArray, below, meth, c, D, z, σ, y_mx Y, w0, Q)
      ⟨⟨B.exec, B.bytes, hml⟩, ⟨hts, by rw [hown]; exact findClass_of_methodNamed B.named, hKn, hz⟩, rfl, rfl, rfl, rfl, rfl, B.returns, B.notSynchronized, (name_of_methodNamed B.named B.method).1, h7, hnt, hth⟩
    have hl := lv_entry (av.map (hp_cv σ)) (n := y_mx Y) (hlen σ)
    have hlv : hp_lv σ (y_mx Y) (lv_args 0 av) ((lg_sl (av.map (hp_cv σ)) ++ List.replicate (y_mx Y - (lg_sl (av.map (hp_cv σ))).length) Slot.unset).toArray) := by
      refine ⟨hl.1, hl.2.1, fun q hq => ⟨hp_args_ok σ av 0 hav q hq, ?_⟩⟩
      refine hl.2.2 (q.1, hp_cv σ q.2) ?_
      rw [hp_args_map]
      exact List.mem_map.mpr ⟨q, hq, rfl⟩
    have hW2 := hW σ s.heap [] _ hrep hp_le_rf hp_fr_rf (fun q hq => by cases hq) (fun _ => rfl) hlv (fun v hv => by cases hv) (Nat.zero_le _) (Nat.zero_le _)
    obtain ⟨t, t1, o, t2, t3, t4⟩ := hW2 s₁ hh0 (Stand.of_body B)
    refine ⟨t, o, ?_, t2, t3, t4⟩
    rw [lg_entry_eq]
    exact t1
end
section
theorem hp_co : hp_clsok := by
  intro ci r h
  match ci, h with
  | 0, h => cases h; exact ⟨la_es, ty_es, nm_es, tm_in (List.mem_of_getElem? (i := 18) (by decide +kernel)), tm_in (List.mem_of_getElem? (i := 1) (by decide +kernel)), df_es, rfl⟩
  | 1, h => cases h; exact ⟨la_po, ty_po, nm_po, tm_in (List.mem_of_getElem? (i := 26) (by decide +kernel)), tm_in (List.mem_of_getElem? (i := 2) (by decide +kernel)), df_po, rfl⟩
  | 2, h => cases h; exact ⟨la_pa, ty_pa, nm_pa, tm_in (List.mem_of_getElem? (i := 57) (by decide +kernel)), tm_in (List.mem_of_getElem? (i := 3) (by decide +kernel)), df_pa, rfl⟩
  | 3, h => cases h; exact ⟨la_mo, ty_mo, nm_mo, tm_in (List.mem_of_getElem? (i := 589) (by decide +kernel)), tm_in (List.mem_of_getElem? (i := 5) (by decide +kernel)), df_mo, rfl⟩
  | k + 4, h => simp [classes] at h
/-- the code table, by a program -/
def hp_okc (cc : ByteArray) (l : List (Nat × Instr)) : Bool := l.all fun q => match decode cc q.1 with
  | .ok (i, len) => decide (i = q.2) && (Nat.beq (hp_len q.2) 0 || Nat.beq len (hp_len q.2))
  | _ => false
theorem hp_okc_of {cc : ByteArray} {l : List (Nat × Instr)} (h : hp_okc cc l = true) : ∀ q ∈ l, ∃ len, decode cc q.1 = .ok (q.2, len) ∧ (hp_len q.2 = 0 ∨ len = hp_len q.2) := by
  intro q hq
  have h1 := List.all_eq_true.mp h q hq
  split at h1
  next i len e =>
    rw [Bool.and_eq_true, Bool.or_eq_true] at h1
    have e1 : i = q.2 := of_decide_eq_true h1.1
    subst e1
    exact ⟨len, e, h1.2.imp Nat.eq_of_beq_eq_true Nat.eq_of_beq_eq_true⟩
  next => cases h1
/-! THE METHODS, printed: name, bytes, locals, type, handlers; frames and words below; arguments -/
def Y_es_init : hp_Y := (⟨"EdgeSweeps", "<init>", "(I)V"⟩, prog_1_method_1_code, 2, none, [], 2, 40, 1)
def Y_po_init : hp_Y := (⟨"EdgeSweeps$Polygons", "<init>", "()V"⟩, prog_4_method_1_code, 1, none, [], 1, 20, 0)
def Y_pa_init : hp_Y := (⟨"EdgeSweeps$Parts", "<init>", "()V"⟩, prog_3_method_1_code, 1, none, [], 1, 20, 0)
def Y_jm_max : hp_Y := (⟨"java/lang/Math", "max", "(II)I"⟩, prog_13_method_65_code, 2, some (.int), [], 0, 0, 2)
def Y_jm_min : hp_Y := (⟨"java/lang/Math", "min", "(II)I"⟩, prog_13_method_69_code, 2, some (.int), [], 0, 0, 2)
def Y_es_clear : hp_Y := (⟨"EdgeSweeps", "clear", "()V"⟩, prog_1_method_16_code, 1, none, [], 1, 20, 0)
def Y_po_forget : hp_Y := (⟨"EdgeSweeps$Polygons", "forget", "()V"⟩, prog_4_method_6_code, 1, none, [], 0, 0, 0)
def Y_la_cell : hp_Y := (⟨"EdgeSweepsLaw", "cell", "([II)I"⟩, method_2_code, 2, some (.int), [], 0, 0, 2)
def Y_la_polygon : hp_Y := (⟨"EdgeSweepsLaw", "polygon", "(LEdgeSweeps;I[J)I"⟩, method_3_code, 4, some (.int), [(0, 9, 12, 13), (0, 9, 15, 15)], 7, 111, 3)
def Y_es_polygon : hp_Y := (⟨"EdgeSweeps", "polygon", "(I)I"⟩, prog_1_method_2_code, 2, some (.int), [], 6, 90, 1)
def Y_es_isBase : hp_Y := (⟨"EdgeSweeps", "isBase", "(I)Z"⟩, prog_1_method_17_code, 2, some (.boolean), [], 0, 0, 1)
def Y_po_isFull : hp_Y := (⟨"EdgeSweeps$Polygons", "isFull", "()Z"⟩, prog_4_method_2_code, 1, some (.boolean), [], 0, 0, 0)
def Y_po_start : hp_Y := (⟨"EdgeSweeps$Polygons", "start", "(I)I"⟩, prog_4_method_5_code, 3, some (.int), [], 0, 0, 1)
def Y_la_corner : hp_Y := (⟨"EdgeSweepsLaw", "corner", "(LEdgeSweeps;IJJ[J)I"⟩, method_4_code, 8, some (.int), [(0, 20, 23, 13), (0, 20, 27, 15), (0, 20, 31, 21)], 7, 115, 5)
def Y_es_corner : hp_Y := (⟨"EdgeSweeps", "corner", "(IJJ)Z"⟩, prog_1_method_3_code, 6, some (.boolean), [], 6, 90, 3)
def Y_po_has : hp_Y := (⟨"EdgeSweeps$Polygons", "has", "(I)Z"⟩, prog_4_method_3_code, 2, some (.boolean), [], 0, 0, 1)
def Y_po_hasAllCorners : hp_Y := (⟨"EdgeSweeps$Polygons", "hasAllCorners", "(I)Z"⟩, prog_4_method_4_code, 2, some (.boolean), [], 0, 0, 1)
def Y_po_extend : hp_Y := (⟨"EdgeSweeps$Polygons", "extend", "(III)Z"⟩, prog_4_method_7_code, 5, some (.boolean), [], 1, 24, 3)
def Y_po_differInOne : hp_Y := (⟨"EdgeSweeps$Polygons", "differInOne", "(IIII)Z"⟩, prog_4_method_8_code, 5, some (.boolean), [], 0, 0, 4)
def Y_la_op : hp_Y := (⟨"EdgeSweepsLaw", "op", "(LEdgeSweeps;III[J)I"⟩, method_5_code, 6, some (.int), [(0, 12, 15, 13), (0, 12, 19, 15), (0, 12, 23, 21)], 9, 178, 5)
def Y_es_op : hp_Y := (⟨"EdgeSweeps", "op", "(III)I"⟩, prog_1_method_4_code, 7, some (.int), [], 8, 152, 3)
def Y_es_needLayer : hp_Y := (⟨"EdgeSweeps", "needLayer", "(I)V"⟩, prog_1_method_18_code, 2, none, [], 7, 111, 1)
def Y_es_needIndex : hp_Y := (⟨"EdgeSweeps", "needIndex", "(II)V"⟩, prog_1_method_19_code, 2, none, [], 6, 90, 2)
def Y_es_needRoomForLayer : hp_Y := (⟨"EdgeSweeps", "needRoomForLayer", "()V"⟩, prog_1_method_20_code, 1, none, [], 6, 90, 0)
def Y_es_areaOf : hp_Y := (⟨"EdgeSweeps", "areaOf", "(I[J)[J"⟩, prog_1_method_22_code, 4, some ((.array .long)), [], 3, 73, 2)
def Y_po_paint : hp_Y := (⟨"EdgeSweeps$Polygons", "paint", "(I[J)V"⟩, prog_4_method_10_code, 4, none, [], 2, 50, 2)
def Y_ja_fill : hp_Y := (⟨"java/util/Arrays", "fill", "([JJ)V"⟩, prog_18_method_101_code, 5, none, [], 0, 0, 2)
def Y_po_isOpen : hp_Y := (⟨"EdgeSweeps$Polygons", "isOpen", "(I)Z"⟩, prog_4_method_9_code, 3, some (.boolean), [], 1, 24, 1)
def Y_po_paintOne : hp_Y := (⟨"EdgeSweeps$Polygons", "paintOne", "(I[J)V"⟩, prog_4_method_11_code, 7, none, [], 1, 24, 2)
def Y_ro_leftOf : hp_Y := (⟨"EdgeSweeps$Rows", "leftOf", "(I)J"⟩, prog_5_method_3_code, 1, some (.long), [], 0, 0, 1)
def Y_ro_complement : hp_Y := (⟨"EdgeSweeps$Rows", "complement", "([J[J)V"⟩, prog_5_method_12_code, 3, none, [], 0, 0, 2)
def Y_pa_findShapes : hp_Y := (⟨"EdgeSweeps$Parts", "findShapes", "([J)V"⟩, prog_3_method_2_code, 3, none, [], 4, 108, 1)
def Y_pa_cutRuns : hp_Y := (⟨"EdgeSweeps$Parts", "cutRuns", "([J)V"⟩, prog_3_method_11_code, 7, none, [], 2, 42, 1)
def Y_ro_countRuns : hp_Y := (⟨"EdgeSweeps$Rows", "countRuns", "(J)I"⟩, prog_5_method_5_code, 2, some (.int), [], 1, 21, 1)
def Y_ro_starts : hp_Y := (⟨"EdgeSweeps$Rows", "starts", "(J)J"⟩, prog_5_method_4_code, 2, some (.long), [], 0, 0, 1)
def Y_jl_bitCount : hp_Y := (⟨"java/lang/Long", "bitCount", "(J)I"⟩, prog_12_method_50_code, 2, some (.int), [], 0, 0, 1)
def Y_ro_firstRun : hp_Y := (⟨"EdgeSweeps$Rows", "firstRun", "(J)J"⟩, prog_5_method_6_code, 2, some (.long), [], 0, 0, 1)
def Y_pa_joinRuns : hp_Y := (⟨"EdgeSweeps$Parts", "joinRuns", "([J[II)V"⟩, prog_3_method_12_code, 8, none, [], 3, 81, 3)
def Y_ro_widened : hp_Y := (⟨"EdgeSweeps$Rows", "widened", "(JI)J"⟩, prog_5_method_15_code, 7, some (.long), [], 1, 21, 2)
def Y_pa_joinContact : hp_Y := (⟨"EdgeSweeps$Parts", "joinContact", "(JJII[I)V"⟩, prog_3_method_13_code, 15, none, [], 2, 47, 5)
def Y_pa_join : hp_Y := (⟨"EdgeSweeps$Parts", "join", "(II[I)V"⟩, prog_3_method_14_code, 5, none, [], 1, 23, 3)
def Y_pa_headOf : hp_Y := (⟨"EdgeSweeps$Parts", "headOf", "(I[I)I"⟩, prog_3_method_15_code, 4, some (.int), [], 0, 0, 2)
def Y_pa_markMeeting : hp_Y := (⟨"EdgeSweeps$Parts", "markMeeting", "([J)V"⟩, prog_3_method_7_code, 4, none, [], 0, 0, 1)
def Y_pa_gather : hp_Y := (⟨"EdgeSweeps$Parts", "gather", "(Z[J)V"⟩, prog_3_method_9_code, 5, none, [], 0, 0, 2)
def Y_es_markTouching : hp_Y := (⟨"EdgeSweeps", "markTouching", "([J[J)V"⟩, prog_1_method_23_code, 3, none, [], 5, 130, 2)
def Y_ro_resize : hp_Y := (⟨"EdgeSweeps$Rows", "resize", "([J[JIIZ)V"⟩, prog_5_method_13_code, 5, none, [], 3, 70, 5)
def Y_ro_copy : hp_Y := (⟨"EdgeSweeps$Rows", "copy", "([J[J)V"⟩, prog_5_method_11_code, 2, none, [], 1, 40, 2)
def Y_ro_resizeAlongX : hp_Y := (⟨"EdgeSweeps$Rows", "resizeAlongX", "([JIZ)V"⟩, prog_5_method_14_code, 4, none, [], 2, 47, 3)
def Y_ro_narrowed : hp_Y := (⟨"EdgeSweeps$Rows", "narrowed", "(JI)J"⟩, prog_5_method_16_code, 7, some (.long), [], 1, 21, 2)
def Y_ro_turn : hp_Y := (⟨"EdgeSweeps$Rows", "turn", "([J)V"⟩, prog_5_method_17_code, 7, none, [], 1, 20, 1)
def Y_es_combine : hp_Y := (⟨"EdgeSweeps", "combine", "(I[J[J[J)V"⟩, prog_1_method_24_code, 5, none, [], 1, 24, 4)
def Y_es_combineRow : hp_Y := (⟨"EdgeSweeps", "combineRow", "(IJJ)J"⟩, prog_1_method_25_code, 5, some (.long), [], 0, 0, 3)
def Y_es_addMade : hp_Y := (⟨"EdgeSweeps", "addMade", "()I"⟩, prog_1_method_21_code, 2, some (.int), [], 0, 0, 0)
def Y_la_size : hp_Y := (⟨"EdgeSweepsLaw", "size", "(LEdgeSweeps;IJZ[J)I"⟩, method_6_code, 7, some (.int), [(0, 13, 16, 13), (0, 13, 20, 15), (0, 13, 24, 21)], 9, 161, 5)
def Y_es_size : hp_Y := (⟨"EdgeSweeps", "size", "(IJZ)I"⟩, prog_1_method_5_code, 10, some (.int), [], 8, 132, 3)
def Y_la_shapes : hp_Y := (⟨"EdgeSweepsLaw", "shapes", "(LEdgeSweeps;I[J)I"⟩, method_7_code, 4, some (.int), [(0, 9, 12, 13)], 9, 153, 3)
def Y_es_shapes : hp_Y := (⟨"EdgeSweeps", "shapes", "(I)I"⟩, prog_1_method_6_code, 2, some (.int), [], 8, 132, 1)
def Y_pa_countShapes : hp_Y := (⟨"EdgeSweeps$Parts", "countShapes", "()I"⟩, prog_3_method_4_code, 1, some (.int), [], 0, 0, 0)
def Y_la_at : hp_Y := (⟨"EdgeSweepsLaw", "at", "(LEdgeSweeps;IIII[J)I"⟩, method_8_code, 7, some (.int), [(0, 13, 16, 13)], 9, 156, 6)
def Y_es_at : hp_Y := (⟨"EdgeSweeps", "at", "(IIII)J"⟩, prog_1_method_7_code, 5, some (.long), [], 8, 132, 4)
def Y_pa_copyShape : hp_Y := (⟨"EdgeSweeps$Parts", "copyShape", "(I[J)V"⟩, prog_3_method_10_code, 5, none, [], 0, 0, 2)
def Y_li_cornerFact : hp_Y := (⟨"EdgeSweeps$Lines", "cornerFact", "([JII)I"⟩, prog_2_method_13_code, 13, some (.int), [], 6, 90, 3)
def Y_ro_row : hp_Y := (⟨"EdgeSweeps$Rows", "row", "([JI)J"⟩, prog_5_method_2_code, 2, some (.long), [], 0, 0, 2)
def Y_li_cornersBetween : hp_Y := (⟨"EdgeSweeps$Lines", "cornersBetween", "(JJ)J"⟩, prog_2_method_14_code, 8, some (.long), [], 0, 0, 2)
def Y_ro_placeOf : hp_Y := (⟨"EdgeSweeps$Rows", "placeOf", "(JI)I"⟩, prog_5_method_8_code, 6, some (.int), [], 2, 42, 2)
def Y_ro_firstPlace : hp_Y := (⟨"EdgeSweeps$Rows", "firstPlace", "(J)I"⟩, prog_5_method_7_code, 2, some (.int), [], 1, 21, 1)
def Y_la_in : hp_Y := (⟨"EdgeSweepsLaw", "in", "(LEdgeSweeps;IJJ[J)I"⟩, method_9_code, 8, some (.int), [(0, 20, 23, 13)], 9, 159, 5)
def Y_es_in : hp_Y := (⟨"EdgeSweeps", "in", "(IJJ)Z"⟩, prog_1_method_8_code, 8, some (.boolean), [], 8, 132, 3)
def Y_la_area2 : hp_Y := (⟨"EdgeSweepsLaw", "area2", "(LEdgeSweeps;II[J)I"⟩, method_10_code, 5, some (.int), [(0, 9, 12, 13)], 9, 155, 4)
def Y_es_area2 : hp_Y := (⟨"EdgeSweeps", "area2", "(II)J"⟩, prog_1_method_9_code, 4, some (.long), [], 8, 132, 2)
def Y_ro_countSquares : hp_Y := (⟨"EdgeSweeps$Rows", "countSquares", "([J)I"⟩, prog_5_method_10_code, 3, some (.int), [], 1, 21, 1)
def Y_li_totalLength : hp_Y := (⟨"EdgeSweeps$Lines", "totalLength", "([J)I"⟩, prog_2_method_6_code, 5, some (.int), [], 2, 42, 1)
def Y_la_touching : hp_Y := (⟨"EdgeSweepsLaw", "touching", "(LEdgeSweeps;III[J)I"⟩, method_11_code, 6, some (.int), [(0, 12, 15, 13)], 9, 175, 5)
def Y_es_touching : hp_Y := (⟨"EdgeSweeps", "touching", "(III)I"⟩, prog_1_method_10_code, 4, some (.int), [], 8, 152, 3)
def Y_pa_markedShape : hp_Y := (⟨"EdgeSweeps$Parts", "markedShape", "(I)I"⟩, prog_3_method_8_code, 4, some (.int), [], 0, 0, 1)
def Y_la_nets : hp_Y := (⟨"EdgeSweepsLaw", "nets", "(LEdgeSweeps;I[J)I"⟩, method_12_code, 4, some (.int), [(0, 9, 12, 13)], 9, 154, 3)
def Y_es_nets : hp_Y := (⟨"EdgeSweeps", "nets", "(I)I"⟩, prog_1_method_11_code, 3, some (.int), [], 8, 132, 1)
def Y_pa_findNets : hp_Y := (⟨"EdgeSweeps$Parts", "findNets", "([J)V"⟩, prog_3_method_3_code, 2, none, [], 4, 108, 1)
def Y_pa_countNets : hp_Y := (⟨"EdgeSweeps$Parts", "countNets", "()I"⟩, prog_3_method_5_code, 3, some (.int), [], 0, 0, 0)
def Y_la_netOf : hp_Y := (⟨"EdgeSweepsLaw", "netOf", "(LEdgeSweeps;II[J)I"⟩, method_13_code, 5, some (.int), [(0, 10, 13, 13)], 9, 155, 4)
def Y_es_netOf : hp_Y := (⟨"EdgeSweeps", "netOf", "(II)I"⟩, prog_1_method_12_code, 4, some (.int), [], 8, 132, 2)
def Y_pa_leastOfNet : hp_Y := (⟨"EdgeSweeps$Parts", "leastOfNet", "(I)I"⟩, prog_3_method_6_code, 3, some (.int), [], 0, 0, 1)
def Y_la_strips : hp_Y := (⟨"EdgeSweepsLaw", "strips", "(LEdgeSweeps;I[J)I"⟩, method_14_code, 4, some (.int), [(0, 9, 12, 13)], 7, 112, 3)
def Y_es_strips : hp_Y := (⟨"EdgeSweeps", "strips", "(I)I"⟩, prog_1_method_13_code, 3, some (.int), [], 6, 90, 1)
def Y_la_edge : hp_Y := (⟨"EdgeSweepsLaw", "edge", "(LEdgeSweeps;III[J)I"⟩, method_15_code, 6, some (.int), [(0, 12, 15, 13)], 9, 157, 5)
def Y_es_edge : hp_Y := (⟨"EdgeSweeps", "edge", "(III)I"⟩, prog_1_method_14_code, 6, some (.int), [], 8, 132, 3)
def Y_li_countLying : hp_Y := (⟨"EdgeSweeps$Lines", "countLying", "([J)I"⟩, prog_2_method_5_code, 3, some (.int), [], 3, 63, 1)
def Y_li_lyingStarts : hp_Y := (⟨"EdgeSweeps$Lines", "lyingStarts", "([JI)J"⟩, prog_2_method_4_code, 2, some (.long), [], 2, 42, 2)
def Y_li_areaAbove : hp_Y := (⟨"EdgeSweeps$Lines", "areaAbove", "([JI)J"⟩, prog_2_method_2_code, 2, some (.long), [], 1, 21, 2)
def Y_li_areaBelow : hp_Y := (⟨"EdgeSweeps$Lines", "areaBelow", "([JI)J"⟩, prog_2_method_3_code, 2, some (.long), [], 1, 21, 2)
def Y_li_lyingFact : hp_Y := (⟨"EdgeSweeps$Lines", "lyingFact", "([JII)I"⟩, prog_2_method_7_code, 8, some (.int), [], 6, 90, 3)
def Y_li_lyingFactAt : hp_Y := (⟨"EdgeSweeps$Lines", "lyingFactAt", "([JIII)I"⟩, prog_2_method_8_code, 7, some (.int), [], 3, 64, 4)
def Y_ro_runEnd : hp_Y := (⟨"EdgeSweeps$Rows", "runEnd", "(JI)I"⟩, prog_5_method_9_code, 3, some (.int), [], 2, 42, 2)
def Y_li_turnedFact : hp_Y := (⟨"EdgeSweeps$Lines", "turnedFact", "(I)I"⟩, prog_2_method_9_code, 1, some (.int), [], 0, 0, 1)
def Y_la_trapezoid : hp_Y := (⟨"EdgeSweepsLaw", "trapezoid", "(LEdgeSweeps;III[J)I"⟩, method_16_code, 6, some (.int), [(0, 12, 15, 13)], 9, 155, 5)
def Y_es_trapezoid : hp_Y := (⟨"EdgeSweeps", "trapezoid", "(III)I"⟩, prog_1_method_15_code, 4, some (.int), [], 8, 132, 3)
def Y_li_boxFact : hp_Y := (⟨"EdgeSweeps$Lines", "boxFact", "([JII)I"⟩, prog_2_method_10_code, 8, some (.int), [], 6, 90, 3)
def Y_li_boxFactAt : hp_Y := (⟨"EdgeSweeps$Lines", "boxFactAt", "([JIII)I"⟩, prog_2_method_11_code, 4, some (.int), [], 3, 64, 4)
def Y_li_sameRowsEnd : hp_Y := (⟨"EdgeSweeps$Lines", "sameRowsEnd", "([JI)I"⟩, prog_2_method_12_code, 3, some (.int), [], 0, 0, 2)
def Y_mo_init : hp_Y := (⟨"EdgeSweepsModel", "<init>", "(I)V"⟩, prog_7_method_1_code, 2, none, [], 1, 20, 1)
def Y_mo_thrown : hp_Y := (⟨"EdgeSweepsModel", "thrown", "()I"⟩, prog_7_method_2_code, 1, some (.int), [], 0, 0, 0)
def Y_mo_polygon : hp_Y := (⟨"EdgeSweepsModel", "polygon", "(I)I"⟩, prog_7_method_4_code, 2, some (.int), [], 0, 0, 1)
def Y_mo_corner : hp_Y := (⟨"EdgeSweepsModel", "corner", "(IJJ)Z"⟩, prog_7_method_5_code, 7, some (.boolean), [], 0, 0, 3)
def Y_mo_clear : hp_Y := (⟨"EdgeSweepsModel", "clear", "()V"⟩, prog_7_method_6_code, 1, none, [], 0, 0, 0)
def Y_mo_strips : hp_Y := (⟨"EdgeSweepsModel", "strips", "(I)I"⟩, prog_7_method_7_code, 3, some (.int), [], 0, 0, 1)
def Y_mo_op : hp_Y := (⟨"EdgeSweepsModel", "op", "(III)I"⟩, prog_7_method_18_code, 9, some (.int), [], 4, 92, 3)
def Y_mo_isLayer : hp_Y := (⟨"EdgeSweepsModel", "isLayer", "(I)Z"⟩, prog_7_method_3_code, 2, some (.boolean), [], 0, 0, 1)
def Y_mo_load : hp_Y := (⟨"EdgeSweepsModel", "load", "(IZ)V"⟩, prog_7_method_11_code, 8, none, [], 1, 30, 2)
def Y_mo_isClosed : hp_Y := (⟨"EdgeSweepsModel", "isClosed", "(I)Z"⟩, prog_7_method_8_code, 4, some (.boolean), [], 0, 0, 1)
def Y_mo_isIn : hp_Y := (⟨"EdgeSweepsModel", "isIn", "(III)Z"⟩, prog_7_method_9_code, 11, some (.boolean), [], 0, 0, 3)
def Y_mo_relate : hp_Y := (⟨"EdgeSweepsModel", "relate", "()V"⟩, prog_7_method_16_code, 3, none, [], 3, 70, 0)
def Y_mo_label : hp_Y := (⟨"EdgeSweepsModel", "label", "()V"⟩, prog_7_method_14_code, 7, none, [], 2, 44, 0)
def Y_mo_isOne : hp_Y := (⟨"EdgeSweepsModel", "isOne", "(II)Z"⟩, prog_7_method_12_code, 3, some (.boolean), [], 1, 22, 2)
def Y_mo_bit : hp_Y := (⟨"EdgeSweepsModel", "bit", "(JI)Z"⟩, prog_7_method_10_code, 3, some (.boolean), [], 0, 0, 2)
def Y_mo_isTwo : hp_Y := (⟨"EdgeSweepsModel", "isTwo", "(II)Z"⟩, prog_7_method_13_code, 3, some (.boolean), [], 1, 22, 2)
def Y_mo_isTouched : hp_Y := (⟨"EdgeSweepsModel", "isTouched", "(II)Z"⟩, prog_7_method_15_code, 6, some (.boolean), [], 2, 44, 2)
def Y_mo_keep : hp_Y := (⟨"EdgeSweepsModel", "keep", "()I"⟩, prog_7_method_17_code, 2, some (.int), [], 0, 0, 0)
def Y_mo_size : hp_Y := (⟨"EdgeSweepsModel", "size", "(IJZ)I"⟩, prog_7_method_20_code, 12, some (.int), [], 3, 74, 3)
def Y_mo_isRound : hp_Y := (⟨"EdgeSweepsModel", "isRound", "(IIIIZ)Z"⟩, prog_7_method_19_code, 11, some (.boolean), [], 2, 44, 5)
def Y_mo_shapes : hp_Y := (⟨"EdgeSweepsModel", "shapes", "(I)I"⟩, prog_7_method_22_code, 2, some (.int), [], 4, 91, 1)
def Y_mo_isReady : hp_Y := (⟨"EdgeSweepsModel", "isReady", "(I)Z"⟩, prog_7_method_21_code, 2, some (.boolean), [], 3, 70, 1)
def Y_mo_at : hp_Y := (⟨"EdgeSweepsModel", "at", "(IIII)J"⟩, prog_7_method_25_code, 8, some (.long), [], 4, 91, 4)
def Y_mo_isCorner : hp_Y := (⟨"EdgeSweepsModel", "isCorner", "(III)Z"⟩, prog_7_method_24_code, 9, some (.boolean), [], 1, 23, 3)
def Y_mo_isOf : hp_Y := (⟨"EdgeSweepsModel", "isOf", "(III)Z"⟩, prog_7_method_23_code, 4, some (.boolean), [], 0, 0, 3)
def Y_mo_in : hp_Y := (⟨"EdgeSweepsModel", "in", "(IJJ)Z"⟩, prog_7_method_26_code, 6, some (.boolean), [], 2, 57, 3)
def Y_mo_touching : hp_Y := (⟨"EdgeSweepsModel", "touching", "(III)I"⟩, prog_7_method_27_code, 6, some (.int), [], 4, 92, 3)
def Y_mo_nets : hp_Y := (⟨"EdgeSweepsModel", "nets", "(I)I"⟩, prog_7_method_29_code, 4, some (.int), [], 4, 91, 1)
def Y_mo_join : hp_Y := (⟨"EdgeSweepsModel", "join", "()V"⟩, prog_7_method_28_code, 9, none, [], 2, 44, 0)
def Y_mo_netOf : hp_Y := (⟨"EdgeSweepsModel", "netOf", "(II)I"⟩, prog_7_method_30_code, 3, some (.int), [], 4, 91, 2)
def Y_mo_edge : hp_Y := (⟨"EdgeSweepsModel", "edge", "(III)I"⟩, prog_7_method_34_code, 6, some (.int), [], 4, 95, 3)
def Y_mo_findEdge : hp_Y := (⟨"EdgeSweepsModel", "findEdge", "(IZ)I"⟩, prog_7_method_33_code, 8, some (.int), [], 3, 68, 2)
def Y_mo_lying : hp_Y := (⟨"EdgeSweepsModel", "lying", "(II)I"⟩, prog_7_method_31_code, 5, some (.int), [], 2, 44, 2)
def Y_mo_standing : hp_Y := (⟨"EdgeSweepsModel", "standing", "(II)I"⟩, prog_7_method_32_code, 5, some (.int), [], 2, 44, 2)
def Y_mo_area2 : hp_Y := (⟨"EdgeSweepsModel", "area2", "(II)J"⟩, prog_7_method_35_code, 9, some (.long), [], 3, 68, 2)
def Y_mo_trapezoid : hp_Y := (⟨"EdgeSweepsModel", "trapezoid", "(III)I"⟩, prog_7_method_37_code, 9, some (.int), [], 4, 91, 3)
def Y_mo_isLine : hp_Y := (⟨"EdgeSweepsModel", "isLine", "(I)Z"⟩, prog_7_method_36_code, 4, some (.boolean), [], 3, 68, 1)
theorem cd_es_init : hp_cd Y_es_init ∈ hp_Ts := tm_in (List.mem_of_getElem? (i := 21) (by decide +kernel))
theorem cd_po_init : hp_cd Y_po_init ∈ hp_Ts := tm_in (List.mem_of_getElem? (i := 29) (by decide +kernel))
theorem cd_pa_init : hp_cd Y_pa_init ∈ hp_Ts := tm_in (List.mem_of_getElem? (i := 60) (by decide +kernel))
theorem cd_jm_max : hp_cd Y_jm_max ∈ hp_Ts := tm_in (List.mem_of_getElem? (i := 90) (by decide +kernel))
theorem cd_jm_min : hp_cd Y_jm_min ∈ hp_Ts := tm_in (List.mem_of_getElem? (i := 94) (by decide +kernel))
theorem cd_es_clear : hp_cd Y_es_clear ∈ hp_Ts := tm_in (List.mem_of_getElem? (i := 126) (by decide +kernel))
theorem cd_po_forget : hp_cd Y_po_forget ∈ hp_Ts := tm_in (List.mem_of_getElem? (i := 130) (by decide +kernel))
theorem cd_la_cell : hp_cd Y_la_cell ∈ hp_Ts := tm_in (List.mem_of_getElem? (i := 133) (by decide +kernel))
theorem cd_la_polygon : hp_cd Y_la_polygon ∈ hp_Ts := tm_in (List.mem_of_getElem? (i := 136) (by decide +kernel))
theorem cd_es_polygon : hp_cd Y_es_polygon ∈ hp_Ts := tm_in (List.mem_of_getElem? (i := 142) (by decide +kernel))
theorem cd_es_isBase : hp_cd Y_es_isBase ∈ hp_Ts := tm_in (List.mem_of_getElem? (i := 146) (by decide +kernel))
theorem cd_po_isFull : hp_cd Y_po_isFull ∈ hp_Ts := tm_in (List.mem_of_getElem? (i := 218) (by decide +kernel))
theorem cd_po_start : hp_cd Y_po_start ∈ hp_Ts := tm_in (List.mem_of_getElem? (i := 238) (by decide +kernel))
theorem cd_la_corner : hp_cd Y_la_corner ∈ hp_Ts := tm_in (List.mem_of_getElem? (i := 241) (by decide +kernel))
theorem cd_es_corner : hp_cd Y_es_corner ∈ hp_Ts := tm_in (List.mem_of_getElem? (i := 246) (by decide +kernel))
theorem cd_po_has : hp_cd Y_po_has ∈ hp_Ts := tm_in (List.mem_of_getElem? (i := 250) (by decide +kernel))
theorem cd_po_hasAllCorners : hp_cd Y_po_hasAllCorners ∈ hp_Ts := tm_in (List.mem_of_getElem? (i := 255) (by decide +kernel))
theorem cd_po_extend : hp_cd Y_po_extend ∈ hp_Ts := tm_in (List.mem_of_getElem? (i := 277) (by decide +kernel))
theorem cd_po_differInOne : hp_cd Y_po_differInOne ∈ hp_Ts := tm_in (List.mem_of_getElem? (i := 281) (by decide +kernel))
theorem cd_la_op : hp_cd Y_la_op ∈ hp_Ts := tm_in (List.mem_of_getElem? (i := 284) (by decide +kernel))
theorem cd_es_op : hp_cd Y_es_op ∈ hp_Ts := tm_in (List.mem_of_getElem? (i := 288) (by decide +kernel))
theorem cd_es_needLayer : hp_cd Y_es_needLayer ∈ hp_Ts := tm_in (List.mem_of_getElem? (i := 292) (by decide +kernel))
theorem cd_es_needIndex : hp_cd Y_es_needIndex ∈ hp_Ts := tm_in (List.mem_of_getElem? (i := 295) (by decide +kernel))
theorem cd_es_needRoomForLayer : hp_cd Y_es_needRoomForLayer ∈ hp_Ts := tm_in (List.mem_of_getElem? (i := 300) (by decide +kernel))
theorem cd_es_areaOf : hp_cd Y_es_areaOf ∈ hp_Ts := tm_in (List.mem_of_getElem? (i := 306) (by decide +kernel))
theorem cd_po_paint : hp_cd Y_po_paint ∈ hp_Ts := tm_in (List.mem_of_getElem? (i := 310) (by decide +kernel))
theorem cd_ja_fill : hp_cd Y_ja_fill ∈ hp_Ts := tm_in (List.mem_of_getElem? (i := 313) (by decide +kernel))
theorem cd_po_isOpen : hp_cd Y_po_isOpen ∈ hp_Ts := tm_in (List.mem_of_getElem? (i := 317) (by decide +kernel))
theorem cd_po_paintOne : hp_cd Y_po_paintOne ∈ hp_Ts := tm_in (List.mem_of_getElem? (i := 321) (by decide +kernel))
theorem cd_ro_leftOf : hp_cd Y_ro_leftOf ∈ hp_Ts := tm_in (List.mem_of_getElem? (i := 324) (by decide +kernel))
theorem cd_ro_complement : hp_cd Y_ro_complement ∈ hp_Ts := tm_in (List.mem_of_getElem? (i := 328) (by decide +kernel))
theorem cd_pa_findShapes : hp_cd Y_pa_findShapes ∈ hp_Ts := tm_in (List.mem_of_getElem? (i := 332) (by decide +kernel))
theorem cd_pa_cutRuns : hp_cd Y_pa_cutRuns ∈ hp_Ts := tm_in (List.mem_of_getElem? (i := 336) (by decide +kernel))
theorem cd_ro_countRuns : hp_cd Y_ro_countRuns ∈ hp_Ts := tm_in (List.mem_of_getElem? (i := 339) (by decide +kernel))
theorem cd_ro_starts : hp_cd Y_ro_starts ∈ hp_Ts := tm_in (List.mem_of_getElem? (i := 342) (by decide +kernel))
theorem cd_jl_bitCount : hp_cd Y_jl_bitCount ∈ hp_Ts := tm_in (List.mem_of_getElem? (i := 345) (by decide +kernel))
theorem cd_ro_firstRun : hp_cd Y_ro_firstRun ∈ hp_Ts := tm_in (List.mem_of_getElem? (i := 352) (by decide +kernel))
theorem cd_pa_joinRuns : hp_cd Y_pa_joinRuns ∈ hp_Ts := tm_in (List.mem_of_getElem? (i := 356) (by decide +kernel))
theorem cd_ro_widened : hp_cd Y_ro_widened ∈ hp_Ts := tm_in (List.mem_of_getElem? (i := 359) (by decide +kernel))
theorem cd_pa_joinContact : hp_cd Y_pa_joinContact ∈ hp_Ts := tm_in (List.mem_of_getElem? (i := 363) (by decide +kernel))
theorem cd_pa_join : hp_cd Y_pa_join ∈ hp_Ts := tm_in (List.mem_of_getElem? (i := 368) (by decide +kernel))
theorem cd_pa_headOf : hp_cd Y_pa_headOf ∈ hp_Ts := tm_in (List.mem_of_getElem? (i := 371) (by decide +kernel))
theorem cd_pa_markMeeting : hp_cd Y_pa_markMeeting ∈ hp_Ts := tm_in (List.mem_of_getElem? (i := 376) (by decide +kernel))
theorem cd_pa_gather : hp_cd Y_pa_gather ∈ hp_Ts := tm_in (List.mem_of_getElem? (i := 380) (by decide +kernel))
theorem cd_es_markTouching : hp_cd Y_es_markTouching ∈ hp_Ts := tm_in (List.mem_of_getElem? (i := 384) (by decide +kernel))
theorem cd_ro_resize : hp_cd Y_ro_resize ∈ hp_Ts := tm_in (List.mem_of_getElem? (i := 387) (by decide +kernel))
theorem cd_ro_copy : hp_cd Y_ro_copy ∈ hp_Ts := tm_in (List.mem_of_getElem? (i := 390) (by decide +kernel))
theorem cd_ro_resizeAlongX : hp_cd Y_ro_resizeAlongX ∈ hp_Ts := tm_in (List.mem_of_getElem? (i := 396) (by decide +kernel))
theorem cd_ro_narrowed : hp_cd Y_ro_narrowed ∈ hp_Ts := tm_in (List.mem_of_getElem? (i := 400) (by decide +kernel))
theorem cd_ro_turn : hp_cd Y_ro_turn ∈ hp_Ts := tm_in (List.mem_of_getElem? (i := 403) (by decide +kernel))
theorem cd_es_combine : hp_cd Y_es_combine ∈ hp_Ts := tm_in (List.mem_of_getElem? (i := 407) (by decide +kernel))
theorem cd_es_combineRow : hp_cd Y_es_combineRow ∈ hp_Ts := tm_in (List.mem_of_getElem? (i := 410) (by decide +kernel))
theorem cd_es_addMade : hp_cd Y_es_addMade ∈ hp_Ts := tm_in (List.mem_of_getElem? (i := 415) (by decide +kernel))
theorem cd_la_size : hp_cd Y_la_size ∈ hp_Ts := tm_in (List.mem_of_getElem? (i := 418) (by decide +kernel))
theorem cd_es_size : hp_cd Y_es_size ∈ hp_Ts := tm_in (List.mem_of_getElem? (i := 422) (by decide +kernel))
theorem cd_la_shapes : hp_cd Y_la_shapes ∈ hp_Ts := tm_in (List.mem_of_getElem? (i := 427) (by decide +kernel))
theorem cd_es_shapes : hp_cd Y_es_shapes ∈ hp_Ts := tm_in (List.mem_of_getElem? (i := 431) (by decide +kernel))
theorem cd_pa_countShapes : hp_cd Y_pa_countShapes ∈ hp_Ts := tm_in (List.mem_of_getElem? (i := 435) (by decide +kernel))
theorem cd_la_at : hp_cd Y_la_at ∈ hp_Ts := tm_in (List.mem_of_getElem? (i := 438) (by decide +kernel))
theorem cd_es_at : hp_cd Y_es_at ∈ hp_Ts := tm_in (List.mem_of_getElem? (i := 442) (by decide +kernel))
theorem cd_pa_copyShape : hp_cd Y_pa_copyShape ∈ hp_Ts := tm_in (List.mem_of_getElem? (i := 446) (by decide +kernel))
theorem cd_li_cornerFact : hp_cd Y_li_cornerFact ∈ hp_Ts := tm_in (List.mem_of_getElem? (i := 449) (by decide +kernel))
theorem cd_ro_row : hp_cd Y_ro_row ∈ hp_Ts := tm_in (List.mem_of_getElem? (i := 452) (by decide +kernel))
theorem cd_li_cornersBetween : hp_cd Y_li_cornersBetween ∈ hp_Ts := tm_in (List.mem_of_getElem? (i := 455) (by decide +kernel))
theorem cd_ro_placeOf : hp_cd Y_ro_placeOf ∈ hp_Ts := tm_in (List.mem_of_getElem? (i := 459) (by decide +kernel))
theorem cd_ro_firstPlace : hp_cd Y_ro_firstPlace ∈ hp_Ts := tm_in (List.mem_of_getElem? (i := 462) (by decide +kernel))
theorem cd_la_in : hp_cd Y_la_in ∈ hp_Ts := tm_in (List.mem_of_getElem? (i := 468) (by decide +kernel))
theorem cd_es_in : hp_cd Y_es_in ∈ hp_Ts := tm_in (List.mem_of_getElem? (i := 472) (by decide +kernel))
theorem cd_la_area2 : hp_cd Y_la_area2 ∈ hp_Ts := tm_in (List.mem_of_getElem? (i := 476) (by decide +kernel))
theorem cd_es_area2 : hp_cd Y_es_area2 ∈ hp_Ts := tm_in (List.mem_of_getElem? (i := 480) (by decide +kernel))
theorem cd_ro_countSquares : hp_cd Y_ro_countSquares ∈ hp_Ts := tm_in (List.mem_of_getElem? (i := 484) (by decide +kernel))
theorem cd_li_totalLength : hp_cd Y_li_totalLength ∈ hp_Ts := tm_in (List.mem_of_getElem? (i := 487) (by decide +kernel))
theorem cd_la_touching : hp_cd Y_la_touching ∈ hp_Ts := tm_in (List.mem_of_getElem? (i := 491) (by decide +kernel))
theorem cd_es_touching : hp_cd Y_es_touching ∈ hp_Ts := tm_in (List.mem_of_getElem? (i := 495) (by decide +kernel))
theorem cd_pa_markedShape : hp_cd Y_pa_markedShape ∈ hp_Ts := tm_in (List.mem_of_getElem? (i := 500) (by decide +kernel))
theorem cd_la_nets : hp_cd Y_la_nets ∈ hp_Ts := tm_in (List.mem_of_getElem? (i := 503) (by decide +kernel))
theorem cd_es_nets : hp_cd Y_es_nets ∈ hp_Ts := tm_in (List.mem_of_getElem? (i := 507) (by decide +kernel))
theorem cd_pa_findNets : hp_cd Y_pa_findNets ∈ hp_Ts := tm_in (List.mem_of_getElem? (i := 511) (by decide +kernel))
theorem cd_pa_countNets : hp_cd Y_pa_countNets ∈ hp_Ts := tm_in (List.mem_of_getElem? (i := 515) (by decide +kernel))
theorem cd_la_netOf : hp_cd Y_la_netOf ∈ hp_Ts := tm_in (List.mem_of_getElem? (i := 518) (by decide +kernel))
theorem cd_es_netOf : hp_cd Y_es_netOf ∈ hp_Ts := tm_in (List.mem_of_getElem? (i := 522) (by decide +kernel))
theorem cd_pa_leastOfNet : hp_cd Y_pa_leastOfNet ∈ hp_Ts := tm_in (List.mem_of_getElem? (i := 526) (by decide +kernel))
theorem cd_la_strips : hp_cd Y_la_strips ∈ hp_Ts := tm_in (List.mem_of_getElem? (i := 529) (by decide +kernel))
theorem cd_es_strips : hp_cd Y_es_strips ∈ hp_Ts := tm_in (List.mem_of_getElem? (i := 533) (by decide +kernel))
theorem cd_la_edge : hp_cd Y_la_edge ∈ hp_Ts := tm_in (List.mem_of_getElem? (i := 537) (by decide +kernel))
theorem cd_es_edge : hp_cd Y_es_edge ∈ hp_Ts := tm_in (List.mem_of_getElem? (i := 541) (by decide +kernel))
theorem cd_li_countLying : hp_cd Y_li_countLying ∈ hp_Ts := tm_in (List.mem_of_getElem? (i := 544) (by decide +kernel))
theorem cd_li_lyingStarts : hp_cd Y_li_lyingStarts ∈ hp_Ts := tm_in (List.mem_of_getElem? (i := 547) (by decide +kernel))
theorem cd_li_areaAbove : hp_cd Y_li_areaAbove ∈ hp_Ts := tm_in (List.mem_of_getElem? (i := 550) (by decide +kernel))
theorem cd_li_areaBelow : hp_cd Y_li_areaBelow ∈ hp_Ts := tm_in (List.mem_of_getElem? (i := 555) (by decide +kernel))
theorem cd_li_lyingFact : hp_cd Y_li_lyingFact ∈ hp_Ts := tm_in (List.mem_of_getElem? (i := 558) (by decide +kernel))
theorem cd_li_lyingFactAt : hp_cd Y_li_lyingFactAt ∈ hp_Ts := tm_in (List.mem_of_getElem? (i := 561) (by decide +kernel))
theorem cd_ro_runEnd : hp_cd Y_ro_runEnd ∈ hp_Ts := tm_in (List.mem_of_getElem? (i := 564) (by decide +kernel))
theorem cd_li_turnedFact : hp_cd Y_li_turnedFact ∈ hp_Ts := tm_in (List.mem_of_getElem? (i := 570) (by decide +kernel))
theorem cd_la_trapezoid : hp_cd Y_la_trapezoid ∈ hp_Ts := tm_in (List.mem_of_getElem? (i := 573) (by decide +kernel))
theorem cd_es_trapezoid : hp_cd Y_es_trapezoid ∈ hp_Ts := tm_in (List.mem_of_getElem? (i := 577) (by decide +kernel))
theorem cd_li_boxFact : hp_cd Y_li_boxFact ∈ hp_Ts := tm_in (List.mem_of_getElem? (i := 580) (by decide +kernel))
theorem cd_li_boxFactAt : hp_cd Y_li_boxFactAt ∈ hp_Ts := tm_in (List.mem_of_getElem? (i := 583) (by decide +kernel))
theorem cd_li_sameRowsEnd : hp_cd Y_li_sameRowsEnd ∈ hp_Ts := tm_in (List.mem_of_getElem? (i := 586) (by decide +kernel))
theorem cd_mo_init : hp_cd Y_mo_init ∈ hp_Ts := tm_in (List.mem_of_getElem? (i := 592) (by decide +kernel))
theorem cd_mo_thrown : hp_cd Y_mo_thrown ∈ hp_Ts := tm_in (List.mem_of_getElem? (i := 668) (by decide +kernel))
theorem cd_mo_polygon : hp_cd Y_mo_polygon ∈ hp_Ts := tm_in (List.mem_of_getElem? (i := 672) (by decide +kernel))
theorem cd_mo_corner : hp_cd Y_mo_corner ∈ hp_Ts := tm_in (List.mem_of_getElem? (i := 676) (by decide +kernel))
theorem cd_mo_clear : hp_cd Y_mo_clear ∈ hp_Ts := tm_in (List.mem_of_getElem? (i := 681) (by decide +kernel))
theorem cd_mo_strips : hp_cd Y_mo_strips ∈ hp_Ts := tm_in (List.mem_of_getElem? (i := 685) (by decide +kernel))
theorem cd_mo_op : hp_cd Y_mo_op ∈ hp_Ts := tm_in (List.mem_of_getElem? (i := 689) (by decide +kernel))
theorem cd_mo_isLayer : hp_cd Y_mo_isLayer ∈ hp_Ts := tm_in (List.mem_of_getElem? (i := 693) (by decide +kernel))
theorem cd_mo_load : hp_cd Y_mo_load ∈ hp_Ts := tm_in (List.mem_of_getElem? (i := 697) (by decide +kernel))
theorem cd_mo_isClosed : hp_cd Y_mo_isClosed ∈ hp_Ts := tm_in (List.mem_of_getElem? (i := 701) (by decide +kernel))
theorem cd_mo_isIn : hp_cd Y_mo_isIn ∈ hp_Ts := tm_in (List.mem_of_getElem? (i := 705) (by decide +kernel))
theorem cd_mo_relate : hp_cd Y_mo_relate ∈ hp_Ts := tm_in (List.mem_of_getElem? (i := 709) (by decide +kernel))
theorem cd_mo_label : hp_cd Y_mo_label ∈ hp_Ts := tm_in (List.mem_of_getElem? (i := 713) (by decide +kernel))
theorem cd_mo_isOne : hp_cd Y_mo_isOne ∈ hp_Ts := tm_in (List.mem_of_getElem? (i := 717) (by decide +kernel))
theorem cd_mo_bit : hp_cd Y_mo_bit ∈ hp_Ts := tm_in (List.mem_of_getElem? (i := 720) (by decide +kernel))
theorem cd_mo_isTwo : hp_cd Y_mo_isTwo ∈ hp_Ts := tm_in (List.mem_of_getElem? (i := 724) (by decide +kernel))
theorem cd_mo_isTouched : hp_cd Y_mo_isTouched ∈ hp_Ts := tm_in (List.mem_of_getElem? (i := 728) (by decide +kernel))
theorem cd_mo_keep : hp_cd Y_mo_keep ∈ hp_Ts := tm_in (List.mem_of_getElem? (i := 733) (by decide +kernel))
theorem cd_mo_size : hp_cd Y_mo_size ∈ hp_Ts := tm_in (List.mem_of_getElem? (i := 737) (by decide +kernel))
theorem cd_mo_isRound : hp_cd Y_mo_isRound ∈ hp_Ts := tm_in (List.mem_of_getElem? (i := 742) (by decide +kernel))
theorem cd_mo_shapes : hp_cd Y_mo_shapes ∈ hp_Ts := tm_in (List.mem_of_getElem? (i := 746) (by decide +kernel))
theorem cd_mo_isReady : hp_cd Y_mo_isReady ∈ hp_Ts := tm_in (List.mem_of_getElem? (i := 750) (by decide +kernel))
theorem cd_mo_at : hp_cd Y_mo_at ∈ hp_Ts := tm_in (List.mem_of_getElem? (i := 754) (by decide +kernel))
theorem cd_mo_isCorner : hp_cd Y_mo_isCorner ∈ hp_Ts := tm_in (List.mem_of_getElem? (i := 758) (by decide +kernel))
theorem cd_mo_isOf : hp_cd Y_mo_isOf ∈ hp_Ts := tm_in (List.mem_of_getElem? (i := 762) (by decide +kernel))
theorem cd_mo_in : hp_cd Y_mo_in ∈ hp_Ts := tm_in (List.mem_of_getElem? (i := 766) (by decide +kernel))
theorem cd_mo_touching : hp_cd Y_mo_touching ∈ hp_Ts := tm_in (List.mem_of_getElem? (i := 770) (by decide +kernel))
theorem cd_mo_nets : hp_cd Y_mo_nets ∈ hp_Ts := tm_in (List.mem_of_getElem? (i := 774) (by decide +kernel))
theorem cd_mo_join : hp_cd Y_mo_join ∈ hp_Ts := tm_in (List.mem_of_getElem? (i := 778) (by decide +kernel))
theorem cd_mo_netOf : hp_cd Y_mo_netOf ∈ hp_Ts := tm_in (List.mem_of_getElem? (i := 782) (by decide +kernel))
theorem cd_mo_edge : hp_cd Y_mo_edge ∈ hp_Ts := tm_in (List.mem_of_getElem? (i := 786) (by decide +kernel))
theorem cd_mo_findEdge : hp_cd Y_mo_findEdge ∈ hp_Ts := tm_in (List.mem_of_getElem? (i := 790) (by decide +kernel))
theorem cd_mo_lying : hp_cd Y_mo_lying ∈ hp_Ts := tm_in (List.mem_of_getElem? (i := 794) (by decide +kernel))
theorem cd_mo_standing : hp_cd Y_mo_standing ∈ hp_Ts := tm_in (List.mem_of_getElem? (i := 798) (by decide +kernel))
theorem cd_mo_area2 : hp_cd Y_mo_area2 ∈ hp_Ts := tm_in (List.mem_of_getElem? (i := 802) (by decide +kernel))
theorem cd_mo_trapezoid : hp_cd Y_mo_trapezoid ∈ hp_Ts := tm_in (List.mem_of_getElem? (i := 807) (by decide +kernel))
theorem cd_mo_isLine : hp_cd Y_mo_isLine ∈ hp_Ts := tm_in (List.mem_of_getElem? (i := 811) (by decide +kernel))
end
section
/-! THROWS. 'throw new E("text")': new; dup; ldc; invokespecial; athrow. Nothing has been written or made in this method yet. -/
theorem hp_rep_grow {D : va_G} {z : Nat} {u U : State} (hvm : u.vm.Alike U.vm) {σ : List Nat} {h : hp_H} {H H1 : Heap} (r : hp_rep D z u σ h H) (ho : ∀ q, q < H.size → H1[q]? = H[q]?) (hs : ∀ (q : Nat) (cell : Cell), H.size ≤ q → H1[q]? = some cell → cell.vm.isStatics = false) : hp_rep D z U σ h H1 := by
  have hlt := fun k hk => hp_rep_lt r (k := k) hk
  obtain ⟨r1, r2, r3, r4, r5⟩ := hp_rep_moved hvm r
  refine ⟨r1, fun k c hk => ?_, r3, r4, fun q cell hq hc => ?_⟩
  · exact hp_at_to hp_le_rf (ho _ (hlt k (by rw [r1]; exact (List.getElem?_eq_some_iff.mp hk).1))) (r2 k c hk)
  · rcases Nat.lt_or_ge q H.size with hq' | hq'
    · rw [ho q hq'] at hc
      exact r5 q cell hq hc
    · exact hs q cell hq' hc
theorem hp_same_nil {s U : State} {k n : Nat} (h : s.sameButNew ({ U with vm := s.vm } : State) [] k n) : s.heap.size ≤ U.heap.size ∧ U.heap.size ≤ s.heap.size + k ∧ ∀ q : Nat, q < s.heap.size → U.heap[q]? = s.heap[q]? := by
  obtain ⟨-, h2, h3, -, -, h6⟩ := h
  refine ⟨h2, h3, fun q hq => ?_⟩
  obtain ⟨c9, e1, e2, e3, e4⟩ := h6 q _ (Array.getElem?_eq_getElem hq)
  have hs : c9.slots = (s.heap[q]).slots := Array.ext_getElem? fun i => e4 i (fun hm => by cases hm)
  have h9 : c9 = s.heap[q] := by
    rw [hs] at e2
    exact e2
  have e5 : U.heap[q]? = some c9 := e1
  rw [e5, h9, Array.getElem?_eq_getElem hq]
def hp_ups : List String := ["java/lang/RuntimeException", "java/lang/Exception"]
set_option maxHeartbeats 4000000 in
theorem hs_throw {T : hp_T} {Y : hp_Y} {l : Launch} {w0 : Bool} {dk dn : Nat} {Q : hp_R → hp_H → Prop} {G : hp_G} (C : hp_ctx T Y l w0 dk dn Q G) {ik is ic ci pc : Nat} {text : String} {lv : hp_L} {st : List Value} {h : hp_H}
    (hfit : Bundle.fit (hp_exn ci) = true) (hk : Jvm.Cond.classLink (t_own T) ik (hp_exn ci) ∈ hp_Ts) (hini : Jvm.Cond.initialized (hp_exn ci) ∈ hp_Ts) (hstr : (t_own T, is, text) ∈ hp_strs) (hat : ∀ w ∈ Bundle.ownAtoms (t_own T) ic (hp_exn ci) hp_ups, w ∈ hp_Ts)
    (d0 : decode (y_cc Y) pc = .ok (.new ik, 3)) (d3 : decode (y_cc Y) (pc + 3) = .ok (.dup, 1)) (d4 : decode (y_cc Y) (pc + 4) = .ok (.ldc is, 2)) (d6 : decode (y_cc Y) (pc + 6) = .ok (.invokespecial ic, 3)) (d9 : decode (y_cc Y) (pc + 9) = .ok (.athrow, 1))
    (hnil : y_hd Y = []) (hfr : 5 < y_fr Y) (hlo : (st.map fun v => v.category).sum + 82 ≤ y_lo Y) (hdk : 1 ≤ dk) (hdn : 6 ≤ dn) (hi : Q (.inr ci) h) : hp_W G pc lv st h true 0 0 := by
  obtain ⟨B, O, hn, hR, hl, hw, hQ, hrt, hlk, hnm, hex, hnt, hth⟩ := C
  intro σ H locs ls a1 a2 a3 a4 a5 a6 a7 a8 a9 T0 hT X
  have e0 : locs = [] := a5 rfl
  subst e0
  have hheap : T0.heap = (g_s G).heap := by rw [X.home]; rfl
  have hH : H = (g_s G).heap := by rw [← hT]; exact hheap
  obtain ⟨hts, hown, hKn, hzs⟩ := O
  obtain ⟨-, hstrs, -⟩ := hth (g_s G) (State.WarmedH.refl _) (fun _ _ => rfl)
  obtain ⟨sa, hsa1, hsa2⟩ := hstrs _ hstr
  have htr : (g_e G).platform.stackTraces = false := hnt _ (by rw [← hl]; exact X.admits)
  have hins : Jvm.Cond.instantiable (hp_exn ci) 6 ∈ hp_Ts := hat _ (by simp [Bundle.ownAtoms])
  have hcat : ((st.map (hp_cv σ)).map fun v => v.category) = st.map fun v => v.category := by
    rw [List.map_map]
    exact List.map_congr_left fun v _ => hp_cv_cat σ v
  have hnoh : (g_c G).exceptionTable.toList = [] := by
    rw [hnil] at hex
    exact List.map_eq_nil_iff.mp hex
  obtain ⟨vm₁, cX, kX, hfX, hkX, -, -, X₁, st1⟩ := X.newCold B.1 (own := t_own T) (C := hp_exn ci) (index := ik) (n := 6) hown (hts _ hk) (hts _ hins) (hts _ hini)
    (g := F0 (g_m G) pc ls (st.map (hp_cv σ))) rfl (by rw [B.2.1]; exact d0) (by rw [hR]; show 0 + 1 ≤ dk; omega) (by rw [hR]; show 0 + 6 ≤ dn; omega)
  generalize hT1 : (T0.setVm vm₁).pushCell { cls := cX, slots := kX.instanceTypes.map defaultValue, vm := .none } = T1 at X₁ st1
  have hcatr : (Value.ref T0.heap.size).category = 1 := rfl
  have hcellA : T1.heap[T0.heap.size]? = some (freshCell cX kX) := by rw [← hT1]; exact State.heap_pushCell_size _ _
  have d3' : decode (g_c G).code (pc + 3) = .ok (.dup, 1) := by rw [B.2.1]; exact d3
  have d4' : decode (g_c G).code (pc + 4) = .ok (.ldc is, 2) := by rw [B.2.1]; exact d4
  obtain ⟨U, hsteps, hrun, hend, hW, hsame, ce, hce, hO⟩ := X₁.ctorThrowS B.1 htr (own := t_own T) (cls := hp_exn ci) (names := hp_ups) (ic := ic) hown hfit (by decide) (fun w hw => hts _ (hat w hw)) (fun x hx => nomatch hx) hfX hkX hcellA (by rw [hheap]; exact Nat.le_refl _) (msg := .ref sa) rfl
    (g := { method := g_m G, pc := pc + 6, locals := ls, stack := .ref sa :: .ref T0.heap.size :: .ref T0.heap.size :: st.map (hp_cv σ), locked := none }) rfl (a6.1.trans B.2.2.symm) rfl rfl (rest := st.map (hp_cv σ)) rfl
    (by rw [B.2.1]; exact d6) (by rw [B.2.1]; exact d9) (fun x hx => by rw [hnoh] at hx; cases hx) (by rw [hR]; exact hfr) (by rw [hR]; simp only [List.map_cons, List.sum_cons, hcatr, hcat]; show 2 * 0 + _ + (13 * (2 + 1) + 42) ≤ y_lo Y; omega) hlk
  obtain ⟨f1, f2, f3⟩ := hp_same_nil hsame
  have hcl : U.vm.findClass (hp_exn ci) = some ce.cls := by
    rw [hW.alike.findClass]
    exact hO.cls
  refine ⟨U, st1 _ ?_, .threw T0.heap.size, hrun, hend, .inr ci, h, σ, a2, ⟨T0.heap.size, ce, rfl, hce, hO.vm, hcl⟩, ?_, ?_, (by rw [hQ]; exact hi), hW, [], ?_, (fun q hq => by cases hq), fun _ => rfl⟩
  · show Steps (g_p G).tables (g_e G) (g_b G) (T1.setTop { method := g_m G, pc := pc + 3, locals := ls, stack := .ref T0.heap.size :: st.map (hp_cv σ), locked := none }) _
    have hx := B.1
    jvm_step X₁.here [X₁.here.top, hx, d3', Value.category]
    exact X₁.ldcString B.1 (own := t_own T) (text := text) (index := is) (a := sa) hown hsa1 hsa2
      (g := { method := g_m G, pc := pc + 4, locals := ls, stack := .ref T0.heap.size :: .ref T0.heap.size :: st.map (hp_cv σ), locked := none }) rfl d4' _ hsteps
  · rw [hH] at a1
    refine hp_rep_grow hW.alike a1 f3 (fun q cell hq hc => ?_)
    have hql := (Array.getElem?_eq_some_iff.mp hc).1
    have e : q = T0.heap.size := by rw [hheap]; omega
    subst e
    rw [hce] at hc
    cases hc
    rw [hO.vm]; rfl
  · exact ⟨f1, fun q hq => f3 q (Nat.lt_of_lt_of_le hq hzs)⟩
  · rw [hR]
    exact State.sameButNew.mono hsame (by show 0 + 1 ≤ dk; omega) (by show 0 + 6 ≤ dn; omega)
end
