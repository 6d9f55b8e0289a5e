/-! NAMES, printed by wip/whole/gen/gen.py: classes that are made, their fields; exceptions; the words -/
def hp_xs : List Jvm.Cond := [.isRef (.static "java/lang/Throwable" "UNASSIGNED_STACK" "[Ljava/lang/StackTraceElement;"), .isRef (.static "java/lang/Throwable" "SUPPRESSED_SENTINEL" "Ljava/util/List;")]
def hp_Ts : List Jvm.Cond := lw_tbl ++ hp_xs
theorem tm_in {w : Jvm.Cond} (h : w ∈ tables_1) : w ∈ hp_Ts := List.mem_append_left _ (List.mem_append_right _ h)
theorem ts_in {w : Jvm.Cond} (h : w ∈ k2_sels lw_privs) : w ∈ hp_Ts := List.mem_append_left _ (List.mem_append_left _ h)
def hp_strs : List (String × Nat × String) := [("EdgeSweeps", 64, "no such base layer"), ("EdgeSweeps", 75, "there are 16 polygons"), ("EdgeSweeps", 85, "no such polygon"), ("EdgeSweeps", 90, "the polygon has 16 corners"), ("EdgeSweeps", 96, "x or y is not 0 .. 64"), ("EdgeSweeps", 219, "no such thing"), ("EdgeSweeps", 221, "there are 24 made layers"), ("EdgeSweeps", 110, "no such operation"), ("EdgeSweeps", 146, "by is 0 or beyond 64"), ("EdgeSweeps$Lines", 72, "no such corner"), ("EdgeSweeps", 182, "k is below 0"), ("EdgeSweeps", 196, "n is not 1 .. 64"), ("EdgeSweeps$Lines", 51, "no such edge"), ("EdgeSweeps$Lines", 62, "no such box")]
def hp_ncs : List (String × String) := [("java/lang/IndexOutOfBoundsException", "java/lang/IllegalStateException"), ("java/lang/IndexOutOfBoundsException", "java/lang/IllegalArgumentException"), ("java/lang/IllegalStateException", "java/lang/IndexOutOfBoundsException"), ("java/lang/IllegalStateException", "java/lang/IllegalArgumentException"), ("java/lang/IllegalArgumentException", "java/lang/IndexOutOfBoundsException"), ("java/lang/IllegalArgumentException", "java/lang/IllegalStateException")]
def hp_exn (ci : Nat) : String := match ci with
  | 0 => "java/lang/IndexOutOfBoundsException"
  | 1 => "java/lang/IllegalStateException"
  | _ => "java/lang/IllegalArgumentException"
def R_es : String := "EdgeSweeps"
def F_es : u_T := fun k => match k with
  | 0 => ("EdgeSweeps", "baseLayers", "I", true)
  | 1 => ("EdgeSweeps", "polygons", "LEdgeSweeps$Polygons;", true)
  | 2 => ("EdgeSweeps", "made", "[[J", true)
  | 3 => ("EdgeSweeps", "madeCount", "I", false)
  | 4 => ("EdgeSweeps", "stripCount", "I", false)
  | 5 => ("EdgeSweeps", "parts", "LEdgeSweeps$Parts;", true)
  | 6 => ("EdgeSweeps", "first", "[J", true)
  | 7 => ("EdgeSweeps", "second", "[J", true)
  | _ => ("EdgeSweeps", "spare", "[J", true)
def t_es : Nat → FieldType := fun k => match k with
  | 0 => .int
  | 1 => .object "EdgeSweeps$Polygons"
  | 2 => .array (.array .long)
  | 3 => .int
  | 4 => .int
  | 5 => .object "EdgeSweeps$Parts"
  | 6 => .array .long
  | 7 => .array .long
  | _ => .array .long
def R_po : String := "EdgeSweeps$Polygons"
def F_po : u_T := fun k => match k with
  | 0 => ("EdgeSweeps$Polygons", "count", "I", false)
  | 1 => ("EdgeSweeps$Polygons", "layerOf", "[I", true)
  | 2 => ("EdgeSweeps$Polygons", "corners", "[I", true)
  | 3 => ("EdgeSweeps$Polygons", "xs", "[[I", true)
  | 4 => ("EdgeSweeps$Polygons", "ys", "[[I", true)
  | _ => ("EdgeSweeps$Polygons", "flips", "[J", true)
def t_po : Nat → FieldType := fun k => match k with
  | 0 => .int
  | 1 => .array .int
  | 2 => .array .int
  | 3 => .array (.array .int)
  | 4 => .array (.array .int)
  | _ => .array .long
def R_pa : String := "EdgeSweeps$Parts"
def F_pa : u_T := fun k => match k with
  | 0 => ("EdgeSweeps$Parts", "squares", "[J", true)
  | 1 => ("EdgeSweeps$Parts", "shapeHead", "[I", true)
  | 2 => ("EdgeSweeps$Parts", "netHead", "[I", true)
  | 3 => ("EdgeSweeps$Parts", "shapeOf", "[I", true)
  | 4 => ("EdgeSweeps$Parts", "marked", "[Z", true)
  | 5 => ("EdgeSweeps$Parts", "rowStart", "[I", true)
  | 6 => ("EdgeSweeps$Parts", "runCount", "I", false)
  | _ => ("EdgeSweeps$Parts", "shapeCount", "I", false)
def t_pa : Nat → FieldType := fun k => match k with
  | 0 => .array .long
  | 1 => .array .int
  | 2 => .array .int
  | 3 => .array .int
  | 4 => .array .boolean
  | 5 => .array .int
  | 6 => .int
  | _ => .int
def R_mo : String := "EdgeSweepsModel"
def F_mo : u_T := fun k => match k with
  | 0 => ("EdgeSweepsModel", "code", "I", false)
  | 1 => ("EdgeSweepsModel", "layers", "I", true)
  | 2 => ("EdgeSweepsModel", "polygonLayers", "[I", true)
  | 3 => ("EdgeSweepsModel", "counts", "[I", true)
  | 4 => ("EdgeSweepsModel", "cornerX", "[I", true)
  | 5 => ("EdgeSweepsModel", "cornerY", "[I", true)
  | 6 => ("EdgeSweepsModel", "polygons", "I", false)
  | 7 => ("EdgeSweepsModel", "mades", "[J", true)
  | 8 => ("EdgeSweepsModel", "made", "I", false)
  | 9 => ("EdgeSweepsModel", "strips", "I", false)
  | 10 => ("EdgeSweepsModel", "one", "[J", true)
  | 11 => ("EdgeSweepsModel", "two", "[J", true)
  | 12 => ("EdgeSweepsModel", "out", "[J", true)
  | 13 => ("EdgeSweepsModel", "labels", "[I", true)
  | 14 => ("EdgeSweepsModel", "stack", "[I", true)
  | 15 => ("EdgeSweepsModel", "shapeCount", "I", false)
  | 16 => ("EdgeSweepsModel", "netIds", "[I", true)
  | 17 => ("EdgeSweepsModel", "inside", "[Z", true)
  | 18 => ("EdgeSweepsModel", "touches", "[Z", true)
  | 19 => ("EdgeSweepsModel", "line", "I", false)
  | 20 => ("EdgeSweepsModel", "from", "I", false)
  | 21 => ("EdgeSweepsModel", "to", "I", false)
  | _ => ("EdgeSweepsModel", "side", "I", false)
def t_mo : Nat → FieldType := fun k => match k with
  | 0 => .int
  | 1 => .int
  | 2 => .array .int
  | 3 => .array .int
  | 4 => .array .int
  | 5 => .array .int
  | 6 => .int
  | 7 => .array .long
  | 8 => .int
  | 9 => .int
  | 10 => .array .long
  | 11 => .array .long
  | 12 => .array .long
  | 13 => .array .int
  | 14 => .array .int
  | 15 => .int
  | 16 => .array .int
  | 17 => .array .boolean
  | 18 => .array .boolean
  | 19 => .int
  | 20 => .int
  | 21 => .int
  | _ => .int
abbrev classes : List vw_C := [(R_es, F_es, 9), (R_po, F_po, 6), (R_pa, F_pa, 8), (R_mo, F_mo, 23)]
def hp_fty (ci : Nat) : Nat → FieldType := match ci with
  | 0 => t_es
  | 1 => t_po
  | 2 => t_pa
  | _ => t_mo
def hp_new (ci : Nat) : List Value := match ci with
  | 0 => [.int 0, .null, .null, .int 0, .int 0, .null, .null, .null, .null]
  | 1 => [.int 0, .null, .null, .null, .null, .null]
  | 2 => [.null, .null, .null, .null, .null, .null, .int 0, .int 0]
  | _ => [.int 0, .int 0, .null, .null, .null, .null, .int 0, .null, .int 0, .int 0, .null, .null, .null, .null, .null, .int 0, .null, .null, .null, .int 0, .int 0, .int 0, .int 0]
theorem nm_es : ∀ a, a < 9 → ∀ b, b < 9 → a ≠ b → (F_es a).2.1 ≠ (F_es b).2.1 := by decide +kernel
theorem ty_es : ∀ k, k < 9 → parseFieldDescriptor (F_es k).2.2.1 = some (t_es k) := by decide +kernel
theorem df_es : ∀ k, k < 9 → defaultValue (t_es k) = vp_V (hp_new 0) k := by decide +kernel
theorem la_es : ∀ w ∈ u_ws R_es F_es 9, w ∈ hp_Ts := fun w hw => tm_in (by
  have e : u_ws R_es F_es 9 = ([104, 106, 108, 110, 112, 114, 116, 118, 120] : List Nat).filterMap (fun i => tables_1[i]?) := by decide +kernel
  rw [e] at hw
  obtain ⟨i, -, hi⟩ := List.mem_filterMap.mp hw
  exact List.mem_of_getElem? hi)
theorem nm_po : ∀ a, a < 6 → ∀ b, b < 6 → a ≠ b → (F_po a).2.1 ≠ (F_po b).2.1 := by decide +kernel
theorem ty_po : ∀ k, k < 6 → parseFieldDescriptor (F_po k).2.2.1 = some (t_po k) := by decide +kernel
theorem df_po : ∀ k, k < 6 → defaultValue (t_po k) = vp_V (hp_new 1) k := by decide +kernel
theorem la_po : ∀ w ∈ u_ws R_po F_po 6, w ∈ hp_Ts := fun w hw => tm_in (by
  have e : u_ws R_po F_po 6 = ([39, 41, 43, 45, 47, 49] : List Nat).filterMap (fun i => tables_1[i]?) := by decide +kernel
  rw [e] at hw
  obtain ⟨i, -, hi⟩ := List.mem_filterMap.mp hw
  exact List.mem_of_getElem? hi)
theorem nm_pa : ∀ a, a < 8 → ∀ b, b < 8 → a ≠ b → (F_pa a).2.1 ≠ (F_pa b).2.1 := by decide +kernel
theorem ty_pa : ∀ k, k < 8 → parseFieldDescriptor (F_pa k).2.2.1 = some (t_pa k) := by decide +kernel
theorem df_pa : ∀ k, k < 8 → defaultValue (t_pa k) = vp_V (hp_new 2) k := by decide +kernel
theorem la_pa : ∀ w ∈ u_ws R_pa F_pa 8, w ∈ hp_Ts := fun w hw => tm_in (by
  have e : u_ws R_pa F_pa 8 = ([70, 72, 74, 76, 78, 80, 82, 84] : List Nat).filterMap (fun i => tables_1[i]?) := by decide +kernel
  rw [e] at hw
  obtain ⟨i, -, hi⟩ := List.mem_filterMap.mp hw
  exact List.mem_of_getElem? hi)
theorem nm_mo : ∀ a, a < 23 → ∀ b, b < 23 → a ≠ b → (F_mo a).2.1 ≠ (F_mo b).2.1 := by decide +kernel
theorem ty_mo : ∀ k, k < 23 → parseFieldDescriptor (F_mo k).2.2.1 = some (t_mo k) := by decide +kernel
theorem df_mo : ∀ k, k < 23 → defaultValue (t_mo k) = vp_V (hp_new 3) k := by decide +kernel
theorem la_mo : ∀ w ∈ u_ws R_mo F_mo 23, w ∈ hp_Ts := fun w hw => tm_in (by
  have e : u_ws R_mo F_mo 23 = ([618, 620, 622, 624, 626, 628, 630, 632, 634, 636, 638, 640, 642, 644, 646, 648, 650, 652, 654, 656, 658, 660, 662] : List Nat).filterMap (fun i => tables_1[i]?) := by decide +kernel
  rw [e] at hw
  obtain ⟨i, -, hi⟩ := List.mem_filterMap.mp hw
  exact List.mem_of_getElem? hi)
